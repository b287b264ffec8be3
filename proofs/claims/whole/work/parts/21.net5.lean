abbrev c_N_push : ByteArray := prog_3_method_16_code
def y_N_push : MethodName := ⟨"EarthHauls$Network", "push", "(III)V"⟩
abbrev k_N_push : Cond := .code y_N_push c_N_push 7 none
theorem kin_N_push : k_N_push ∈ ew_t := tb_263
theorem dv_N_push : eh_dV y_N_push "EarthHauls$Network" 3 := ⟨rfl, by decide, by decide, by decide +kernel⟩
theorem d_N_push_0 : decode c_N_push 0 = .ok (.iload_n 3, 1) := by decide +kernel
theorem d_N_push_1 : decode c_N_push 1 = .ok (.istore 4, 2) := by decide +kernel
theorem d_N_push_3 : decode c_N_push 3 = .ok (.iconst 0, 1) := by decide +kernel
theorem d_N_push_4 : decode c_N_push 4 = .ok (.istore 5, 2) := by decide +kernel
theorem d_N_push_6 : decode c_N_push 6 = .ok (.iload 5, 2) := by decide +kernel
theorem d_N_push_8 : decode c_N_push 8 = .ok (.ldc 77, 2) := by decide +kernel
theorem d_N_push_10 : decode c_N_push 10 = .ok (.if_icmp .ge 44, 3) := by decide +kernel
theorem d_N_push_13 : decode c_N_push 13 = .ok (.iload 4, 2) := by decide +kernel
theorem d_N_push_15 : decode c_N_push 15 = .ok (.ifCond .le 39, 3) := by decide +kernel
theorem d_N_push_18 : decode c_N_push 18 = .ok (.aload_n 0, 1) := by decide +kernel
theorem d_N_push_19 : decode c_N_push 19 = .ok (.iload_n 1, 1) := by decide +kernel
theorem d_N_push_20 : decode c_N_push 20 = .ok (.invokevirtual 63, 3) := by decide +kernel
theorem d_N_push_23 : decode c_N_push 23 = .ok (.aload_n 0, 1) := by decide +kernel
theorem d_N_push_24 : decode c_N_push 24 = .ok (.iload_n 1, 1) := by decide +kernel
theorem d_N_push_25 : decode c_N_push 25 = .ok (.iload_n 2, 1) := by decide +kernel
theorem d_N_push_26 : decode c_N_push 26 = .ok (.iload 4, 2) := by decide +kernel
theorem d_N_push_28 : decode c_N_push 28 = .ok (.invokevirtual 78, 3) := by decide +kernel
theorem d_N_push_31 : decode c_N_push 31 = .ok (.istore 6, 2) := by decide +kernel
theorem d_N_push_33 : decode c_N_push 33 = .ok (.aload_n 0, 1) := by decide +kernel
theorem d_N_push_34 : decode c_N_push 34 = .ok (.iload_n 1, 1) := by decide +kernel
theorem d_N_push_35 : decode c_N_push 35 = .ok (.iload_n 2, 1) := by decide +kernel
theorem d_N_push_36 : decode c_N_push 36 = .ok (.iload 6, 2) := by decide +kernel
theorem d_N_push_38 : decode c_N_push 38 = .ok (.invokevirtual 82, 3) := by decide +kernel
theorem d_N_push_41 : decode c_N_push 41 = .ok (.iload 4, 2) := by decide +kernel
theorem d_N_push_43 : decode c_N_push 43 = .ok (.iload 6, 2) := by decide +kernel
theorem d_N_push_45 : decode c_N_push 45 = .ok (.isub, 1) := by decide +kernel
theorem d_N_push_46 : decode c_N_push 46 = .ok (.istore 4, 2) := by decide +kernel
theorem d_N_push_48 : decode c_N_push 48 = .ok (.iinc 5 1, 3) := by decide +kernel
theorem d_N_push_51 : decode c_N_push 51 = .ok (.goto (-45), 3) := by decide +kernel
theorem d_N_push_54 : decode c_N_push 54 = .ok (.return_, 1) := by decide +kernel
set_option maxHeartbeats 4000000 in
set_option maxRecDepth 100000 in
theorem m_N_push (l : Launch) (D : va_G) (cI cL : ClassId) (h0 qT qH qR qW qA qD qE : Nat) (cs AA BB : Nat → Int) (K : Nat) (a b : Nat → Nat) (w cap x0 gT gH gR0 gW gD0 gE0 : Nat → Int) (st nd : Nat) (lit : Int) (hn : eh_net cs AA BB K a b w cap) (hc : ∀ k, k < 30 → -1 ≤ cs k ∧ cs k ≤ 100000) (hcap : ∀ k, k < K → cap k ≤ 1000000000) (hst : st = 11 ∧ nd ≠ 11 ∨ st ≠ 11 ∧ nd = 11) (hst12 : st < 12) (hnd12 : nd < 12) (hlit : 0 ≤ lit ∧ lit ≤ 1000000000) (hns : eh_NS K a b w cap x0 gT gH gR0 gW) (hpl : eh_pl cs K a b w cap st nd 0 x0) (hway : eh_hw K a b cap x0 st nd lit) : eh_M (S := (Nat → Int) × (Nat → Int) × (Nat → Int) × (Nat → Int)) l y_N_push k_N_push 2 59 D classes [(cI, .int), (cL, .long)] [.ref h0, .int (eI (st : Int)), .int (eI (nd : Int)), .int (eI lit)] [(h0, .inr (1, [.ref qT, .ref qH, .ref qR, .ref qW, .ref qA, .ref qD, .ref qE, .int (eI ((2 * K : Nat) : Int))])), (qT, aI cI 82 gT), (qH, aI cI 82 gH), (qR, aI cI 82 gR0), (qW, aL cL 82 gW), (qD, aL cL 12 gD0), (qE, aI cI 12 gE0)] (fun u => eh_pl cs K a b w cap st nd 0 u.1 ∧ (∀ v, v < 12 → eh_bal K a b u.1 v = eh_bal K a b x0 v + lit * (eh_in (st = v) - eh_in (nd = v))) ∧ eh_NS K a b w cap u.1 gT gH u.2.1 gW) (fun _ => none) (fun u => [(h0, .inr (1, [.ref qT, .ref qH, .ref qR, .ref qW, .ref qA, .ref qD, .ref qE, .int (eI ((2 * K : Nat) : Int))])), (qT, aI cI 82 gT), (qH, aI cI 82 gH), (qR, aI cI 82 u.2.1), (qW, aL cL 82 gW), (qD, aL cL 12 u.2.2.1), (qE, aI cI 12 u.2.2.2)]) := by
  intro sz
  refine Met.ofW (cc := c_N_push) (maxL := 7) (ret := none) (by decide) rfl ?_
  intro p e s m args below meth c s₁ B hml hv
  obtain ⟨hargs, hsz, hP, hK, hD0, hN⟩ := hv
  have hx := B.exec
  have hb := B.bytes
  have hrt := B.returns
  have hts := atoms_spec (ws := k_N_push :: ew_t) B.pre
  have htb : ∀ w ∈ ew_t, w.before args s = true := fun w h => hts w (List.mem_cons_of_mem _ h)
  have hown : s.vm.findClass "EarthHauls$Network" = some m.cls := findClass_of_methodNamed B.named
  have hlocks := B.notSynchronized
  have hE : entryFrame m args 7 = entryFrame m ([.ref h0, .int (eI (st : Int)), .int (eI (nd : Int)), .int (eI lit)] : List Value).toArray 7 := by rw [hargs]
  rw [hE]
  clear hE hts B hargs
  generalize hRe : (headSpec _ _).room = R
  have hR1 : R.frames = 2 := by rw [← hRe]; rfl
  have hR2 : R.locals = 59 := by rw [← hRe]; rfl
  clear hRe
  generalize hQ : MQ below _ _ s 0 0 _ = Q
  subst hsz
  have hD := hD0.self (sz := s.heap.size)
  generalize hAe : va_A [(h0, .inr (1, [.ref qT, .ref qH, .ref qR, .ref qW, .ref qA, .ref qD, .ref qE, .int (eI ((2 * K : Nat) : Int))])), (qT, aI cI 82 gT), (qH, aI cI 82 gH), (qR, aI cI 82 gR0), (qW, aL cL 82 gW), (qD, aL cL 12 gD0), (qE, aI cI 12 gE0)] s.heap.size = A at hD hQ
  have hA : ∀ q : Nat, s.heap.size ≤ q → A q := fun q h => by rw [← hAe]; exact Or.inr h
  have hS : va_S A s.heap s.heap [] := va_S.rf
  have hP : va_P D classes [(h0, .inr (1, [.ref qT, .ref qH, .ref qR, .ref qW, .ref qA, .ref qD, .ref qE, .int (eI ((2 * K : Nat) : Int))])), (qT, aI cI 82 gT), (qH, aI cI 82 gH), (qR, aI cI 82 gR0), (qW, aL cL 82 gW), (qD, aL cL 12 gD0), (qE, aI cI 12 gE0)] s.heap := hP
  have hl := lv_entry ([.ref h0, .int (eI (st : Int)), .int (eI (nd : Int)), .int (eI lit)]) (n := 7) (Nat.le_of_ble_eq_true rfl)
  rw [lg_entry_eq]
  generalize (lg_sl ([.ref h0, .int (eI (st : Int)), .int (eI (nd : Int)), .int (eI lit)]) ++ List.replicate (7 - (lg_sl ([.ref h0, .int (eI (st : Int)), .int (eI (nd : Int)), .int (eI lit)])).length) Slot.unset).toArray = ls at hl ⊢
  have hl : lv_has ls 7 [(0, .ref h0), (1, .int (eI (st : Int))), (2, .int (eI (nd : Int))), (3, .int (eI lit))] := hl
  refine lv_iload_n hx hb d_N_push_0 rfl (lv_at hl 3 rfl) ?_
  refine lv_istore hx hb d_N_push_1 hl (by decide) rfl (fun ls hl => ?_)
  have hl : lv_has ls 7 [(4, .int (eI lit)), (0, .ref h0), (1, .int (eI (st : Int))), (2, .int (eI (nd : Int))), (3, .int (eI lit))] := hl
  refine lv_iconst (v := eI 0) hx hb d_N_push_3 rfl ?_
  refine lv_istore hx hb d_N_push_4 hl (by decide) rfl (fun ls hl => ?_)
  have hl : lv_has ls 7 [(5, .int (eI 0)), (4, .int (eI lit)), (0, .ref h0), (1, .int (eI (st : Int))), (2, .int (eI (nd : Int))), (3, .int (eI lit))] := hl
  have loop : ∀ (q i : Nat) (left : Int) (xx gR gD gE : Nat → Int) (H : Heap) (locs : List Loc) (ls : Array Slot), left ≤ (q : Int) → 0 ≤ left → left ≤ lit → i ≤ 637983 → (0 < left → eh_pl cs K a b w cap st nd i xx) → eh_pl cs K a b w cap st nd 0 xx → (∀ v, v < 12 → eh_bal K a b xx v = eh_bal K a b x0 v + (lit - left) * (eh_in (st = v) - eh_in (nd = v))) → eh_NS K a b w cap xx gT gH gR gW → lv_has ls 7 [(5, .int (eI ((i : Nat) : Int))), (4, .int (eI left)), (3, .int (eI lit)), (2, .int (eI (nd : Int))), (1, .int (eI (st : Int))), (0, .ref h0)] → va_P D classes [(h0, .inr (1, [.ref qT, .ref qH, .ref qR, .ref qW, .ref qA, .ref qD, .ref qE, .int (eI ((2 * K : Nat) : Int))])), (qT, aI cI 82 gT), (qH, aI cI 82 gH), (qR, aI cI 82 gR), (qW, aL cL 82 gW), (qD, aL cL 12 gD), (qE, aI cI 12 gE)] H → va_D A [(h0, .inr (1, [.ref qT, .ref qH, .ref qR, .ref qW, .ref qA, .ref qD, .ref qE, .int (eI ((2 * K : Nat) : Int))])), (qT, aI cI 82 gT), (qH, aI cI 82 gH), (qR, aI cI 82 gR), (qW, aL cL 82 gW), (qD, aL cL 12 gD), (qE, aI cI 12 gE)] → va_S A s.heap H locs → W p l e R s m args below meth c H locs 0 0 Q (F0 m 6 ls []) := by
    intro q
    induction q with
    | zero =>
      intro i left xx gR gD gE H locs ls hq h0l hll hi hpi hpz hbal hnx hl hP hD hS
      refine lv_iload hx hb d_N_push_6 (lv_at hl 0 rfl) ?_
      refine we_ldc (a := 1000000) hx hb hown (htb _ tb_264) (by decide) d_N_push_8 ?_
      refine we_icmp_ge (tgt := 54) hx hb (by constructor <;> omega) (by constructor <;> omega) d_N_push_10 rfl (fun hc10 => absurd hc10 (by omega)) (fun hc10 => ?_)
      refine lv_iload hx hb d_N_push_13 (lv_at hl 1 rfl) ?_
      refine we_if_le (tgt := 54) hx hb (by constructor <;> omega) d_N_push_15 rfl (fun hc15 => ?_) (fun hc15 => absurd hc15 (by omega))
      subst hQ
      exact W.vret hx hb hrt (fun t ht hW => ⟨⟨(xx, gR, gD, gE), rfl, ⟨hpz, fun v hv => by rw [hbal v hv, show lit - left = lit by omega], hnx⟩, by rw [ht]; exact hP, hD⟩, hS.F ht⟩) hS.2.2 d_N_push_54
    | succ q ih =>
      intro i left xx gR gD gE H locs ls hq h0l hll hi hpi hpz hbal hnx hl hP hD hS
      refine lv_iload hx hb d_N_push_6 (lv_at hl 0 rfl) ?_
      refine we_ldc (a := 1000000) hx hb hown (htb _ tb_264) (by decide) d_N_push_8 ?_
      refine we_icmp_ge (tgt := 54) hx hb (by constructor <;> omega) (by constructor <;> omega) d_N_push_10 rfl (fun hc10 => absurd hc10 (by omega)) (fun hc10 => ?_)
      refine lv_iload hx hb d_N_push_13 (lv_at hl 1 rfl) ?_
      refine we_if_le (tgt := 54) hx hb (by constructor <;> omega) d_N_push_15 rfl (fun hc15 => ?_) (fun hc15 => ?_)
      ·
        subst hQ
        exact W.vret hx hb hrt (fun t ht hW => ⟨⟨(xx, gR, gD, gE), rfl, ⟨hpz, fun v hv => by rw [hbal v hv, show lit - left = lit by omega], hnx⟩, by rw [ht]; exact hP, hD⟩, hS.F ht⟩) hS.2.2 d_N_push_54
      ·
        refine lv_aload_n hx hb d_N_push_18 rfl (lv_at hl 5 rfl) ?_
        refine lv_iload_n hx hb d_N_push_19 rfl (lv_at hl 4 rfl) ?_
        refine eh_cMV (As := [.int (eI (st : Int))]) (rest := []) (q := (R_N, T_N, 8)) (wr := []) hx hb hml hown htb hN (m_N_findWays l D cI cL h0 qT qH qR qW qA qD qE K a b w cap xx gT gH gR gW gD gE st hst12 hnx (eh_cx_of hn hc hcap hpz)) 1 ⟨tb_265, tb_267, ts_15, tb_2, kin_N_findWays⟩ dv_N_findWays ⟨by rw [hR1]; decide, by rw [hR2]; decide⟩ hK hP hD hS hA 0 rfl rfl [0, 1, 2, 3, 4, 5, 6] [] rfl rfl (by decide) rfl (by decide) (by decide) [0, 1] rfl rfl rfl hl.1 (by decide) d_N_push_20 ⟨Nat.zero_le _, Nat.zero_le _⟩ (fun u H locs hu hP hD hS => ?_)
        obtain ⟨gD2, gE2⟩ := u
        have hfE : eh_fE K a b w cap xx st gD2 gE2 := hu
        obtain ⟨et, L, hEt, hwy, hlen, hpos, hle, hp1, hp0, hb2⟩ := eh_turn2 (left := left) hn hc hcap hst hst12 hnd12 (hpi (by omega)) (hway xx (lit - left) (by omega) (by omega) hpz.1 (fun v hv => hbal v hv)) (by omega) hfE
        have hcx2 := eh_cx_of hn hc hcap hpz
        have hP := hP.sub (ws' := [(h0, .inr (1, [.ref qT, .ref qH, .ref qR, .ref qW, .ref qA, .ref qD, .ref qE, .int (eI ((2 * K : Nat) : Int))])), (qT, aI cI 82 gT), (qH, aI cI 82 gH), (qR, aI cI 82 gR), (qW, aL cL 82 gW), (qD, aL cL 12 gD2), (qE, aI cI 12 gE2)]) [0, 1, 2, 3, 4, 5, 6] rfl
        have hD := hD.sub (ws' := [(h0, .inr (1, [.ref qT, .ref qH, .ref qR, .ref qW, .ref qA, .ref qD, .ref qE, .int (eI ((2 * K : Nat) : Int))])), (qT, aI cI 82 gT), (qH, aI cI 82 gH), (qR, aI cI 82 gR), (qW, aL cL 82 gW), (qD, aL cL 12 gD2), (qE, aI cI 12 gE2)]) [0, 1, 2, 3, 4, 5, 6] (by decide) rfl
        refine lv_aload_n hx hb d_N_push_23 rfl (lv_at hl 5 rfl) ?_
        refine lv_iload_n hx hb d_N_push_24 rfl (lv_at hl 4 rfl) ?_
        refine lv_iload_n hx hb d_N_push_25 rfl (lv_at hl 3 rfl) ?_
        refine lv_iload hx hb d_N_push_26 (lv_at hl 1 rfl) ?_
        refine eh_cRV (As := [.int (eI (st : Int)), .int (eI (nd : Int)), .int (eI left)]) (rest := []) (v := .int (eI (eh_mn (eh_rm cap xx) L left))) (q := (R_N, T_N, 8)) hx hb hml hown htb hN (r_N_roomOfWay l D cI cL h0 qT qH qR qW qA qD qE K a b cap xx gT gR gE2 et st nd left L hcx2.1 hst12 (fun e he => (hnx e he).1) (fun e he => (hnx e he).2.2.1) hEt hwy hlen (by omega) (fun e he => eh_cx_rm hcx2 he)) 3 ⟨tb_273, tb_275, ts_16, tb_2, kin_N_roomOfWay⟩ dv_N_roomOfWay ⟨by rw [hR1]; decide, by rw [hR2]; decide⟩ hK hP 0 rfl rfl [0, 1, 3, 6] rfl [0, 1] rfl rfl rfl hl.1 (by decide) d_N_push_28 ⟨Nat.zero_le _, Nat.zero_le _⟩ ?_
        refine lv_istore hx hb d_N_push_31 hl (by decide) rfl (fun ls hl => ?_)
        have hl : lv_has ls 7 [(6, .int (eI (eh_mn (eh_rm cap xx) L left))), (5, .int (eI ((i : Nat) : Int))), (4, .int (eI left)), (3, .int (eI lit)), (2, .int (eI (nd : Int))), (1, .int (eI (st : Int))), (0, .ref h0)] := hl
        refine lv_aload_n hx hb d_N_push_33 rfl (lv_at hl 6 rfl) ?_
        refine lv_iload_n hx hb d_N_push_34 rfl (lv_at hl 5 rfl) ?_
        refine lv_iload_n hx hb d_N_push_35 rfl (lv_at hl 4 rfl) ?_
        refine lv_iload hx hb d_N_push_36 (lv_at hl 0 rfl) ?_
        refine eh_cMV (As := [.int (eI (st : Int)), .int (eI (nd : Int)), .int (eI (eh_mn (eh_rm cap xx) L left))]) (rest := []) (q := (R_N, T_N, 8)) (wr := [(qH, aI cI 82 gH), (qW, aL cL 82 gW), (qD, aL cL 12 gD2)]) hx hb hml hown htb hN (m_N_fillWay l D cI cL h0 qT qH qR qW qA qD qE K a b cap xx gT gR gE2 et st nd (eh_mn (eh_rm cap xx) L left) L hcx2.1 hst12 (fun e he => (hnx e he).1) (fun e he => (hnx e he).2.2.1) hEt hwy hlen) 3 ⟨tb_278, tb_280, ts_17, tb_2, kin_N_fillWay⟩ dv_N_fillWay ⟨by rw [hR1]; decide, by rw [hR2]; decide⟩ hK hP hD hS hA 0 rfl rfl [0, 1, 3, 6] [2, 4, 5] rfl rfl (by decide) rfl (by decide) (by decide) [0, 1] rfl rfl rfl hl.1 (by decide) d_N_push_38 ⟨Nat.zero_le _, Nat.zero_le _⟩ (fun u H locs hu hP hD hS => ?_)
        obtain ⟨gR2, rfl⟩ : ∃ z, z = u := ⟨_, rfl⟩
        have hgR2 := hu
        have hP := hP.sub (ws' := [(h0, .inr (1, [.ref qT, .ref qH, .ref qR, .ref qW, .ref qA, .ref qD, .ref qE, .int (eI ((2 * K : Nat) : Int))])), (qT, aI cI 82 gT), (qH, aI cI 82 gH), (qR, aI cI 82 gR2), (qW, aL cL 82 gW), (qD, aL cL 12 gD2), (qE, aI cI 12 gE2)]) [3, 4, 0, 5, 1, 2, 6] rfl
        have hD := hD.sub (ws' := [(h0, .inr (1, [.ref qT, .ref qH, .ref qR, .ref qW, .ref qA, .ref qD, .ref qE, .int (eI ((2 * K : Nat) : Int))])), (qT, aI cI 82 gT), (qH, aI cI 82 gH), (qR, aI cI 82 gR2), (qW, aL cL 82 gW), (qD, aL cL 12 gD2), (qE, aI cI 12 gE2)]) [3, 4, 0, 5, 1, 2, 6] (by decide) rfl
        refine lv_iload hx hb d_N_push_41 (lv_at hl 2 rfl) ?_
        refine lv_iload hx hb d_N_push_43 (lv_at hl 0 rfl) ?_
        refine we_isub hx hb d_N_push_45 ?_
        refine lv_istore hx hb d_N_push_46 hl (by decide) rfl (fun ls hl => ?_)
        have hl : lv_has ls 7 [(4, .int (eI (left - (eh_mn (eh_rm cap xx) L left)))), (6, .int (eI (eh_mn (eh_rm cap xx) L left))), (5, .int (eI ((i : Nat) : Int))), (3, .int (eI lit)), (2, .int (eI (nd : Int))), (1, .int (eI (st : Int))), (0, .ref h0)] := hl
        refine lv_iinc (v := eI (((i : Nat) : Int) + 1)) hx hb d_N_push_48 hl (k := 2) rfl (eI_add _ _) (by decide) rfl (fun ls hl => ?_)
        have hl : lv_has ls 7 [(5, .int (eI (((i : Nat) : Int) + 1))), (4, .int (eI (left - (eh_mn (eh_rm cap xx) L left)))), (6, .int (eI (eh_mn (eh_rm cap xx) L left))), (3, .int (eI lit)), (2, .int (eI (nd : Int))), (1, .int (eI (st : Int))), (0, .ref h0)] := hl
        refine lv_goto (tgt := 6) hx hb d_N_push_51 rfl ?_
        have hi2 := eh_pl_le (hpi (by omega))
        exact ih (i + 1) (left - eh_mn (eh_rm cap xx) L left) _ gR2 gD2 gE2 H locs ls (by omega) (by omega) (by omega) (by omega) (fun _ => hp1 (by omega)) hp0 (fun v hv => by
          rw [hb2 v, hbal v hv, show lit - (left - eh_mn (eh_rm cap xx) L left) = (lit - left) + eh_mn (eh_rm cap xx) L left by omega, Int.add_mul]; omega) (fun e he => ⟨(hnx e he).1, (hnx e he).2.1, hgR2 e he, (hnx e he).2.2.2⟩) (lv_sub hl [0, 1, 3, 4, 5, 6] rfl) hP hD hS
  exact loop lit.toNat 0 lit x0 gR0 gD0 gE0 s.heap [] ls (by omega) (by omega) (by omega) (by omega) (fun _ => hpl) hpl (fun v _ => by rw [Int.sub_self, Int.zero_mul]; omega) hns (lv_sub hl [0, 1, 5, 4, 3, 2] rfl) hP hD hS
