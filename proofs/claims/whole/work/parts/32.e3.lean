abbrev c_E_openBorders : ByteArray := prog_1_method_31_code
def y_E_openBorders : MethodName := ⟨"EarthHauls", "openBorders", "()I"⟩
abbrev k_E_openBorders : Cond := .code y_E_openBorders c_E_openBorders 3 (some .int)
theorem kin_E_openBorders : k_E_openBorders ∈ ew_t := tb_569
theorem dv_E_openBorders : eh_dV y_E_openBorders "EarthHauls" 0 := ⟨rfl, by decide, by decide, by decide +kernel⟩
theorem d_E_openBorders_0 : decode c_E_openBorders 0 = .ok (.iconst 0, 1) := by decide +kernel
theorem d_E_openBorders_1 : decode c_E_openBorders 1 = .ok (.istore_n 1, 1) := by decide +kernel
theorem d_E_openBorders_2 : decode c_E_openBorders 2 = .ok (.iconst 0, 1) := by decide +kernel
theorem d_E_openBorders_3 : decode c_E_openBorders 3 = .ok (.istore_n 2, 1) := by decide +kernel
theorem d_E_openBorders_4 : decode c_E_openBorders 4 = .ok (.iload_n 2, 1) := by decide +kernel
theorem d_E_openBorders_5 : decode c_E_openBorders 5 = .ok (.aload_n 0, 1) := by decide +kernel
theorem d_E_openBorders_6 : decode c_E_openBorders 6 = .ok (.invokevirtual 78, 3) := by decide +kernel
theorem d_E_openBorders_9 : decode c_E_openBorders 9 = .ok (.if_icmp .ge 21, 3) := by decide +kernel
theorem d_E_openBorders_12 : decode c_E_openBorders 12 = .ok (.aload_n 0, 1) := by decide +kernel
theorem d_E_openBorders_13 : decode c_E_openBorders 13 = .ok (.getfield 19, 3) := by decide +kernel
theorem d_E_openBorders_16 : decode c_E_openBorders 16 = .ok (.iload_n 2, 1) := by decide +kernel
theorem d_E_openBorders_17 : decode c_E_openBorders 17 = .ok (.baload, 1) := by decide +kernel
theorem d_E_openBorders_18 : decode c_E_openBorders 18 = .ok (.ifCond .ne 6, 3) := by decide +kernel
theorem d_E_openBorders_21 : decode c_E_openBorders 21 = .ok (.iinc 1 1, 3) := by decide +kernel
theorem d_E_openBorders_24 : decode c_E_openBorders 24 = .ok (.iinc 2 1, 3) := by decide +kernel
theorem d_E_openBorders_27 : decode c_E_openBorders 27 = .ok (.goto (-23), 3) := by decide +kernel
theorem d_E_openBorders_30 : decode c_E_openBorders 30 = .ok (.iload_n 1, 1) := by decide +kernel
theorem d_E_openBorders_31 : decode c_E_openBorders 31 = .ok (.ireturn, 1) := by decide +kernel
set_option maxHeartbeats 4000000 in
set_option maxRecDepth 100000 in
theorem r_E_openBorders (l : Launch) (D : va_G) (cI cL cZ cS cY : ClassId) (ad : Nat → Nat) (n : Nat) (sh ra plv pco : Int) (ln cb la : Nat → Int) (cu cl fu fl : Nat → Nat) (ys yl yp : Nat → Int) (hE : eh_ES n sh ra ln cb la cu cl fu fl ys yl yp) : eh_R l y_E_openBorders k_E_openBorders 2 40 D classes [(cI, .int), (cL, .long), (cZ, .boolean), (cS, .object "EarthHauls$Section"), (cY, .object "EarthHauls$Yard")] [.ref (ad 0)] [((ad 0), .inr (4, [.ref (ad 1), .ref (ad 2), .ref (ad 3), .ref (ad 4), .ref (ad 5), .ref (ad 24), .int (eI ((n : Nat) : Int)), .int (eI sh), .int (eI ra), .int (eI plv), .long (eL pco)])), ((ad 1), .inl (cS, 5, .inr (.inr (.inr (.inr (eh_o5 (ad 6) (ad 7) (ad 8) (ad 9) (ad 10))))))), ((ad 2), aI cI 4 ln), ((ad 3), aI cZ 3 cb), ((ad 4), .inl (cY, 3, .inr (.inr (.inr (.inr (eh_o3 (ad 21) (ad 22) (ad 23))))))), ((ad 5), aI cI 30 la), ((ad 6), .inr (2, [.ref (ad 11), .ref (ad 16)])), ((ad 7), .inr (2, [.ref (ad 12), .ref (ad 17)])), ((ad 8), .inr (2, [.ref (ad 13), .ref (ad 18)])), ((ad 9), .inr (2, [.ref (ad 14), .ref (ad 19)])), ((ad 10), .inr (2, [.ref (ad 15), .ref (ad 20)])), ((ad 11), .inr (0, [.long (eL ((cu 0 : Nat) : Int)), .long (eL ((cl 0 : Nat) : Int))])), ((ad 12), .inr (0, [.long (eL ((cu 1 : Nat) : Int)), .long (eL ((cl 1 : Nat) : Int))])), ((ad 13), .inr (0, [.long (eL ((cu 2 : Nat) : Int)), .long (eL ((cl 2 : Nat) : Int))])), ((ad 14), .inr (0, [.long (eL ((cu 3 : Nat) : Int)), .long (eL ((cl 3 : Nat) : Int))])), ((ad 15), .inr (0, [.long (eL ((cu 4 : Nat) : Int)), .long (eL ((cl 4 : Nat) : Int))])), ((ad 16), .inr (0, [.long (eL ((fu 0 : Nat) : Int)), .long (eL ((fl 0 : Nat) : Int))])), ((ad 17), .inr (0, [.long (eL ((fu 1 : Nat) : Int)), .long (eL ((fl 1 : Nat) : Int))])), ((ad 18), .inr (0, [.long (eL ((fu 2 : Nat) : Int)), .long (eL ((fl 2 : Nat) : Int))])), ((ad 19), .inr (0, [.long (eL ((fu 3 : Nat) : Int)), .long (eL ((fl 3 : Nat) : Int))])), ((ad 20), .inr (0, [.long (eL ((fu 4 : Nat) : Int)), .long (eL ((fl 4 : Nat) : Int))])), ((ad 21), .inr (3, [.int (eI (ys 0)), .int (eI (yl 0)), .int (eI (yp 0))])), ((ad 22), .inr (3, [.int (eI (ys 1)), .int (eI (yl 1)), .int (eI (yp 1))])), ((ad 23), .inr (3, [.int (eI (ys 2)), .int (eI (yl 2)), .int (eI (yp 2))]))] (.int (eI (eh_ob cb (n - 2)))) := by
  refine Met.ofW (cc := c_E_openBorders) (maxL := 3) (ret := (some .int)) (by decide) rfl ?_
  intro p e s m args below meth c s₁ B hml hv
  obtain ⟨hargs, hP, hK, hN⟩ := hv
  have hx := B.exec
  have hb := B.bytes
  have hrt := B.returns
  have hts := atoms_spec (ws := k_E_openBorders :: ew_t) B.pre
  have htb : ∀ w ∈ ew_t, w.before args s = true := fun w h => hts w (List.mem_cons_of_mem _ h)
  have hown : s.vm.findClass "EarthHauls" = some m.cls := findClass_of_methodNamed B.named
  have hlocks := B.notSynchronized
  have hE : entryFrame m args 3 = entryFrame m ([.ref (ad 0)] : List Value).toArray 3 := by rw [hargs]
  rw [hE]
  clear hE hts B hargs
  generalize hRe : (headSpec _ _).room = R
  have hR1 : R.frames = 2 := by rw [← hRe]; rfl
  have hR2 : R.locals = 40 := by rw [← hRe]; rfl
  clear hRe
  generalize hQ : MQ below _ _ s 0 0 _ = Q
  have hP : va_P D classes [((ad 0), .inr (4, [.ref (ad 1), .ref (ad 2), .ref (ad 3), .ref (ad 4), .ref (ad 5), .ref (ad 24), .int (eI ((n : Nat) : Int)), .int (eI sh), .int (eI ra), .int (eI plv), .long (eL pco)])), ((ad 1), .inl (cS, 5, .inr (.inr (.inr (.inr (eh_o5 (ad 6) (ad 7) (ad 8) (ad 9) (ad 10))))))), ((ad 2), aI cI 4 ln), ((ad 3), aI cZ 3 cb), ((ad 4), .inl (cY, 3, .inr (.inr (.inr (.inr (eh_o3 (ad 21) (ad 22) (ad 23))))))), ((ad 5), aI cI 30 la), ((ad 6), .inr (2, [.ref (ad 11), .ref (ad 16)])), ((ad 7), .inr (2, [.ref (ad 12), .ref (ad 17)])), ((ad 8), .inr (2, [.ref (ad 13), .ref (ad 18)])), ((ad 9), .inr (2, [.ref (ad 14), .ref (ad 19)])), ((ad 10), .inr (2, [.ref (ad 15), .ref (ad 20)])), ((ad 11), .inr (0, [.long (eL ((cu 0 : Nat) : Int)), .long (eL ((cl 0 : Nat) : Int))])), ((ad 12), .inr (0, [.long (eL ((cu 1 : Nat) : Int)), .long (eL ((cl 1 : Nat) : Int))])), ((ad 13), .inr (0, [.long (eL ((cu 2 : Nat) : Int)), .long (eL ((cl 2 : Nat) : Int))])), ((ad 14), .inr (0, [.long (eL ((cu 3 : Nat) : Int)), .long (eL ((cl 3 : Nat) : Int))])), ((ad 15), .inr (0, [.long (eL ((cu 4 : Nat) : Int)), .long (eL ((cl 4 : Nat) : Int))])), ((ad 16), .inr (0, [.long (eL ((fu 0 : Nat) : Int)), .long (eL ((fl 0 : Nat) : Int))])), ((ad 17), .inr (0, [.long (eL ((fu 1 : Nat) : Int)), .long (eL ((fl 1 : Nat) : Int))])), ((ad 18), .inr (0, [.long (eL ((fu 2 : Nat) : Int)), .long (eL ((fl 2 : Nat) : Int))])), ((ad 19), .inr (0, [.long (eL ((fu 3 : Nat) : Int)), .long (eL ((fl 3 : Nat) : Int))])), ((ad 20), .inr (0, [.long (eL ((fu 4 : Nat) : Int)), .long (eL ((fl 4 : Nat) : Int))])), ((ad 21), .inr (3, [.int (eI (ys 0)), .int (eI (yl 0)), .int (eI (yp 0))])), ((ad 22), .inr (3, [.int (eI (ys 1)), .int (eI (yl 1)), .int (eI (yp 1))])), ((ad 23), .inr (3, [.int (eI (ys 2)), .int (eI (yl 2)), .int (eI (yp 2))]))] s.heap := hP
  have hl := lv_entry ([.ref (ad 0)]) (n := 3) (Nat.le_of_ble_eq_true rfl)
  rw [lg_entry_eq]
  generalize (lg_sl ([.ref (ad 0)]) ++ List.replicate (3 - (lg_sl ([.ref (ad 0)])).length) Slot.unset).toArray = ls at hl ⊢
  have hl : lv_has ls 3 [(0, .ref (ad 0))] := hl
  have hn5 := hE.1
  refine lv_iconst (v := eI 0) hx hb d_E_openBorders_0 rfl ?_
  refine lv_istore_n hx hb d_E_openBorders_1 rfl hl (by decide) rfl (fun ls hl => ?_)
  have hl : lv_has ls 3 [(1, .int (eI 0)), (0, .ref (ad 0))] := hl
  refine lv_iconst (v := eI 0) hx hb d_E_openBorders_2 rfl ?_
  refine lv_istore_n hx hb d_E_openBorders_3 rfl hl (by decide) rfl (fun ls hl => ?_)
  have hl : lv_has ls 3 [(2, .int (eI 0)), (1, .int (eI 0)), (0, .ref (ad 0))] := hl
  have hbo : (if 2 < n then (n : Int) - 2 else 0) = ((n - 2 : Nat) : Int) := by split <;> omega
  have loop : ∀ (q i : Nat) (ls : Array Slot), n - 2 - i = q → i ≤ n - 2 → lv_has ls 3 [(2, .int (eI ((i : Nat) : Int))), (1, .int (eI (eh_ob cb i))), (0, .ref (ad 0))] → W p l e R s m args below meth c s.heap [] 0 0 Q (F0 m 4 ls []) := by
    intro q
    induction q with
    | zero =>
      intro i ls hq hi hl
      have hin : i = n - 2 := by omega
      subst hin
      refine lv_iload_n hx hb d_E_openBorders_4 rfl (lv_at hl 0 rfl) ?_
      refine lv_aload_n hx hb d_E_openBorders_5 rfl (lv_at hl 2 rfl) ?_
      refine eh_cRV (As := []) (rest := [.int (eI ((n - 2 : Nat) : Int))]) (v := .int (eI (if 2 < n then (n : Int) - 2 else 0))) (q := (R_E, T_E, 11)) hx hb hml hown htb hN (r_E_borders l D cI cL cZ cS cY ad n sh ra plv pco ln cb la cu cl fu fl ys yl yp hE) 0 ⟨tb_453, tb_455, ts_23, tb_1, kin_E_borders⟩ dv_E_borders ⟨by rw [hR1]; decide, by rw [hR2]; decide⟩ hK hP 0 rfl rfl [0, 1, 2, 3, 4, 5, 6, 7, 8, 9, 10, 11, 12, 13, 14, 15, 16, 17, 18, 19, 20, 21, 22, 23] rfl [0, 1, 2, 3, 4] rfl rfl rfl hl.1 (Nat.le_of_ble_eq_true rfl) d_E_openBorders_6 ⟨Nat.zero_le _, Nat.zero_le _⟩ ?_
      refine we_icmp_ge (tgt := 30) hx hb (by constructor <;> omega) (by rw [hbo]; constructor <;> omega) d_E_openBorders_9 rfl (fun hc9 => ?_) (fun hc9 => absurd hc9 (by omega))
      refine lv_iload_n hx hb d_E_openBorders_30 rfl (lv_at hl 1 rfl) ?_
      subst hQ
      exact W.iret hx hb hrt (fun t9 ht hW => ⟨rfl, ht⟩) (fun q h => by cases h) d_E_openBorders_31
    | succ q ih =>
      intro i ls hq hi hl
      have hcb := hE.2.2.2.2.1 i (by omega)
      refine lv_iload_n hx hb d_E_openBorders_4 rfl (lv_at hl 0 rfl) ?_
      refine lv_aload_n hx hb d_E_openBorders_5 rfl (lv_at hl 2 rfl) ?_
      refine eh_cRV (As := []) (rest := [.int (eI ((i : Nat) : Int))]) (v := .int (eI (if 2 < n then (n : Int) - 2 else 0))) (q := (R_E, T_E, 11)) hx hb hml hown htb hN (r_E_borders l D cI cL cZ cS cY ad n sh ra plv pco ln cb la cu cl fu fl ys yl yp hE) 0 ⟨tb_453, tb_455, ts_23, tb_1, kin_E_borders⟩ dv_E_borders ⟨by rw [hR1]; decide, by rw [hR2]; decide⟩ hK hP 0 rfl rfl [0, 1, 2, 3, 4, 5, 6, 7, 8, 9, 10, 11, 12, 13, 14, 15, 16, 17, 18, 19, 20, 21, 22, 23] rfl [0, 1, 2, 3, 4] rfl rfl rfl hl.1 (Nat.le_of_ble_eq_true rfl) d_E_openBorders_6 ⟨Nat.zero_le _, Nat.zero_le _⟩ ?_
      refine we_icmp_ge (tgt := 30) hx hb (by constructor <;> omega) (by rw [hbo]; constructor <;> omega) d_E_openBorders_9 rfl (fun hc9 => absurd hc9 (by omega)) (fun hc9 => ?_)
      refine lv_aload_n hx hb d_E_openBorders_12 rfl (lv_at hl 2 rfl) ?_
      refine va_get (D := D) (ci := 4) (v := .ref (ad 3)) (C := R_E) (T := T_E) (N := 11) hx hb htb in_E hown hK hP 0 rfl rfl 2 (by decide) (htb _ tb_126) (fun _ h9 => h9) rfl d_E_openBorders_13 ?_
      refine lv_iload_n hx hb d_E_openBorders_16 rfl (lv_at hl 0 rfl) ?_
      refine we_zald hx hb hK hP 3 2 rfl rfl i rfl (by omega) (by decide) d_E_openBorders_17 ?_
      refine we_if_ne (tgt := 24) hx hb (by constructor <;> omega) d_E_openBorders_18 rfl (fun hc18 => ?_) (fun hc18 => ?_)
      ·
        refine lv_iinc (v := eI (((i : Nat) : Int) + 1)) hx hb d_E_openBorders_24 hl (k := 0) rfl (eI_add _ _) (by decide) rfl (fun ls hl => ?_)
        have hl : lv_has ls 3 [(2, .int (eI (((i : Nat) : Int) + 1))), (1, .int (eI (eh_ob cb i))), (0, .ref (ad 0))] := hl
        refine lv_goto (tgt := 4) hx hb d_E_openBorders_27 rfl ?_
        have hs9 : (eh_ob cb i) = eh_ob cb (i + 1) := by
          show _ = eh_ob cb i + (if cb i = 0 then 1 else 0)
          rw [if_neg (by omega)]; omega
        rw [hs9] at hl
        exact ih (i + 1) ls (by omega) (by omega) (lv_sub hl [0, 1, 2] rfl)
      ·
        refine lv_iinc (v := eI ((eh_ob cb i) + 1)) hx hb d_E_openBorders_21 hl (k := 1) rfl (eI_add _ _) (by decide) rfl (fun ls hl => ?_)
        have hl : lv_has ls 3 [(1, .int (eI ((eh_ob cb i) + 1))), (2, .int (eI ((i : Nat) : Int))), (0, .ref (ad 0))] := hl
        refine lv_iinc (v := eI (((i : Nat) : Int) + 1)) hx hb d_E_openBorders_24 hl (k := 1) rfl (eI_add _ _) (by decide) rfl (fun ls hl => ?_)
        have hl : lv_has ls 3 [(2, .int (eI (((i : Nat) : Int) + 1))), (1, .int (eI ((eh_ob cb i) + 1))), (0, .ref (ad 0))] := hl
        refine lv_goto (tgt := 4) hx hb d_E_openBorders_27 rfl ?_
        have hs9 : ((eh_ob cb i) + 1) = eh_ob cb (i + 1) := by
          show _ = eh_ob cb i + (if cb i = 0 then 1 else 0)
          rw [if_pos (by omega)]
        rw [hs9] at hl
        exact ih (i + 1) ls (by omega) (by omega) (lv_sub hl [0, 1, 2] rfl)
  exact loop (n - 2) 0 ls (by omega) (by omega) (lv_sub hl [0, 1, 2] rfl)
abbrev c_E_possibleHauls : ByteArray := prog_1_method_33_code
def y_E_possibleHauls : MethodName := ⟨"EarthHauls", "possibleHauls", "()I"⟩
abbrev k_E_possibleHauls : Cond := .code y_E_possibleHauls c_E_possibleHauls 4 (some .int)
theorem kin_E_possibleHauls : k_E_possibleHauls ∈ ew_t := tb_581
theorem dv_E_possibleHauls : eh_dV y_E_possibleHauls "EarthHauls" 0 := ⟨rfl, by decide, by decide, by decide +kernel⟩
theorem d_E_possibleHauls_0 : decode c_E_possibleHauls 0 = .ok (.iconst 0, 1) := by decide +kernel
theorem d_E_possibleHauls_1 : decode c_E_possibleHauls 1 = .ok (.istore_n 1, 1) := by decide +kernel
theorem d_E_possibleHauls_2 : decode c_E_possibleHauls 2 = .ok (.iconst 0, 1) := by decide +kernel
theorem d_E_possibleHauls_3 : decode c_E_possibleHauls 3 = .ok (.istore_n 2, 1) := by decide +kernel
theorem d_E_possibleHauls_4 : decode c_E_possibleHauls 4 = .ok (.iload_n 2, 1) := by decide +kernel
theorem d_E_possibleHauls_5 : decode c_E_possibleHauls 5 = .ok (.bipush 6, 2) := by decide +kernel
theorem d_E_possibleHauls_7 : decode c_E_possibleHauls 7 = .ok (.if_icmp .ge 35, 3) := by decide +kernel
theorem d_E_possibleHauls_10 : decode c_E_possibleHauls 10 = .ok (.iconst 0, 1) := by decide +kernel
theorem d_E_possibleHauls_11 : decode c_E_possibleHauls 11 = .ok (.istore_n 3, 1) := by decide +kernel
theorem d_E_possibleHauls_12 : decode c_E_possibleHauls 12 = .ok (.iload_n 3, 1) := by decide +kernel
theorem d_E_possibleHauls_13 : decode c_E_possibleHauls 13 = .ok (.iconst 5, 1) := by decide +kernel
theorem d_E_possibleHauls_14 : decode c_E_possibleHauls 14 = .ok (.if_icmp .ge 22, 3) := by decide +kernel
theorem d_E_possibleHauls_17 : decode c_E_possibleHauls 17 = .ok (.aload_n 0, 1) := by decide +kernel
theorem d_E_possibleHauls_18 : decode c_E_possibleHauls 18 = .ok (.iload_n 2, 1) := by decide +kernel
theorem d_E_possibleHauls_19 : decode c_E_possibleHauls 19 = .ok (.iload_n 3, 1) := by decide +kernel
theorem d_E_possibleHauls_20 : decode c_E_possibleHauls 20 = .ok (.invokevirtual 128, 3) := by decide +kernel
theorem d_E_possibleHauls_23 : decode c_E_possibleHauls 23 = .ok (.iconst (-1), 1) := by decide +kernel
theorem d_E_possibleHauls_24 : decode c_E_possibleHauls 24 = .ok (.if_icmp .eq 6, 3) := by decide +kernel
theorem d_E_possibleHauls_27 : decode c_E_possibleHauls 27 = .ok (.iinc 1 1, 3) := by decide +kernel
theorem d_E_possibleHauls_30 : decode c_E_possibleHauls 30 = .ok (.iinc 3 1, 3) := by decide +kernel
theorem d_E_possibleHauls_33 : decode c_E_possibleHauls 33 = .ok (.goto (-21), 3) := by decide +kernel
theorem d_E_possibleHauls_36 : decode c_E_possibleHauls 36 = .ok (.iinc 2 1, 3) := by decide +kernel
theorem d_E_possibleHauls_39 : decode c_E_possibleHauls 39 = .ok (.goto (-35), 3) := by decide +kernel
theorem d_E_possibleHauls_42 : decode c_E_possibleHauls 42 = .ok (.iload_n 1, 1) := by decide +kernel
theorem d_E_possibleHauls_43 : decode c_E_possibleHauls 43 = .ok (.ireturn, 1) := by decide +kernel
set_option maxHeartbeats 4000000 in
set_option maxRecDepth 100000 in
theorem r_E_possibleHauls (l : Launch) (D : va_G) (cI cL cZ cS cY : ClassId) (ad : Nat → Nat) (n : Nat) (sh ra plv pco : Int) (ln cb la : Nat → Int) (cu cl fu fl : Nat → Nat) (ys yl yp : Nat → Int) (hE : eh_ES n sh ra ln cb la cu cl fu fl ys yl yp) : eh_R l y_E_possibleHauls k_E_possibleHauls 4 89 D classes [(cI, .int), (cL, .long), (cZ, .boolean), (cS, .object "EarthHauls$Section"), (cY, .object "EarthHauls$Yard")] [.ref (ad 0)] [((ad 0), .inr (4, [.ref (ad 1), .ref (ad 2), .ref (ad 3), .ref (ad 4), .ref (ad 5), .ref (ad 24), .int (eI ((n : Nat) : Int)), .int (eI sh), .int (eI ra), .int (eI plv), .long (eL pco)])), ((ad 1), .inl (cS, 5, .inr (.inr (.inr (.inr (eh_o5 (ad 6) (ad 7) (ad 8) (ad 9) (ad 10))))))), ((ad 2), aI cI 4 ln), ((ad 3), aI cZ 3 cb), ((ad 4), .inl (cY, 3, .inr (.inr (.inr (.inr (eh_o3 (ad 21) (ad 22) (ad 23))))))), ((ad 5), aI cI 30 la), ((ad 6), .inr (2, [.ref (ad 11), .ref (ad 16)])), ((ad 7), .inr (2, [.ref (ad 12), .ref (ad 17)])), ((ad 8), .inr (2, [.ref (ad 13), .ref (ad 18)])), ((ad 9), .inr (2, [.ref (ad 14), .ref (ad 19)])), ((ad 10), .inr (2, [.ref (ad 15), .ref (ad 20)])), ((ad 11), .inr (0, [.long (eL ((cu 0 : Nat) : Int)), .long (eL ((cl 0 : Nat) : Int))])), ((ad 12), .inr (0, [.long (eL ((cu 1 : Nat) : Int)), .long (eL ((cl 1 : Nat) : Int))])), ((ad 13), .inr (0, [.long (eL ((cu 2 : Nat) : Int)), .long (eL ((cl 2 : Nat) : Int))])), ((ad 14), .inr (0, [.long (eL ((cu 3 : Nat) : Int)), .long (eL ((cl 3 : Nat) : Int))])), ((ad 15), .inr (0, [.long (eL ((cu 4 : Nat) : Int)), .long (eL ((cl 4 : Nat) : Int))])), ((ad 16), .inr (0, [.long (eL ((fu 0 : Nat) : Int)), .long (eL ((fl 0 : Nat) : Int))])), ((ad 17), .inr (0, [.long (eL ((fu 1 : Nat) : Int)), .long (eL ((fl 1 : Nat) : Int))])), ((ad 18), .inr (0, [.long (eL ((fu 2 : Nat) : Int)), .long (eL ((fl 2 : Nat) : Int))])), ((ad 19), .inr (0, [.long (eL ((fu 3 : Nat) : Int)), .long (eL ((fl 3 : Nat) : Int))])), ((ad 20), .inr (0, [.long (eL ((fu 4 : Nat) : Int)), .long (eL ((fl 4 : Nat) : Int))])), ((ad 21), .inr (3, [.int (eI (ys 0)), .int (eI (yl 0)), .int (eI (yp 0))])), ((ad 22), .inr (3, [.int (eI (ys 1)), .int (eI (yl 1)), .int (eI (yp 1))])), ((ad 23), .inr (3, [.int (eI (ys 2)), .int (eI (yl 2)), .int (eI (yp 2))]))] (.int (eI (eh_ph (eh_kc n ra ln cb ys yp) 30))) := by
  refine Met.ofW (cc := c_E_possibleHauls) (maxL := 4) (ret := (some .int)) (by decide) rfl ?_
  intro p e s m args below meth c s₁ B hml hv
  obtain ⟨hargs, hP, hK, hN⟩ := hv
  have hx := B.exec
  have hb := B.bytes
  have hrt := B.returns
  have hts := atoms_spec (ws := k_E_possibleHauls :: ew_t) B.pre
  have htb : ∀ w ∈ ew_t, w.before args s = true := fun w h => hts w (List.mem_cons_of_mem _ h)
  have hown : s.vm.findClass "EarthHauls" = some m.cls := findClass_of_methodNamed B.named
  have hlocks := B.notSynchronized
  have hE : entryFrame m args 4 = entryFrame m ([.ref (ad 0)] : List Value).toArray 4 := by rw [hargs]
  rw [hE]
  clear hE hts B hargs
  generalize hRe : (headSpec _ _).room = R
  have hR1 : R.frames = 4 := by rw [← hRe]; rfl
  have hR2 : R.locals = 89 := by rw [← hRe]; rfl
  clear hRe
  generalize hQ : MQ below _ _ s 0 0 _ = Q
  have hP : va_P D classes [((ad 0), .inr (4, [.ref (ad 1), .ref (ad 2), .ref (ad 3), .ref (ad 4), .ref (ad 5), .ref (ad 24), .int (eI ((n : Nat) : Int)), .int (eI sh), .int (eI ra), .int (eI plv), .long (eL pco)])), ((ad 1), .inl (cS, 5, .inr (.inr (.inr (.inr (eh_o5 (ad 6) (ad 7) (ad 8) (ad 9) (ad 10))))))), ((ad 2), aI cI 4 ln), ((ad 3), aI cZ 3 cb), ((ad 4), .inl (cY, 3, .inr (.inr (.inr (.inr (eh_o3 (ad 21) (ad 22) (ad 23))))))), ((ad 5), aI cI 30 la), ((ad 6), .inr (2, [.ref (ad 11), .ref (ad 16)])), ((ad 7), .inr (2, [.ref (ad 12), .ref (ad 17)])), ((ad 8), .inr (2, [.ref (ad 13), .ref (ad 18)])), ((ad 9), .inr (2, [.ref (ad 14), .ref (ad 19)])), ((ad 10), .inr (2, [.ref (ad 15), .ref (ad 20)])), ((ad 11), .inr (0, [.long (eL ((cu 0 : Nat) : Int)), .long (eL ((cl 0 : Nat) : Int))])), ((ad 12), .inr (0, [.long (eL ((cu 1 : Nat) : Int)), .long (eL ((cl 1 : Nat) : Int))])), ((ad 13), .inr (0, [.long (eL ((cu 2 : Nat) : Int)), .long (eL ((cl 2 : Nat) : Int))])), ((ad 14), .inr (0, [.long (eL ((cu 3 : Nat) : Int)), .long (eL ((cl 3 : Nat) : Int))])), ((ad 15), .inr (0, [.long (eL ((cu 4 : Nat) : Int)), .long (eL ((cl 4 : Nat) : Int))])), ((ad 16), .inr (0, [.long (eL ((fu 0 : Nat) : Int)), .long (eL ((fl 0 : Nat) : Int))])), ((ad 17), .inr (0, [.long (eL ((fu 1 : Nat) : Int)), .long (eL ((fl 1 : Nat) : Int))])), ((ad 18), .inr (0, [.long (eL ((fu 2 : Nat) : Int)), .long (eL ((fl 2 : Nat) : Int))])), ((ad 19), .inr (0, [.long (eL ((fu 3 : Nat) : Int)), .long (eL ((fl 3 : Nat) : Int))])), ((ad 20), .inr (0, [.long (eL ((fu 4 : Nat) : Int)), .long (eL ((fl 4 : Nat) : Int))])), ((ad 21), .inr (3, [.int (eI (ys 0)), .int (eI (yl 0)), .int (eI (yp 0))])), ((ad 22), .inr (3, [.int (eI (ys 1)), .int (eI (yl 1)), .int (eI (yp 1))])), ((ad 23), .inr (3, [.int (eI (ys 2)), .int (eI (yl 2)), .int (eI (yp 2))]))] s.heap := hP
  have hl := lv_entry ([.ref (ad 0)]) (n := 4) (Nat.le_of_ble_eq_true rfl)
  rw [lg_entry_eq]
  generalize (lg_sl ([.ref (ad 0)]) ++ List.replicate (4 - (lg_sl ([.ref (ad 0)])).length) Slot.unset).toArray = ls at hl ⊢
  have hl : lv_has ls 4 [(0, .ref (ad 0))] := hl
  have hn5 := hE.1
  refine lv_iconst (v := eI 0) hx hb d_E_possibleHauls_0 rfl ?_
  refine lv_istore_n hx hb d_E_possibleHauls_1 rfl hl (by decide) rfl (fun ls hl => ?_)
  have hl : lv_has ls 4 [(1, .int (eI 0)), (0, .ref (ad 0))] := hl
  refine lv_iconst (v := eI 0) hx hb d_E_possibleHauls_2 rfl ?_
  refine lv_istore_n hx hb d_E_possibleHauls_3 rfl hl (by decide) rfl (fun ls hl => ?_)
  have hl : lv_has ls 4 [(2, .int (eI 0)), (1, .int (eI 0)), (0, .ref (ad 0))] := hl
  have outer : ∀ (q a9 : Nat) (ls : Array Slot), 6 - a9 = q → a9 ≤ 6 → lv_has ls 4 [(2, .int (eI ((a9 : Nat) : Int))), (1, .int (eI (eh_ph (eh_kc n ra ln cb ys yp) (5 * a9)))), (0, .ref (ad 0))] → W p l e R s m args below meth c s.heap [] 0 0 Q (F0 m 4 ls []) := by
    intro q
    induction q with
    | zero =>
      intro a9 ls hq ha hl
      have ha6 : a9 = 6 := by omega
      subst ha6
      refine lv_iload_n hx hb d_E_possibleHauls_4 rfl (lv_at hl 0 rfl) ?_
      refine lv_bipush (v := eI 6) hx hb d_E_possibleHauls_5 (by decide) ?_
      refine we_icmp_ge (tgt := 42) hx hb (by constructor <;> omega) (by constructor <;> omega) d_E_possibleHauls_7 rfl (fun hc7 => ?_) (fun hc7 => absurd hc7 (by omega))
      refine lv_iload_n hx hb d_E_possibleHauls_42 rfl (lv_at hl 1 rfl) ?_
      subst hQ
      exact W.iret hx hb hrt (fun t9 ht hW => ⟨rfl, ht⟩) (fun q h => by cases h) d_E_possibleHauls_43
    | succ q ih =>
      intro a9 ls hq ha hl
      refine lv_iload_n hx hb d_E_possibleHauls_4 rfl (lv_at hl 0 rfl) ?_
      refine lv_bipush (v := eI 6) hx hb d_E_possibleHauls_5 (by decide) ?_
      refine we_icmp_ge (tgt := 42) hx hb (by constructor <;> omega) (by constructor <;> omega) d_E_possibleHauls_7 rfl (fun hc7 => absurd hc7 (by omega)) (fun hc7 => ?_)
      refine lv_iconst (v := eI 0) hx hb d_E_possibleHauls_10 rfl ?_
      refine lv_istore_n hx hb d_E_possibleHauls_11 rfl hl (by decide) rfl (fun ls hl => ?_)
      have hl : lv_has ls 4 [(3, .int (eI 0)), (2, .int (eI ((a9 : Nat) : Int))), (1, .int (eI (eh_ph (eh_kc n ra ln cb ys yp) (5 * a9)))), (0, .ref (ad 0))] := hl
      have inner : ∀ (q2 b9 : Nat) (ls : Array Slot), 5 - b9 = q2 → b9 ≤ 5 → lv_has ls 4 [(3, .int (eI ((b9 : Nat) : Int))), (2, .int (eI ((a9 : Nat) : Int))), (1, .int (eI (eh_ph (eh_kc n ra ln cb ys yp) (5 * a9 + b9)))), (0, .ref (ad 0))] → W p l e R s m args below meth c s.heap [] 0 0 Q (F0 m 12 ls []) := by
        intro q2
        induction q2 with
        | zero =>
          intro b9 ls hq2 hb9 hl
          have hb5 : b9 = 5 := by omega
          subst hb5
          refine lv_iload_n hx hb d_E_possibleHauls_12 rfl (lv_at hl 0 rfl) ?_
          refine lv_iconst (v := eI 5) hx hb d_E_possibleHauls_13 rfl ?_
          refine we_icmp_ge (tgt := 36) hx hb (by constructor <;> omega) (by constructor <;> omega) d_E_possibleHauls_14 rfl (fun hc14 => ?_) (fun hc14 => absurd hc14 (by omega))
          refine lv_iinc (v := eI (((a9 : Nat) : Int) + 1)) hx hb d_E_possibleHauls_36 hl (k := 1) rfl (eI_add _ _) (by decide) rfl (fun ls hl => ?_)
          have hl : lv_has ls 4 [(2, .int (eI (((a9 : Nat) : Int) + 1))), (3, .int (eI ((5 : Nat) : Int))), (1, .int (eI (eh_ph (eh_kc n ra ln cb ys yp) (5 * a9 + 5)))), (0, .ref (ad 0))] := hl
          refine lv_goto (tgt := 4) hx hb d_E_possibleHauls_39 rfl ?_
          exact ih (a9 + 1) ls (by omega) (by omega) (lv_sub hl [0, 2, 3] rfl)
        | succ q2 ih2 =>
          intro b9 ls hq2 hb9 hl
          have hkb := eh_ku_b hE (show a9 < 6 by omega) (show b9 < 5 by omega)
          have hkc := eh_kc_at n ra ln cb ys yp (a := a9) (b := b9) (by omega)
          have hlb := hE.2.2.2.2.2.1 (5 * a9 + b9) (by omega)
          refine lv_iload_n hx hb d_E_possibleHauls_12 rfl (lv_at hl 0 rfl) ?_
          refine lv_iconst (v := eI 5) hx hb d_E_possibleHauls_13 rfl ?_
          refine we_icmp_ge (tgt := 36) hx hb (by constructor <;> omega) (by constructor <;> omega) d_E_possibleHauls_14 rfl (fun hc14 => absurd hc14 (by omega)) (fun hc14 => ?_)
          refine lv_aload_n hx hb d_E_possibleHauls_17 rfl (lv_at hl 3 rfl) ?_
          refine lv_iload_n hx hb d_E_possibleHauls_18 rfl (lv_at hl 1 rfl) ?_
          refine lv_iload_n hx hb d_E_possibleHauls_19 rfl (lv_at hl 0 rfl) ?_
          refine eh_cRV (As := [.int (eI ((a9 : Nat) : Int)), .int (eI ((b9 : Nat) : Int))]) (rest := []) (v := .int (eI (eh_ku n ra ln cb ys yp a9 b9))) (q := (R_E, T_E, 11)) hx hb hml hown htb hN (r_E_unitCost l D cI cL cZ cS cY ad n sh ra plv pco ln cb la cu cl fu fl ys yl yp a9 b9 (by omega) (by omega) hE) 2 ⟨tb_207, tb_209, ts_7, tb_1, kin_E_unitCost⟩ dv_E_unitCost ⟨by rw [hR1]; decide, by rw [hR2]; decide⟩ hK hP 0 rfl rfl [0, 1, 2, 3, 4, 5, 6, 7, 8, 9, 10, 11, 12, 13, 14, 15, 16, 17, 18, 19, 20, 21, 22, 23] rfl [0, 1, 2, 3, 4] rfl rfl rfl hl.1 (Nat.le_of_ble_eq_true rfl) d_E_possibleHauls_20 ⟨Nat.zero_le _, Nat.zero_le _⟩ ?_
          refine lv_iconst (v := eI (-1)) hx hb d_E_possibleHauls_23 rfl ?_
          refine we_icmp_eq (tgt := 30) hx hb (by constructor <;> omega) (by constructor <;> omega) d_E_possibleHauls_24 rfl (fun hc24 => ?_) (fun hc24 => ?_)
          ·
            refine lv_iinc (v := eI (((b9 : Nat) : Int) + 1)) hx hb d_E_possibleHauls_30 hl (k := 0) rfl (eI_add _ _) (by decide) rfl (fun ls hl => ?_)
            have hl : lv_has ls 4 [(3, .int (eI (((b9 : Nat) : Int) + 1))), (2, .int (eI ((a9 : Nat) : Int))), (1, .int (eI (eh_ph (eh_kc n ra ln cb ys yp) (5 * a9 + b9)))), (0, .ref (ad 0))] := hl
            refine lv_goto (tgt := 12) hx hb d_E_possibleHauls_33 rfl ?_
            have hs9 : (eh_ph (eh_kc n ra ln cb ys yp) (5 * a9 + b9)) = eh_ph (eh_kc n ra ln cb ys yp) (5 * a9 + (b9 + 1)) := by
              show _ = eh_ph (eh_kc n ra ln cb ys yp) (5 * a9 + b9) + (if (eh_kc n ra ln cb ys yp) (5 * a9 + b9) = -1 then 0 else 1)
              rw [hkc, if_pos (by omega)]; omega
            rw [hs9] at hl
            exact ih2 (b9 + 1) ls (by omega) (by omega) (lv_sub hl [0, 1, 2, 3] rfl)
          ·
            refine lv_iinc (v := eI ((eh_ph (eh_kc n ra ln cb ys yp) (5 * a9 + b9)) + 1)) hx hb d_E_possibleHauls_27 hl (k := 2) rfl (eI_add _ _) (by decide) rfl (fun ls hl => ?_)
            have hl : lv_has ls 4 [(1, .int (eI ((eh_ph (eh_kc n ra ln cb ys yp) (5 * a9 + b9)) + 1))), (3, .int (eI ((b9 : Nat) : Int))), (2, .int (eI ((a9 : Nat) : Int))), (0, .ref (ad 0))] := hl
            refine lv_iinc (v := eI (((b9 : Nat) : Int) + 1)) hx hb d_E_possibleHauls_30 hl (k := 1) rfl (eI_add _ _) (by decide) rfl (fun ls hl => ?_)
            have hl : lv_has ls 4 [(3, .int (eI (((b9 : Nat) : Int) + 1))), (1, .int (eI ((eh_ph (eh_kc n ra ln cb ys yp) (5 * a9 + b9)) + 1))), (2, .int (eI ((a9 : Nat) : Int))), (0, .ref (ad 0))] := hl
            refine lv_goto (tgt := 12) hx hb d_E_possibleHauls_33 rfl ?_
            have hs9 : ((eh_ph (eh_kc n ra ln cb ys yp) (5 * a9 + b9)) + 1) = eh_ph (eh_kc n ra ln cb ys yp) (5 * a9 + (b9 + 1)) := by
              show _ = eh_ph (eh_kc n ra ln cb ys yp) (5 * a9 + b9) + (if (eh_kc n ra ln cb ys yp) (5 * a9 + b9) = -1 then 0 else 1)
              rw [hkc, if_neg (by omega)]
            rw [hs9] at hl
            exact ih2 (b9 + 1) ls (by omega) (by omega) (lv_sub hl [0, 2, 1, 3] rfl)
      exact inner 5 0 ls (by omega) (by omega) (lv_sub hl [0, 1, 2, 3] rfl)
  exact outer 6 0 ls (by omega) (by omega) (lv_sub hl [0, 1, 2] rfl)
abbrev c_E_worth : ByteArray := prog_1_method_17_code
def y_E_worth : MethodName := ⟨"EarthHauls", "worth", "()J"⟩
abbrev k_E_worth : Cond := .code y_E_worth c_E_worth 6 (some .long)
theorem kin_E_worth : k_E_worth ∈ ew_t := tb_314
theorem dv_E_worth : eh_dV y_E_worth "EarthHauls" 0 := ⟨rfl, by decide, by decide, by decide +kernel⟩
theorem d_E_worth_0 : decode c_E_worth 0 = .ok (.lconst 0, 1) := by decide +kernel
theorem d_E_worth_1 : decode c_E_worth 1 = .ok (.lstore_n 1, 1) := by decide +kernel
theorem d_E_worth_2 : decode c_E_worth 2 = .ok (.iconst 0, 1) := by decide +kernel
theorem d_E_worth_3 : decode c_E_worth 3 = .ok (.istore_n 3, 1) := by decide +kernel
theorem d_E_worth_4 : decode c_E_worth 4 = .ok (.iload_n 3, 1) := by decide +kernel
theorem d_E_worth_5 : decode c_E_worth 5 = .ok (.bipush 6, 2) := by decide +kernel
theorem d_E_worth_7 : decode c_E_worth 7 = .ok (.if_icmp .ge 58, 3) := by decide +kernel
theorem d_E_worth_10 : decode c_E_worth 10 = .ok (.iconst 0, 1) := by decide +kernel
theorem d_E_worth_11 : decode c_E_worth 11 = .ok (.istore 4, 2) := by decide +kernel
theorem d_E_worth_13 : decode c_E_worth 13 = .ok (.iload 4, 2) := by decide +kernel
theorem d_E_worth_15 : decode c_E_worth 15 = .ok (.iconst 5, 1) := by decide +kernel
theorem d_E_worth_16 : decode c_E_worth 16 = .ok (.if_icmp .ge 43, 3) := by decide +kernel
theorem d_E_worth_19 : decode c_E_worth 19 = .ok (.aload_n 0, 1) := by decide +kernel
theorem d_E_worth_20 : decode c_E_worth 20 = .ok (.iload_n 3, 1) := by decide +kernel
theorem d_E_worth_21 : decode c_E_worth 21 = .ok (.iload 4, 2) := by decide +kernel
theorem d_E_worth_23 : decode c_E_worth 23 = .ok (.invokevirtual 128, 3) := by decide +kernel
theorem d_E_worth_26 : decode c_E_worth 26 = .ok (.istore 5, 2) := by decide +kernel
theorem d_E_worth_28 : decode c_E_worth 28 = .ok (.iload 5, 2) := by decide +kernel
theorem d_E_worth_30 : decode c_E_worth 30 = .ok (.iconst (-1), 1) := by decide +kernel
theorem d_E_worth_31 : decode c_E_worth 31 = .ok (.if_icmp .eq 22, 3) := by decide +kernel
theorem d_E_worth_34 : decode c_E_worth 34 = .ok (.lload_n 1, 1) := by decide +kernel
theorem d_E_worth_35 : decode c_E_worth 35 = .ok (.iload 5, 2) := by decide +kernel
theorem d_E_worth_37 : decode c_E_worth 37 = .ok (.i2l, 1) := by decide +kernel
theorem d_E_worth_38 : decode c_E_worth 38 = .ok (.aload_n 0, 1) := by decide +kernel
theorem d_E_worth_39 : decode c_E_worth 39 = .ok (.getfield 29, 3) := by decide +kernel
theorem d_E_worth_42 : decode c_E_worth 42 = .ok (.iload_n 3, 1) := by decide +kernel
theorem d_E_worth_43 : decode c_E_worth 43 = .ok (.iload 4, 2) := by decide +kernel
theorem d_E_worth_45 : decode c_E_worth 45 = .ok (.invokestatic 150, 3) := by decide +kernel
theorem d_E_worth_48 : decode c_E_worth 48 = .ok (.iaload, 1) := by decide +kernel
theorem d_E_worth_49 : decode c_E_worth 49 = .ok (.i2l, 1) := by decide +kernel
theorem d_E_worth_50 : decode c_E_worth 50 = .ok (.lmul, 1) := by decide +kernel
theorem d_E_worth_51 : decode c_E_worth 51 = .ok (.ladd, 1) := by decide +kernel
theorem d_E_worth_52 : decode c_E_worth 52 = .ok (.lstore_n 1, 1) := by decide +kernel
theorem d_E_worth_53 : decode c_E_worth 53 = .ok (.iinc 4 1, 3) := by decide +kernel
theorem d_E_worth_56 : decode c_E_worth 56 = .ok (.goto (-43), 3) := by decide +kernel
theorem d_E_worth_59 : decode c_E_worth 59 = .ok (.iinc 3 1, 3) := by decide +kernel
theorem d_E_worth_62 : decode c_E_worth 62 = .ok (.goto (-58), 3) := by decide +kernel
theorem d_E_worth_65 : decode c_E_worth 65 = .ok (.lload_n 1, 1) := by decide +kernel
theorem d_E_worth_66 : decode c_E_worth 66 = .ok (.lreturn, 1) := by decide +kernel
set_option maxHeartbeats 4000000 in
set_option maxRecDepth 100000 in
theorem r_E_worth (l : Launch) (D : va_G) (cI cL cZ cS cY : ClassId) (ad : Nat → Nat) (n : Nat) (sh ra plv pco : Int) (ln cb la : Nat → Int) (cu cl fu fl : Nat → Nat) (ys yl yp : Nat → Int) (hE : eh_ES n sh ra ln cb la cu cl fu fl ys yl yp) : eh_R l y_E_worth k_E_worth 4 89 D classes [(cI, .int), (cL, .long), (cZ, .boolean), (cS, .object "EarthHauls$Section"), (cY, .object "EarthHauls$Yard")] [.ref (ad 0)] [((ad 0), .inr (4, [.ref (ad 1), .ref (ad 2), .ref (ad 3), .ref (ad 4), .ref (ad 5), .ref (ad 24), .int (eI ((n : Nat) : Int)), .int (eI sh), .int (eI ra), .int (eI plv), .long (eL pco)])), ((ad 1), .inl (cS, 5, .inr (.inr (.inr (.inr (eh_o5 (ad 6) (ad 7) (ad 8) (ad 9) (ad 10))))))), ((ad 2), aI cI 4 ln), ((ad 3), aI cZ 3 cb), ((ad 4), .inl (cY, 3, .inr (.inr (.inr (.inr (eh_o3 (ad 21) (ad 22) (ad 23))))))), ((ad 5), aI cI 30 la), ((ad 6), .inr (2, [.ref (ad 11), .ref (ad 16)])), ((ad 7), .inr (2, [.ref (ad 12), .ref (ad 17)])), ((ad 8), .inr (2, [.ref (ad 13), .ref (ad 18)])), ((ad 9), .inr (2, [.ref (ad 14), .ref (ad 19)])), ((ad 10), .inr (2, [.ref (ad 15), .ref (ad 20)])), ((ad 11), .inr (0, [.long (eL ((cu 0 : Nat) : Int)), .long (eL ((cl 0 : Nat) : Int))])), ((ad 12), .inr (0, [.long (eL ((cu 1 : Nat) : Int)), .long (eL ((cl 1 : Nat) : Int))])), ((ad 13), .inr (0, [.long (eL ((cu 2 : Nat) : Int)), .long (eL ((cl 2 : Nat) : Int))])), ((ad 14), .inr (0, [.long (eL ((cu 3 : Nat) : Int)), .long (eL ((cl 3 : Nat) : Int))])), ((ad 15), .inr (0, [.long (eL ((cu 4 : Nat) : Int)), .long (eL ((cl 4 : Nat) : Int))])), ((ad 16), .inr (0, [.long (eL ((fu 0 : Nat) : Int)), .long (eL ((fl 0 : Nat) : Int))])), ((ad 17), .inr (0, [.long (eL ((fu 1 : Nat) : Int)), .long (eL ((fl 1 : Nat) : Int))])), ((ad 18), .inr (0, [.long (eL ((fu 2 : Nat) : Int)), .long (eL ((fl 2 : Nat) : Int))])), ((ad 19), .inr (0, [.long (eL ((fu 3 : Nat) : Int)), .long (eL ((fl 3 : Nat) : Int))])), ((ad 20), .inr (0, [.long (eL ((fu 4 : Nat) : Int)), .long (eL ((fl 4 : Nat) : Int))])), ((ad 21), .inr (3, [.int (eI (ys 0)), .int (eI (yl 0)), .int (eI (yp 0))])), ((ad 22), .inr (3, [.int (eI (ys 1)), .int (eI (yl 1)), .int (eI (yp 1))])), ((ad 23), .inr (3, [.int (eI (ys 2)), .int (eI (yl 2)), .int (eI (yp 2))]))] (.long (eL (eh_wo (eh_kc n ra ln cb ys yp) la 30))) := by
  refine Met.ofW (cc := c_E_worth) (maxL := 6) (ret := (some .long)) (by decide) rfl ?_
  intro p e s m args below meth c s₁ B hml hv
  obtain ⟨hargs, hP, hK, hN⟩ := hv
  have hx := B.exec
  have hb := B.bytes
  have hrt := B.returns
  have hts := atoms_spec (ws := k_E_worth :: ew_t) B.pre
  have htb : ∀ w ∈ ew_t, w.before args s = true := fun w h => hts w (List.mem_cons_of_mem _ h)
  have hown : s.vm.findClass "EarthHauls" = some m.cls := findClass_of_methodNamed B.named
  have hlocks := B.notSynchronized
  have hE : entryFrame m args 6 = entryFrame m ([.ref (ad 0)] : List Value).toArray 6 := by rw [hargs]
  rw [hE]
  clear hE hts B hargs
  generalize hRe : (headSpec _ _).room = R
  have hR1 : R.frames = 4 := by rw [← hRe]; rfl
  have hR2 : R.locals = 89 := by rw [← hRe]; rfl
  clear hRe
  generalize hQ : MQ below _ _ s 0 0 _ = Q
  have hP : va_P D classes [((ad 0), .inr (4, [.ref (ad 1), .ref (ad 2), .ref (ad 3), .ref (ad 4), .ref (ad 5), .ref (ad 24), .int (eI ((n : Nat) : Int)), .int (eI sh), .int (eI ra), .int (eI plv), .long (eL pco)])), ((ad 1), .inl (cS, 5, .inr (.inr (.inr (.inr (eh_o5 (ad 6) (ad 7) (ad 8) (ad 9) (ad 10))))))), ((ad 2), aI cI 4 ln), ((ad 3), aI cZ 3 cb), ((ad 4), .inl (cY, 3, .inr (.inr (.inr (.inr (eh_o3 (ad 21) (ad 22) (ad 23))))))), ((ad 5), aI cI 30 la), ((ad 6), .inr (2, [.ref (ad 11), .ref (ad 16)])), ((ad 7), .inr (2, [.ref (ad 12), .ref (ad 17)])), ((ad 8), .inr (2, [.ref (ad 13), .ref (ad 18)])), ((ad 9), .inr (2, [.ref (ad 14), .ref (ad 19)])), ((ad 10), .inr (2, [.ref (ad 15), .ref (ad 20)])), ((ad 11), .inr (0, [.long (eL ((cu 0 : Nat) : Int)), .long (eL ((cl 0 : Nat) : Int))])), ((ad 12), .inr (0, [.long (eL ((cu 1 : Nat) : Int)), .long (eL ((cl 1 : Nat) : Int))])), ((ad 13), .inr (0, [.long (eL ((cu 2 : Nat) : Int)), .long (eL ((cl 2 : Nat) : Int))])), ((ad 14), .inr (0, [.long (eL ((cu 3 : Nat) : Int)), .long (eL ((cl 3 : Nat) : Int))])), ((ad 15), .inr (0, [.long (eL ((cu 4 : Nat) : Int)), .long (eL ((cl 4 : Nat) : Int))])), ((ad 16), .inr (0, [.long (eL ((fu 0 : Nat) : Int)), .long (eL ((fl 0 : Nat) : Int))])), ((ad 17), .inr (0, [.long (eL ((fu 1 : Nat) : Int)), .long (eL ((fl 1 : Nat) : Int))])), ((ad 18), .inr (0, [.long (eL ((fu 2 : Nat) : Int)), .long (eL ((fl 2 : Nat) : Int))])), ((ad 19), .inr (0, [.long (eL ((fu 3 : Nat) : Int)), .long (eL ((fl 3 : Nat) : Int))])), ((ad 20), .inr (0, [.long (eL ((fu 4 : Nat) : Int)), .long (eL ((fl 4 : Nat) : Int))])), ((ad 21), .inr (3, [.int (eI (ys 0)), .int (eI (yl 0)), .int (eI (yp 0))])), ((ad 22), .inr (3, [.int (eI (ys 1)), .int (eI (yl 1)), .int (eI (yp 1))])), ((ad 23), .inr (3, [.int (eI (ys 2)), .int (eI (yl 2)), .int (eI (yp 2))]))] s.heap := hP
  have hl := lv_entry ([.ref (ad 0)]) (n := 6) (Nat.le_of_ble_eq_true rfl)
  rw [lg_entry_eq]
  generalize (lg_sl ([.ref (ad 0)]) ++ List.replicate (6 - (lg_sl ([.ref (ad 0)])).length) Slot.unset).toArray = ls at hl ⊢
  have hl : lv_has ls 6 [(0, .ref (ad 0))] := hl
  have hn5 := hE.1
  refine lv_lconst (v := eL 0) hx hb d_E_worth_0 (by decide) ?_
  refine lv_lstore_n hx hb d_E_worth_1 rfl hl (by decide) rfl (fun ls hl => ?_)
  have hl : lv_has ls 6 [(1, .long (eL 0)), (0, .ref (ad 0))] := hl
  refine lv_iconst (v := eI 0) hx hb d_E_worth_2 rfl ?_
  refine lv_istore_n hx hb d_E_worth_3 rfl hl (by decide) rfl (fun ls hl => ?_)
  have hl : lv_has ls 6 [(3, .int (eI 0)), (1, .long (eL 0)), (0, .ref (ad 0))] := hl
  have outer : ∀ (q a9 : Nat) (ls : Array Slot), 6 - a9 = q → a9 ≤ 6 → lv_has ls 6 [(3, .int (eI ((a9 : Nat) : Int))), (1, .long (eL (eh_wo (eh_kc n ra ln cb ys yp) la (5 * a9)))), (0, .ref (ad 0))] → W p l e R s m args below meth c s.heap [] 0 0 Q (F0 m 4 ls []) := by
    intro q
    induction q with
    | zero =>
      intro a9 ls hq ha hl
      have ha6 : a9 = 6 := by omega
      subst ha6
      refine lv_iload_n hx hb d_E_worth_4 rfl (lv_at hl 0 rfl) ?_
      refine lv_bipush (v := eI 6) hx hb d_E_worth_5 (by decide) ?_
      refine we_icmp_ge (tgt := 65) hx hb (by constructor <;> omega) (by constructor <;> omega) d_E_worth_7 rfl (fun hc7 => ?_) (fun hc7 => absurd hc7 (by omega))
      refine lv_lload_n hx hb d_E_worth_65 rfl (lv_at hl 1 rfl) ?_
      subst hQ
      exact W.lret hx hb hrt (fun t9 ht hW => ⟨rfl, ht⟩) (fun q h => by cases h) d_E_worth_66
    | succ q ih =>
      intro a9 ls hq ha hl
      refine lv_iload_n hx hb d_E_worth_4 rfl (lv_at hl 0 rfl) ?_
      refine lv_bipush (v := eI 6) hx hb d_E_worth_5 (by decide) ?_
      refine we_icmp_ge (tgt := 65) hx hb (by constructor <;> omega) (by constructor <;> omega) d_E_worth_7 rfl (fun hc7 => absurd hc7 (by omega)) (fun hc7 => ?_)
      refine lv_iconst (v := eI 0) hx hb d_E_worth_10 rfl ?_
      refine lv_istore hx hb d_E_worth_11 hl (by decide) rfl (fun ls hl => ?_)
      have hl : lv_has ls 6 [(4, .int (eI 0)), (3, .int (eI ((a9 : Nat) : Int))), (1, .long (eL (eh_wo (eh_kc n ra ln cb ys yp) la (5 * a9)))), (0, .ref (ad 0))] := hl
      have inner : ∀ (q2 b9 : Nat) (ls : Array Slot), 5 - b9 = q2 → b9 ≤ 5 → lv_has ls 6 [(4, .int (eI ((b9 : Nat) : Int))), (3, .int (eI ((a9 : Nat) : Int))), (1, .long (eL (eh_wo (eh_kc n ra ln cb ys yp) la (5 * a9 + b9)))), (0, .ref (ad 0))] → W p l e R s m args below meth c s.heap [] 0 0 Q (F0 m 13 ls []) := by
        intro q2
        induction q2 with
        | zero =>
          intro b9 ls hq2 hb9 hl
          have hb5 : b9 = 5 := by omega
          subst hb5
          refine lv_iload hx hb d_E_worth_13 (lv_at hl 0 rfl) ?_
          refine lv_iconst (v := eI 5) hx hb d_E_worth_15 rfl ?_
          refine we_icmp_ge (tgt := 59) hx hb (by constructor <;> omega) (by constructor <;> omega) d_E_worth_16 rfl (fun hc16 => ?_) (fun hc16 => absurd hc16 (by omega))
          refine lv_iinc (v := eI (((a9 : Nat) : Int) + 1)) hx hb d_E_worth_59 hl (k := 1) rfl (eI_add _ _) (by decide) rfl (fun ls hl => ?_)
          have hl : lv_has ls 6 [(3, .int (eI (((a9 : Nat) : Int) + 1))), (4, .int (eI ((5 : Nat) : Int))), (1, .long (eL (eh_wo (eh_kc n ra ln cb ys yp) la (5 * a9 + 5)))), (0, .ref (ad 0))] := hl
          refine lv_goto (tgt := 4) hx hb d_E_worth_62 rfl ?_
          exact ih (a9 + 1) ls (by omega) (by omega) (lv_sub hl [0, 2, 3] rfl)
        | succ q2 ih2 =>
          intro b9 ls hq2 hb9 hl
          have hkb := eh_ku_b hE (show a9 < 6 by omega) (show b9 < 5 by omega)
          have hkc := eh_kc_at n ra ln cb ys yp (a := a9) (b := b9) (by omega)
          have hlb := hE.2.2.2.2.2.1 (5 * a9 + b9) (by omega)
          refine lv_iload hx hb d_E_worth_13 (lv_at hl 0 rfl) ?_
          refine lv_iconst (v := eI 5) hx hb d_E_worth_15 rfl ?_
          refine we_icmp_ge (tgt := 59) hx hb (by constructor <;> omega) (by constructor <;> omega) d_E_worth_16 rfl (fun hc16 => absurd hc16 (by omega)) (fun hc16 => ?_)
          refine lv_aload_n hx hb d_E_worth_19 rfl (lv_at hl 3 rfl) ?_
          refine lv_iload_n hx hb d_E_worth_20 rfl (lv_at hl 1 rfl) ?_
          refine lv_iload hx hb d_E_worth_21 (lv_at hl 0 rfl) ?_
          refine eh_cRV (As := [.int (eI ((a9 : Nat) : Int)), .int (eI ((b9 : Nat) : Int))]) (rest := []) (v := .int (eI (eh_ku n ra ln cb ys yp a9 b9))) (q := (R_E, T_E, 11)) hx hb hml hown htb hN (r_E_unitCost l D cI cL cZ cS cY ad n sh ra plv pco ln cb la cu cl fu fl ys yl yp a9 b9 (by omega) (by omega) hE) 2 ⟨tb_207, tb_209, ts_7, tb_1, kin_E_unitCost⟩ dv_E_unitCost ⟨by rw [hR1]; decide, by rw [hR2]; decide⟩ hK hP 0 rfl rfl [0, 1, 2, 3, 4, 5, 6, 7, 8, 9, 10, 11, 12, 13, 14, 15, 16, 17, 18, 19, 20, 21, 22, 23] rfl [0, 1, 2, 3, 4] rfl rfl rfl hl.1 (Nat.le_of_ble_eq_true rfl) d_E_worth_23 ⟨Nat.zero_le _, Nat.zero_le _⟩ ?_
          refine lv_istore hx hb d_E_worth_26 hl (by decide) rfl (fun ls hl => ?_)
          have hl : lv_has ls 6 [(5, .int (eI (eh_ku n ra ln cb ys yp a9 b9))), (4, .int (eI ((b9 : Nat) : Int))), (3, .int (eI ((a9 : Nat) : Int))), (1, .long (eL (eh_wo (eh_kc n ra ln cb ys yp) la (5 * a9 + b9)))), (0, .ref (ad 0))] := hl
          refine lv_iload hx hb d_E_worth_28 (lv_at hl 0 rfl) ?_
          refine lv_iconst (v := eI (-1)) hx hb d_E_worth_30 rfl ?_
          refine we_icmp_eq (tgt := 53) hx hb (by constructor <;> omega) (by constructor <;> omega) d_E_worth_31 rfl (fun hc31 => ?_) (fun hc31 => ?_)
          ·
            refine lv_iinc (v := eI (((b9 : Nat) : Int) + 1)) hx hb d_E_worth_53 hl (k := 1) rfl (eI_add _ _) (by decide) rfl (fun ls hl => ?_)
            have hl : lv_has ls 6 [(4, .int (eI (((b9 : Nat) : Int) + 1))), (5, .int (eI (eh_ku n ra ln cb ys yp a9 b9))), (3, .int (eI ((a9 : Nat) : Int))), (1, .long (eL (eh_wo (eh_kc n ra ln cb ys yp) la (5 * a9 + b9)))), (0, .ref (ad 0))] := hl
            refine lv_goto (tgt := 13) hx hb d_E_worth_56 rfl ?_
            have hs9 : (eh_wo (eh_kc n ra ln cb ys yp) la (5 * a9 + b9)) = eh_wo (eh_kc n ra ln cb ys yp) la (5 * a9 + (b9 + 1)) := by
              show _ = eh_wo (eh_kc n ra ln cb ys yp) la (5 * a9 + b9) + (if (eh_kc n ra ln cb ys yp) (5 * a9 + b9) = -1 then 0 else (eh_kc n ra ln cb ys yp) (5 * a9 + b9) * la (5 * a9 + b9))
              rw [hkc, if_pos (by omega)]; omega
            rw [hs9] at hl
            exact ih2 (b9 + 1) ls (by omega) (by omega) (lv_sub hl [0, 2, 3, 4] rfl)
          ·
            refine lv_lload_n hx hb d_E_worth_34 rfl (lv_at hl 3 rfl) ?_
            refine lv_iload hx hb d_E_worth_35 (lv_at hl 0 rfl) ?_
            refine we_i2l hx hb (by constructor <;> omega) d_E_worth_37 ?_
            refine lv_aload_n hx hb d_E_worth_38 rfl (lv_at hl 4 rfl) ?_
            refine va_get (D := D) (ci := 4) (v := .ref (ad 5)) (C := R_E) (T := T_E) (N := 11) hx hb htb in_E hown hK hP 0 rfl rfl 4 (by decide) (htb _ tb_128) (fun _ h9 => h9) rfl d_E_worth_39 ?_
            refine lv_iload_n hx hb d_E_worth_42 rfl (lv_at hl 2 rfl) ?_
            refine lv_iload hx hb d_E_worth_43 (lv_at hl 1 rfl) ?_
            refine eh_cRS (As := [.int (eI ((a9 : Nat) : Int)), .int (eI ((b9 : Nat) : Int))]) (rest := [.ref (ad 5), .long (eL (eh_ku n ra ln cb ys yp a9 b9)), .long (eL (eh_wo (eh_kc n ra ln cb ys yp) la (5 * a9 + b9)))]) (v := .int (eI ((5 * a9 + b9 : Nat) : Int))) hx hb hml hown htb hN (r_E_pairOf l D ((a9 : Nat) : Int) ((b9 : Nat) : Int)) 2 ⟨tb_302, tb_246, tb_1, kin_E_pairOf⟩ dv_E_pairOf ⟨by rw [hR1]; decide, by rw [hR2]; decide⟩ hK hP [] rfl [] rfl rfl rfl hl.1 (Nat.le_of_ble_eq_true rfl) d_E_worth_45 ⟨Nat.zero_le _, Nat.zero_le _⟩ ?_
            refine we_iald hx hb hK hP 5 0 rfl rfl (5 * a9 + b9) rfl (by omega) (by decide) d_E_worth_48 ?_
            refine we_i2l hx hb (by constructor <;> omega) d_E_worth_49 ?_
            refine we_lmul hx hb d_E_worth_50 ?_
            refine we_ladd hx hb d_E_worth_51 ?_
            refine lv_lstore_n hx hb d_E_worth_52 rfl hl (by decide) rfl (fun ls hl => ?_)
            have hl : lv_has ls 6 [(1, .long (eL ((eh_wo (eh_kc n ra ln cb ys yp) la (5 * a9 + b9)) + ((eh_ku n ra ln cb ys yp a9 b9) * (la (5 * a9 + b9)))))), (5, .int (eI (eh_ku n ra ln cb ys yp a9 b9))), (4, .int (eI ((b9 : Nat) : Int))), (3, .int (eI ((a9 : Nat) : Int))), (0, .ref (ad 0))] := hl
            refine lv_iinc (v := eI (((b9 : Nat) : Int) + 1)) hx hb d_E_worth_53 hl (k := 2) rfl (eI_add _ _) (by decide) rfl (fun ls hl => ?_)
            have hl : lv_has ls 6 [(4, .int (eI (((b9 : Nat) : Int) + 1))), (1, .long (eL ((eh_wo (eh_kc n ra ln cb ys yp) la (5 * a9 + b9)) + ((eh_ku n ra ln cb ys yp a9 b9) * (la (5 * a9 + b9)))))), (5, .int (eI (eh_ku n ra ln cb ys yp a9 b9))), (3, .int (eI ((a9 : Nat) : Int))), (0, .ref (ad 0))] := hl
            refine lv_goto (tgt := 13) hx hb d_E_worth_56 rfl ?_
            have hs9 : ((eh_wo (eh_kc n ra ln cb ys yp) la (5 * a9 + b9)) + ((eh_ku n ra ln cb ys yp a9 b9) * (la (5 * a9 + b9)))) = eh_wo (eh_kc n ra ln cb ys yp) la (5 * a9 + (b9 + 1)) := by
              show _ = eh_wo (eh_kc n ra ln cb ys yp) la (5 * a9 + b9) + (if (eh_kc n ra ln cb ys yp) (5 * a9 + b9) = -1 then 0 else (eh_kc n ra ln cb ys yp) (5 * a9 + b9) * la (5 * a9 + b9))
              rw [hkc, if_neg (by omega)]
            rw [hs9] at hl
            exact ih2 (b9 + 1) ls (by omega) (by omega) (lv_sub hl [0, 3, 1, 4] rfl)
      exact inner 5 0 ls (by omega) (by omega) (lv_sub hl [0, 1, 2, 3] rfl)
  exact outer 6 0 ls (by omega) (by omega) (lv_sub hl [0, 1, 2] rfl)
abbrev c_E_firstImpossibleLaid : ByteArray := prog_1_method_46_code
def y_E_firstImpossibleLaid : MethodName := ⟨"EarthHauls", "firstImpossibleLaid", "()I"⟩
abbrev k_E_firstImpossibleLaid : Cond := .code y_E_firstImpossibleLaid c_E_firstImpossibleLaid 4 (some .int)
theorem kin_E_firstImpossibleLaid : k_E_firstImpossibleLaid ∈ ew_t := tb_310
theorem dv_E_firstImpossibleLaid : eh_dV y_E_firstImpossibleLaid "EarthHauls" 0 := ⟨rfl, by decide, by decide, by decide +kernel⟩
theorem d_E_firstImpossibleLaid_0 : decode c_E_firstImpossibleLaid 0 = .ok (.iconst 0, 1) := by decide +kernel
theorem d_E_firstImpossibleLaid_1 : decode c_E_firstImpossibleLaid 1 = .ok (.istore_n 1, 1) := by decide +kernel
theorem d_E_firstImpossibleLaid_2 : decode c_E_firstImpossibleLaid 2 = .ok (.iload_n 1, 1) := by decide +kernel
theorem d_E_firstImpossibleLaid_3 : decode c_E_firstImpossibleLaid 3 = .ok (.bipush 6, 2) := by decide +kernel
theorem d_E_firstImpossibleLaid_5 : decode c_E_firstImpossibleLaid 5 = .ok (.if_icmp .ge 52, 3) := by decide +kernel
theorem d_E_firstImpossibleLaid_8 : decode c_E_firstImpossibleLaid 8 = .ok (.iconst 0, 1) := by decide +kernel
theorem d_E_firstImpossibleLaid_9 : decode c_E_firstImpossibleLaid 9 = .ok (.istore_n 2, 1) := by decide +kernel
theorem d_E_firstImpossibleLaid_10 : decode c_E_firstImpossibleLaid 10 = .ok (.iload_n 2, 1) := by decide +kernel
theorem d_E_firstImpossibleLaid_11 : decode c_E_firstImpossibleLaid 11 = .ok (.iconst 5, 1) := by decide +kernel
theorem d_E_firstImpossibleLaid_12 : decode c_E_firstImpossibleLaid 12 = .ok (.if_icmp .ge 39, 3) := by decide +kernel
theorem d_E_firstImpossibleLaid_15 : decode c_E_firstImpossibleLaid 15 = .ok (.iload_n 1, 1) := by decide +kernel
theorem d_E_firstImpossibleLaid_16 : decode c_E_firstImpossibleLaid 16 = .ok (.iload_n 2, 1) := by decide +kernel
theorem d_E_firstImpossibleLaid_17 : decode c_E_firstImpossibleLaid 17 = .ok (.invokestatic 150, 3) := by decide +kernel
theorem d_E_firstImpossibleLaid_20 : decode c_E_firstImpossibleLaid 20 = .ok (.istore_n 3, 1) := by decide +kernel
theorem d_E_firstImpossibleLaid_21 : decode c_E_firstImpossibleLaid 21 = .ok (.aload_n 0, 1) := by decide +kernel
theorem d_E_firstImpossibleLaid_22 : decode c_E_firstImpossibleLaid 22 = .ok (.getfield 29, 3) := by decide +kernel
theorem d_E_firstImpossibleLaid_25 : decode c_E_firstImpossibleLaid 25 = .ok (.iload_n 3, 1) := by decide +kernel
theorem d_E_firstImpossibleLaid_26 : decode c_E_firstImpossibleLaid 26 = .ok (.iaload, 1) := by decide +kernel
theorem d_E_firstImpossibleLaid_27 : decode c_E_firstImpossibleLaid 27 = .ok (.ifCond .le 18, 3) := by decide +kernel
theorem d_E_firstImpossibleLaid_30 : decode c_E_firstImpossibleLaid 30 = .ok (.aload_n 0, 1) := by decide +kernel
theorem d_E_firstImpossibleLaid_31 : decode c_E_firstImpossibleLaid 31 = .ok (.iload_n 1, 1) := by decide +kernel
theorem d_E_firstImpossibleLaid_32 : decode c_E_firstImpossibleLaid 32 = .ok (.iload_n 2, 1) := by decide +kernel
theorem d_E_firstImpossibleLaid_33 : decode c_E_firstImpossibleLaid 33 = .ok (.invokevirtual 128, 3) := by decide +kernel
theorem d_E_firstImpossibleLaid_36 : decode c_E_firstImpossibleLaid 36 = .ok (.iconst (-1), 1) := by decide +kernel
theorem d_E_firstImpossibleLaid_37 : decode c_E_firstImpossibleLaid 37 = .ok (.if_icmp .ne 8, 3) := by decide +kernel
theorem d_E_firstImpossibleLaid_40 : decode c_E_firstImpossibleLaid 40 = .ok (.bipush 100, 2) := by decide +kernel
theorem d_E_firstImpossibleLaid_42 : decode c_E_firstImpossibleLaid 42 = .ok (.iload_n 3, 1) := by decide +kernel
theorem d_E_firstImpossibleLaid_43 : decode c_E_firstImpossibleLaid 43 = .ok (.iadd, 1) := by decide +kernel
theorem d_E_firstImpossibleLaid_44 : decode c_E_firstImpossibleLaid 44 = .ok (.ireturn, 1) := by decide +kernel
theorem d_E_firstImpossibleLaid_45 : decode c_E_firstImpossibleLaid 45 = .ok (.iinc 2 1, 3) := by decide +kernel
theorem d_E_firstImpossibleLaid_48 : decode c_E_firstImpossibleLaid 48 = .ok (.goto (-38), 3) := by decide +kernel
theorem d_E_firstImpossibleLaid_51 : decode c_E_firstImpossibleLaid 51 = .ok (.iinc 1 1, 3) := by decide +kernel
theorem d_E_firstImpossibleLaid_54 : decode c_E_firstImpossibleLaid 54 = .ok (.goto (-52), 3) := by decide +kernel
theorem d_E_firstImpossibleLaid_57 : decode c_E_firstImpossibleLaid 57 = .ok (.iconst (-1), 1) := by decide +kernel
theorem d_E_firstImpossibleLaid_58 : decode c_E_firstImpossibleLaid 58 = .ok (.ireturn, 1) := by decide +kernel
set_option maxHeartbeats 4000000 in
set_option maxRecDepth 100000 in
theorem r_E_firstImpossibleLaid (l : Launch) (D : va_G) (cI cL cZ cS cY : ClassId) (ad : Nat → Nat) (n : Nat) (sh ra plv pco : Int) (ln cb la : Nat → Int) (cu cl fu fl : Nat → Nat) (ys yl yp : Nat → Int) (hE : eh_ES n sh ra ln cb la cu cl fu fl ys yl yp) : eh_R l y_E_firstImpossibleLaid k_E_firstImpossibleLaid 4 89 D classes [(cI, .int), (cL, .long), (cZ, .boolean), (cS, .object "EarthHauls$Section"), (cY, .object "EarthHauls$Yard")] [.ref (ad 0)] [((ad 0), .inr (4, [.ref (ad 1), .ref (ad 2), .ref (ad 3), .ref (ad 4), .ref (ad 5), .ref (ad 24), .int (eI ((n : Nat) : Int)), .int (eI sh), .int (eI ra), .int (eI plv), .long (eL pco)])), ((ad 1), .inl (cS, 5, .inr (.inr (.inr (.inr (eh_o5 (ad 6) (ad 7) (ad 8) (ad 9) (ad 10))))))), ((ad 2), aI cI 4 ln), ((ad 3), aI cZ 3 cb), ((ad 4), .inl (cY, 3, .inr (.inr (.inr (.inr (eh_o3 (ad 21) (ad 22) (ad 23))))))), ((ad 5), aI cI 30 la), ((ad 6), .inr (2, [.ref (ad 11), .ref (ad 16)])), ((ad 7), .inr (2, [.ref (ad 12), .ref (ad 17)])), ((ad 8), .inr (2, [.ref (ad 13), .ref (ad 18)])), ((ad 9), .inr (2, [.ref (ad 14), .ref (ad 19)])), ((ad 10), .inr (2, [.ref (ad 15), .ref (ad 20)])), ((ad 11), .inr (0, [.long (eL ((cu 0 : Nat) : Int)), .long (eL ((cl 0 : Nat) : Int))])), ((ad 12), .inr (0, [.long (eL ((cu 1 : Nat) : Int)), .long (eL ((cl 1 : Nat) : Int))])), ((ad 13), .inr (0, [.long (eL ((cu 2 : Nat) : Int)), .long (eL ((cl 2 : Nat) : Int))])), ((ad 14), .inr (0, [.long (eL ((cu 3 : Nat) : Int)), .long (eL ((cl 3 : Nat) : Int))])), ((ad 15), .inr (0, [.long (eL ((cu 4 : Nat) : Int)), .long (eL ((cl 4 : Nat) : Int))])), ((ad 16), .inr (0, [.long (eL ((fu 0 : Nat) : Int)), .long (eL ((fl 0 : Nat) : Int))])), ((ad 17), .inr (0, [.long (eL ((fu 1 : Nat) : Int)), .long (eL ((fl 1 : Nat) : Int))])), ((ad 18), .inr (0, [.long (eL ((fu 2 : Nat) : Int)), .long (eL ((fl 2 : Nat) : Int))])), ((ad 19), .inr (0, [.long (eL ((fu 3 : Nat) : Int)), .long (eL ((fl 3 : Nat) : Int))])), ((ad 20), .inr (0, [.long (eL ((fu 4 : Nat) : Int)), .long (eL ((fl 4 : Nat) : Int))])), ((ad 21), .inr (3, [.int (eI (ys 0)), .int (eI (yl 0)), .int (eI (yp 0))])), ((ad 22), .inr (3, [.int (eI (ys 1)), .int (eI (yl 1)), .int (eI (yp 1))])), ((ad 23), .inr (3, [.int (eI (ys 2)), .int (eI (yl 2)), .int (eI (yp 2))]))] (.int (eI (eh_fo (eh_first (eh_ib (eh_kc n ra ln cb ys yp) la) 30) 100 (-1)))) := by
  refine Met.ofW (cc := c_E_firstImpossibleLaid) (maxL := 4) (ret := (some .int)) (by decide) rfl ?_
  intro p e s m args below meth c s₁ B hml hv
  obtain ⟨hargs, hP, hK, hN⟩ := hv
  have hx := B.exec
  have hb := B.bytes
  have hrt := B.returns
  have hts := atoms_spec (ws := k_E_firstImpossibleLaid :: ew_t) B.pre
  have htb : ∀ w ∈ ew_t, w.before args s = true := fun w h => hts w (List.mem_cons_of_mem _ h)
  have hown : s.vm.findClass "EarthHauls" = some m.cls := findClass_of_methodNamed B.named
  have hlocks := B.notSynchronized
  have hE : entryFrame m args 4 = entryFrame m ([.ref (ad 0)] : List Value).toArray 4 := by rw [hargs]
  rw [hE]
  clear hE hts B hargs
  generalize hRe : (headSpec _ _).room = R
  have hR1 : R.frames = 4 := by rw [← hRe]; rfl
  have hR2 : R.locals = 89 := by rw [← hRe]; rfl
  clear hRe
  generalize hQ : MQ below _ _ s 0 0 _ = Q
  have hP : va_P D classes [((ad 0), .inr (4, [.ref (ad 1), .ref (ad 2), .ref (ad 3), .ref (ad 4), .ref (ad 5), .ref (ad 24), .int (eI ((n : Nat) : Int)), .int (eI sh), .int (eI ra), .int (eI plv), .long (eL pco)])), ((ad 1), .inl (cS, 5, .inr (.inr (.inr (.inr (eh_o5 (ad 6) (ad 7) (ad 8) (ad 9) (ad 10))))))), ((ad 2), aI cI 4 ln), ((ad 3), aI cZ 3 cb), ((ad 4), .inl (cY, 3, .inr (.inr (.inr (.inr (eh_o3 (ad 21) (ad 22) (ad 23))))))), ((ad 5), aI cI 30 la), ((ad 6), .inr (2, [.ref (ad 11), .ref (ad 16)])), ((ad 7), .inr (2, [.ref (ad 12), .ref (ad 17)])), ((ad 8), .inr (2, [.ref (ad 13), .ref (ad 18)])), ((ad 9), .inr (2, [.ref (ad 14), .ref (ad 19)])), ((ad 10), .inr (2, [.ref (ad 15), .ref (ad 20)])), ((ad 11), .inr (0, [.long (eL ((cu 0 : Nat) : Int)), .long (eL ((cl 0 : Nat) : Int))])), ((ad 12), .inr (0, [.long (eL ((cu 1 : Nat) : Int)), .long (eL ((cl 1 : Nat) : Int))])), ((ad 13), .inr (0, [.long (eL ((cu 2 : Nat) : Int)), .long (eL ((cl 2 : Nat) : Int))])), ((ad 14), .inr (0, [.long (eL ((cu 3 : Nat) : Int)), .long (eL ((cl 3 : Nat) : Int))])), ((ad 15), .inr (0, [.long (eL ((cu 4 : Nat) : Int)), .long (eL ((cl 4 : Nat) : Int))])), ((ad 16), .inr (0, [.long (eL ((fu 0 : Nat) : Int)), .long (eL ((fl 0 : Nat) : Int))])), ((ad 17), .inr (0, [.long (eL ((fu 1 : Nat) : Int)), .long (eL ((fl 1 : Nat) : Int))])), ((ad 18), .inr (0, [.long (eL ((fu 2 : Nat) : Int)), .long (eL ((fl 2 : Nat) : Int))])), ((ad 19), .inr (0, [.long (eL ((fu 3 : Nat) : Int)), .long (eL ((fl 3 : Nat) : Int))])), ((ad 20), .inr (0, [.long (eL ((fu 4 : Nat) : Int)), .long (eL ((fl 4 : Nat) : Int))])), ((ad 21), .inr (3, [.int (eI (ys 0)), .int (eI (yl 0)), .int (eI (yp 0))])), ((ad 22), .inr (3, [.int (eI (ys 1)), .int (eI (yl 1)), .int (eI (yp 1))])), ((ad 23), .inr (3, [.int (eI (ys 2)), .int (eI (yl 2)), .int (eI (yp 2))]))] s.heap := hP
  have hl := lv_entry ([.ref (ad 0)]) (n := 4) (Nat.le_of_ble_eq_true rfl)
  rw [lg_entry_eq]
  generalize (lg_sl ([.ref (ad 0)]) ++ List.replicate (4 - (lg_sl ([.ref (ad 0)])).length) Slot.unset).toArray = ls at hl ⊢
  have hl : lv_has ls 4 [(0, .ref (ad 0))] := hl
  have hn5 := hE.1
  refine lv_iconst (v := eI 0) hx hb d_E_firstImpossibleLaid_0 rfl ?_
  refine lv_istore_n hx hb d_E_firstImpossibleLaid_1 rfl hl (by decide) rfl (fun ls hl => ?_)
  have hl : lv_has ls 4 [(1, .int (eI 0)), (0, .ref (ad 0))] := hl
  have outer : ∀ (q a9 : Nat) (ls : Array Slot), 6 - a9 = q → a9 ≤ 6 → eh_first (eh_ib (eh_kc n ra ln cb ys yp) la) (5 * a9) = none → lv_has ls 4 [(1, .int (eI ((a9 : Nat) : Int))), (0, .ref (ad 0))] → W p l e R s m args below meth c s.heap [] 0 0 Q (F0 m 2 ls []) := by
    intro q
    induction q with
    | zero =>
      intro a9 ls hq ha hh hl
      have ha6 : a9 = 6 := by omega
      subst ha6
      refine lv_iload_n hx hb d_E_firstImpossibleLaid_2 rfl (lv_at hl 0 rfl) ?_
      refine lv_bipush (v := eI 6) hx hb d_E_firstImpossibleLaid_3 (by decide) ?_
      refine we_icmp_ge (tgt := 57) hx hb (by constructor <;> omega) (by constructor <;> omega) d_E_firstImpossibleLaid_5 rfl (fun hc5 => ?_) (fun hc5 => absurd hc5 (by omega))
      refine lv_iconst (v := eI (-1)) hx hb d_E_firstImpossibleLaid_57 rfl ?_
      have hres : (-1 : Int) = (eh_fo (eh_first (eh_ib (eh_kc n ra ln cb ys yp) la) 30) 100 (-1)) := by
        have z : eh_first (eh_ib (eh_kc n ra ln cb ys yp) la) 30 = none := hh
        rw [z]
        rfl
      rw [hres]
      subst hQ
      exact W.iret hx hb hrt (fun t9 ht hW => ⟨rfl, ht⟩) (fun q h => by cases h) d_E_firstImpossibleLaid_58
    | succ q ih =>
      intro a9 ls hq ha hh hl
      refine lv_iload_n hx hb d_E_firstImpossibleLaid_2 rfl (lv_at hl 0 rfl) ?_
      refine lv_bipush (v := eI 6) hx hb d_E_firstImpossibleLaid_3 (by decide) ?_
      refine we_icmp_ge (tgt := 57) hx hb (by constructor <;> omega) (by constructor <;> omega) d_E_firstImpossibleLaid_5 rfl (fun hc5 => absurd hc5 (by omega)) (fun hc5 => ?_)
      refine lv_iconst (v := eI 0) hx hb d_E_firstImpossibleLaid_8 rfl ?_
      refine lv_istore_n hx hb d_E_firstImpossibleLaid_9 rfl hl (by decide) rfl (fun ls hl => ?_)
      have hl : lv_has ls 4 [(2, .int (eI 0)), (1, .int (eI ((a9 : Nat) : Int))), (0, .ref (ad 0))] := hl
      have inner : ∀ (q2 b9 : Nat) (ls : Array Slot), 5 - b9 = q2 → b9 ≤ 5 → eh_first (eh_ib (eh_kc n ra ln cb ys yp) la) (5 * a9 + b9) = none → lv_has ls 4 [(2, .int (eI ((b9 : Nat) : Int))), (1, .int (eI ((a9 : Nat) : Int))), (0, .ref (ad 0))] → W p l e R s m args below meth c s.heap [] 0 0 Q (F0 m 10 ls []) := by
        intro q2
        induction q2 with
        | zero =>
          intro b9 ls hq2 hb9 hh hl
          have hb5 : b9 = 5 := by omega
          subst hb5
          refine lv_iload_n hx hb d_E_firstImpossibleLaid_10 rfl (lv_at hl 0 rfl) ?_
          refine lv_iconst (v := eI 5) hx hb d_E_firstImpossibleLaid_11 rfl ?_
          refine we_icmp_ge (tgt := 51) hx hb (by constructor <;> omega) (by constructor <;> omega) d_E_firstImpossibleLaid_12 rfl (fun hc12 => ?_) (fun hc12 => absurd hc12 (by omega))
          refine lv_iinc (v := eI (((a9 : Nat) : Int) + 1)) hx hb d_E_firstImpossibleLaid_51 hl (k := 1) rfl (eI_add _ _) (by decide) rfl (fun ls hl => ?_)
          have hl : lv_has ls 4 [(1, .int (eI (((a9 : Nat) : Int) + 1))), (2, .int (eI ((5 : Nat) : Int))), (0, .ref (ad 0))] := hl
          refine lv_goto (tgt := 2) hx hb d_E_firstImpossibleLaid_54 rfl ?_
          exact ih (a9 + 1) ls (by omega) (by omega) hh (lv_sub hl [0, 2] rfl)
        | succ q2 ih2 =>
          intro b9 ls hq2 hb9 hh hl
          have hkb := eh_ku_b hE (show a9 < 6 by omega) (show b9 < 5 by omega)
          have hkc := eh_kc_at n ra ln cb ys yp (a := a9) (b := b9) (by omega)
          have hlb := hE.2.2.2.2.2.1 (5 * a9 + b9) (by omega)
          refine lv_iload_n hx hb d_E_firstImpossibleLaid_10 rfl (lv_at hl 0 rfl) ?_
          refine lv_iconst (v := eI 5) hx hb d_E_firstImpossibleLaid_11 rfl ?_
          refine we_icmp_ge (tgt := 51) hx hb (by constructor <;> omega) (by constructor <;> omega) d_E_firstImpossibleLaid_12 rfl (fun hc12 => absurd hc12 (by omega)) (fun hc12 => ?_)
          refine lv_iload_n hx hb d_E_firstImpossibleLaid_15 rfl (lv_at hl 1 rfl) ?_
          refine lv_iload_n hx hb d_E_firstImpossibleLaid_16 rfl (lv_at hl 0 rfl) ?_
          refine eh_cRS (As := [.int (eI ((a9 : Nat) : Int)), .int (eI ((b9 : Nat) : Int))]) (rest := []) (v := .int (eI ((5 * a9 + b9 : Nat) : Int))) hx hb hml hown htb hN (r_E_pairOf l D ((a9 : Nat) : Int) ((b9 : Nat) : Int)) 2 ⟨tb_302, tb_246, tb_1, kin_E_pairOf⟩ dv_E_pairOf ⟨by rw [hR1]; decide, by rw [hR2]; decide⟩ hK hP [] rfl [] rfl rfl rfl hl.1 (Nat.le_of_ble_eq_true rfl) d_E_firstImpossibleLaid_17 ⟨Nat.zero_le _, Nat.zero_le _⟩ ?_
          refine lv_istore_n hx hb d_E_firstImpossibleLaid_20 rfl hl (by decide) rfl (fun ls hl => ?_)
          have hl : lv_has ls 4 [(3, .int (eI ((5 * a9 + b9 : Nat) : Int))), (2, .int (eI ((b9 : Nat) : Int))), (1, .int (eI ((a9 : Nat) : Int))), (0, .ref (ad 0))] := hl
          refine lv_aload_n hx hb d_E_firstImpossibleLaid_21 rfl (lv_at hl 3 rfl) ?_
          refine va_get (D := D) (ci := 4) (v := .ref (ad 5)) (C := R_E) (T := T_E) (N := 11) hx hb htb in_E hown hK hP 0 rfl rfl 4 (by decide) (htb _ tb_128) (fun _ h9 => h9) rfl d_E_firstImpossibleLaid_22 ?_
          refine lv_iload_n hx hb d_E_firstImpossibleLaid_25 rfl (lv_at hl 0 rfl) ?_
          refine we_iald hx hb hK hP 5 0 rfl rfl (5 * a9 + b9) rfl (by omega) (by decide) d_E_firstImpossibleLaid_26 ?_
          refine we_if_le (tgt := 45) hx hb (by constructor <;> omega) d_E_firstImpossibleLaid_27 rfl (fun hc27 => ?_) (fun hc27 => ?_)
          ·
            refine lv_iinc (v := eI (((b9 : Nat) : Int) + 1)) hx hb d_E_firstImpossibleLaid_45 hl (k := 1) rfl (eI_add _ _) (by decide) rfl (fun ls hl => ?_)
            have hl : lv_has ls 4 [(2, .int (eI (((b9 : Nat) : Int) + 1))), (3, .int (eI ((5 * a9 + b9 : Nat) : Int))), (1, .int (eI ((a9 : Nat) : Int))), (0, .ref (ad 0))] := hl
            refine lv_goto (tgt := 10) hx hb d_E_firstImpossibleLaid_48 rfl ?_
            have hs9 : (eh_ib (eh_kc n ra ln cb ys yp) la) (5 * a9 + b9) = false := by
              unfold eh_ib
              rw [hkc]
              exact decide_eq_false (by omega)
            exact ih2 (b9 + 1) ls (by omega) (by omega) (eh_first_s hh hs9) (lv_sub hl [0, 2, 3] rfl)
          ·
            refine lv_aload_n hx hb d_E_firstImpossibleLaid_30 rfl (lv_at hl 3 rfl) ?_
            refine lv_iload_n hx hb d_E_firstImpossibleLaid_31 rfl (lv_at hl 2 rfl) ?_
            refine lv_iload_n hx hb d_E_firstImpossibleLaid_32 rfl (lv_at hl 1 rfl) ?_
            refine eh_cRV (As := [.int (eI ((a9 : Nat) : Int)), .int (eI ((b9 : Nat) : Int))]) (rest := []) (v := .int (eI (eh_ku n ra ln cb ys yp a9 b9))) (q := (R_E, T_E, 11)) hx hb hml hown htb hN (r_E_unitCost l D cI cL cZ cS cY ad n sh ra plv pco ln cb la cu cl fu fl ys yl yp a9 b9 (by omega) (by omega) hE) 2 ⟨tb_207, tb_209, ts_7, tb_1, kin_E_unitCost⟩ dv_E_unitCost ⟨by rw [hR1]; decide, by rw [hR2]; decide⟩ hK hP 0 rfl rfl [0, 1, 2, 3, 4, 5, 6, 7, 8, 9, 10, 11, 12, 13, 14, 15, 16, 17, 18, 19, 20, 21, 22, 23] rfl [0, 1, 2, 3, 4] rfl rfl rfl hl.1 (Nat.le_of_ble_eq_true rfl) d_E_firstImpossibleLaid_33 ⟨Nat.zero_le _, Nat.zero_le _⟩ ?_
            refine lv_iconst (v := eI (-1)) hx hb d_E_firstImpossibleLaid_36 rfl ?_
            refine we_icmp_ne (tgt := 45) hx hb (by constructor <;> omega) (by constructor <;> omega) d_E_firstImpossibleLaid_37 rfl (fun hc37 => ?_) (fun hc37 => ?_)
            ·
              refine lv_iinc (v := eI (((b9 : Nat) : Int) + 1)) hx hb d_E_firstImpossibleLaid_45 hl (k := 1) rfl (eI_add _ _) (by decide) rfl (fun ls hl => ?_)
              have hl : lv_has ls 4 [(2, .int (eI (((b9 : Nat) : Int) + 1))), (3, .int (eI ((5 * a9 + b9 : Nat) : Int))), (1, .int (eI ((a9 : Nat) : Int))), (0, .ref (ad 0))] := hl
              refine lv_goto (tgt := 10) hx hb d_E_firstImpossibleLaid_48 rfl ?_
              have hs9 : (eh_ib (eh_kc n ra ln cb ys yp) la) (5 * a9 + b9) = false := by
                unfold eh_ib
                rw [hkc]
                exact decide_eq_false (by omega)
              exact ih2 (b9 + 1) ls (by omega) (by omega) (eh_first_s hh hs9) (lv_sub hl [0, 2, 3] rfl)
            ·
              refine lv_bipush (v := eI 100) hx hb d_E_firstImpossibleLaid_40 (by decide) ?_
              refine lv_iload_n hx hb d_E_firstImpossibleLaid_42 rfl (lv_at hl 0 rfl) ?_
              refine we_iadd hx hb d_E_firstImpossibleLaid_43 ?_
              have hs9 : (eh_ib (eh_kc n ra ln cb ys yp) la) (5 * a9 + b9) = true := by
                unfold eh_ib
                rw [hkc]
                exact decide_eq_true (by omega)
              have hres : (100 + ((5 * a9 + b9 : Nat) : Int)) = (eh_fo (eh_first (eh_ib (eh_kc n ra ln cb ys yp) la) 30) 100 (-1)) := by
                rw [eh_first_at hh hs9 30 (by omega)]
                rfl
              rw [hres]
              subst hQ
              exact W.iret hx hb hrt (fun t9 ht hW => ⟨rfl, ht⟩) (fun q h => by cases h) d_E_firstImpossibleLaid_44
      exact inner 5 0 ls (by omega) (by omega) hh (lv_sub hl [0, 1, 2] rfl)
  exact outer 6 0 ls (by omega) (by omega) rfl (lv_sub hl [0, 1] rfl)
abbrev c_E_isSourceMet : ByteArray := prog_1_method_44_code
def y_E_isSourceMet : MethodName := ⟨"EarthHauls", "isSourceMet", "(I)Z"⟩
abbrev k_E_isSourceMet : Cond := .code y_E_isSourceMet c_E_isSourceMet 4 (some .boolean)
theorem kin_E_isSourceMet : k_E_isSourceMet ∈ ew_t := tb_301
theorem dv_E_isSourceMet : eh_dV y_E_isSourceMet "EarthHauls" 1 := ⟨rfl, by decide, by decide, by decide +kernel⟩
theorem d_E_isSourceMet_0 : decode c_E_isSourceMet 0 = .ok (.iconst 0, 1) := by decide +kernel
theorem d_E_isSourceMet_1 : decode c_E_isSourceMet 1 = .ok (.istore_n 2, 1) := by decide +kernel
theorem d_E_isSourceMet_2 : decode c_E_isSourceMet 2 = .ok (.iconst 0, 1) := by decide +kernel
theorem d_E_isSourceMet_3 : decode c_E_isSourceMet 3 = .ok (.istore_n 3, 1) := by decide +kernel
theorem d_E_isSourceMet_4 : decode c_E_isSourceMet 4 = .ok (.iload_n 3, 1) := by decide +kernel
theorem d_E_isSourceMet_5 : decode c_E_isSourceMet 5 = .ok (.iconst 5, 1) := by decide +kernel
theorem d_E_isSourceMet_6 : decode c_E_isSourceMet 6 = .ok (.if_icmp .ge 22, 3) := by decide +kernel
theorem d_E_isSourceMet_9 : decode c_E_isSourceMet 9 = .ok (.iload_n 2, 1) := by decide +kernel
theorem d_E_isSourceMet_10 : decode c_E_isSourceMet 10 = .ok (.aload_n 0, 1) := by decide +kernel
theorem d_E_isSourceMet_11 : decode c_E_isSourceMet 11 = .ok (.getfield 29, 3) := by decide +kernel
theorem d_E_isSourceMet_14 : decode c_E_isSourceMet 14 = .ok (.iload_n 1, 1) := by decide +kernel
theorem d_E_isSourceMet_15 : decode c_E_isSourceMet 15 = .ok (.iload_n 3, 1) := by decide +kernel
theorem d_E_isSourceMet_16 : decode c_E_isSourceMet 16 = .ok (.invokestatic 150, 3) := by decide +kernel
theorem d_E_isSourceMet_19 : decode c_E_isSourceMet 19 = .ok (.iaload, 1) := by decide +kernel
theorem d_E_isSourceMet_20 : decode c_E_isSourceMet 20 = .ok (.iadd, 1) := by decide +kernel
theorem d_E_isSourceMet_21 : decode c_E_isSourceMet 21 = .ok (.istore_n 2, 1) := by decide +kernel
theorem d_E_isSourceMet_22 : decode c_E_isSourceMet 22 = .ok (.iinc 3 1, 3) := by decide +kernel
theorem d_E_isSourceMet_25 : decode c_E_isSourceMet 25 = .ok (.goto (-21), 3) := by decide +kernel
theorem d_E_isSourceMet_28 : decode c_E_isSourceMet 28 = .ok (.iload_n 1, 1) := by decide +kernel
theorem d_E_isSourceMet_29 : decode c_E_isSourceMet 29 = .ok (.iconst 4, 1) := by decide +kernel
theorem d_E_isSourceMet_30 : decode c_E_isSourceMet 30 = .ok (.if_icmp .lt 24, 3) := by decide +kernel
theorem d_E_isSourceMet_33 : decode c_E_isSourceMet 33 = .ok (.iload_n 2, 1) := by decide +kernel
theorem d_E_isSourceMet_34 : decode c_E_isSourceMet 34 = .ok (.aload_n 0, 1) := by decide +kernel
theorem d_E_isSourceMet_35 : decode c_E_isSourceMet 35 = .ok (.getfield 25, 3) := by decide +kernel
theorem d_E_isSourceMet_38 : decode c_E_isSourceMet 38 = .ok (.iload_n 1, 1) := by decide +kernel
theorem d_E_isSourceMet_39 : decode c_E_isSourceMet 39 = .ok (.iconst 4, 1) := by decide +kernel
theorem d_E_isSourceMet_40 : decode c_E_isSourceMet 40 = .ok (.isub, 1) := by decide +kernel
theorem d_E_isSourceMet_41 : decode c_E_isSourceMet 41 = .ok (.aaload, 1) := by decide +kernel
theorem d_E_isSourceMet_42 : decode c_E_isSourceMet 42 = .ok (.getfield 236, 3) := by decide +kernel
theorem d_E_isSourceMet_45 : decode c_E_isSourceMet 45 = .ok (.if_icmp .gt 7, 3) := by decide +kernel
theorem d_E_isSourceMet_48 : decode c_E_isSourceMet 48 = .ok (.iconst 1, 1) := by decide +kernel
theorem d_E_isSourceMet_49 : decode c_E_isSourceMet 49 = .ok (.goto 4, 3) := by decide +kernel
theorem d_E_isSourceMet_52 : decode c_E_isSourceMet 52 = .ok (.iconst 0, 1) := by decide +kernel
theorem d_E_isSourceMet_53 : decode c_E_isSourceMet 53 = .ok (.ireturn, 1) := by decide +kernel
theorem d_E_isSourceMet_54 : decode c_E_isSourceMet 54 = .ok (.iload_n 2, 1) := by decide +kernel
theorem d_E_isSourceMet_55 : decode c_E_isSourceMet 55 = .ok (.aload_n 0, 1) := by decide +kernel
theorem d_E_isSourceMet_56 : decode c_E_isSourceMet 56 = .ok (.iload_n 1, 1) := by decide +kernel
theorem d_E_isSourceMet_57 : decode c_E_isSourceMet 57 = .ok (.invokevirtual 85, 3) := by decide +kernel
theorem d_E_isSourceMet_60 : decode c_E_isSourceMet 60 = .ok (.ifCond .eq 11, 3) := by decide +kernel
theorem d_E_isSourceMet_63 : decode c_E_isSourceMet 63 = .ok (.aload_n 0, 1) := by decide +kernel
theorem d_E_isSourceMet_64 : decode c_E_isSourceMet 64 = .ok (.iload_n 1, 1) := by decide +kernel
theorem d_E_isSourceMet_65 : decode c_E_isSourceMet 65 = .ok (.invokevirtual 121, 3) := by decide +kernel
theorem d_E_isSourceMet_68 : decode c_E_isSourceMet 68 = .ok (.goto 4, 3) := by decide +kernel
theorem d_E_isSourceMet_71 : decode c_E_isSourceMet 71 = .ok (.iconst 0, 1) := by decide +kernel
theorem d_E_isSourceMet_72 : decode c_E_isSourceMet 72 = .ok (.if_icmp .ne 7, 3) := by decide +kernel
theorem d_E_isSourceMet_75 : decode c_E_isSourceMet 75 = .ok (.iconst 1, 1) := by decide +kernel
theorem d_E_isSourceMet_76 : decode c_E_isSourceMet 76 = .ok (.goto 4, 3) := by decide +kernel
theorem d_E_isSourceMet_79 : decode c_E_isSourceMet 79 = .ok (.iconst 0, 1) := by decide +kernel
theorem d_E_isSourceMet_80 : decode c_E_isSourceMet 80 = .ok (.ireturn, 1) := by decide +kernel
set_option maxHeartbeats 4000000 in
set_option maxRecDepth 100000 in
theorem r_E_isSourceMet (l : Launch) (D : va_G) (cI cL cZ cS cY : ClassId) (ad : Nat → Nat) (n : Nat) (sh ra plv pco : Int) (ln cb la : Nat → Int) (cu cl fu fl : Nat → Nat) (ys yl yp : Nat → Int) (k : Nat) (hk : k < 6) (hE : eh_ES n sh ra ln cb la cu cl fu fl ys yl yp) : eh_R l y_E_isSourceMet k_E_isSourceMet 3 68 D classes [(cI, .int), (cL, .long), (cZ, .boolean), (cS, .object "EarthHauls$Section"), (cY, .object "EarthHauls$Yard")] [.ref (ad 0), .int (eI ((k : Nat) : Int))] [((ad 0), .inr (4, [.ref (ad 1), .ref (ad 2), .ref (ad 3), .ref (ad 4), .ref (ad 5), .ref (ad 24), .int (eI ((n : Nat) : Int)), .int (eI sh), .int (eI ra), .int (eI plv), .long (eL pco)])), ((ad 1), .inl (cS, 5, .inr (.inr (.inr (.inr (eh_o5 (ad 6) (ad 7) (ad 8) (ad 9) (ad 10))))))), ((ad 2), aI cI 4 ln), ((ad 3), aI cZ 3 cb), ((ad 4), .inl (cY, 3, .inr (.inr (.inr (.inr (eh_o3 (ad 21) (ad 22) (ad 23))))))), ((ad 5), aI cI 30 la), ((ad 6), .inr (2, [.ref (ad 11), .ref (ad 16)])), ((ad 7), .inr (2, [.ref (ad 12), .ref (ad 17)])), ((ad 8), .inr (2, [.ref (ad 13), .ref (ad 18)])), ((ad 9), .inr (2, [.ref (ad 14), .ref (ad 19)])), ((ad 10), .inr (2, [.ref (ad 15), .ref (ad 20)])), ((ad 11), .inr (0, [.long (eL ((cu 0 : Nat) : Int)), .long (eL ((cl 0 : Nat) : Int))])), ((ad 12), .inr (0, [.long (eL ((cu 1 : Nat) : Int)), .long (eL ((cl 1 : Nat) : Int))])), ((ad 13), .inr (0, [.long (eL ((cu 2 : Nat) : Int)), .long (eL ((cl 2 : Nat) : Int))])), ((ad 14), .inr (0, [.long (eL ((cu 3 : Nat) : Int)), .long (eL ((cl 3 : Nat) : Int))])), ((ad 15), .inr (0, [.long (eL ((cu 4 : Nat) : Int)), .long (eL ((cl 4 : Nat) : Int))])), ((ad 16), .inr (0, [.long (eL ((fu 0 : Nat) : Int)), .long (eL ((fl 0 : Nat) : Int))])), ((ad 17), .inr (0, [.long (eL ((fu 1 : Nat) : Int)), .long (eL ((fl 1 : Nat) : Int))])), ((ad 18), .inr (0, [.long (eL ((fu 2 : Nat) : Int)), .long (eL ((fl 2 : Nat) : Int))])), ((ad 19), .inr (0, [.long (eL ((fu 3 : Nat) : Int)), .long (eL ((fl 3 : Nat) : Int))])), ((ad 20), .inr (0, [.long (eL ((fu 4 : Nat) : Int)), .long (eL ((fl 4 : Nat) : Int))])), ((ad 21), .inr (3, [.int (eI (ys 0)), .int (eI (yl 0)), .int (eI (yp 0))])), ((ad 22), .inr (3, [.int (eI (ys 1)), .int (eI (yl 1)), .int (eI (yp 1))])), ((ad 23), .inr (3, [.int (eI (ys 2)), .int (eI (yl 2)), .int (eI (yp 2))]))] (.int (eI (if eh_sb n sh ln la cu cl yl k = true then 0 else 1))) := by
  refine Met.ofW (cc := c_E_isSourceMet) (maxL := 4) (ret := (some .boolean)) (by decide) rfl ?_
  intro p e s m args below meth c s₁ B hml hv
  obtain ⟨hargs, hP, hK, hN⟩ := hv
  have hx := B.exec
  have hb := B.bytes
  have hrt := B.returns
  have hts := atoms_spec (ws := k_E_isSourceMet :: ew_t) B.pre
  have htb : ∀ w ∈ ew_t, w.before args s = true := fun w h => hts w (List.mem_cons_of_mem _ h)
  have hown : s.vm.findClass "EarthHauls" = some m.cls := findClass_of_methodNamed B.named
  have hlocks := B.notSynchronized
  have hE : entryFrame m args 4 = entryFrame m ([.ref (ad 0), .int (eI ((k : Nat) : Int))] : List Value).toArray 4 := by rw [hargs]
  rw [hE]
  clear hE hts B hargs
  generalize hRe : (headSpec _ _).room = R
  have hR1 : R.frames = 3 := by rw [← hRe]; rfl
  have hR2 : R.locals = 68 := by rw [← hRe]; rfl
  clear hRe
  generalize hQ : MQ below _ _ s 0 0 _ = Q
  have hP : va_P D classes [((ad 0), .inr (4, [.ref (ad 1), .ref (ad 2), .ref (ad 3), .ref (ad 4), .ref (ad 5), .ref (ad 24), .int (eI ((n : Nat) : Int)), .int (eI sh), .int (eI ra), .int (eI plv), .long (eL pco)])), ((ad 1), .inl (cS, 5, .inr (.inr (.inr (.inr (eh_o5 (ad 6) (ad 7) (ad 8) (ad 9) (ad 10))))))), ((ad 2), aI cI 4 ln), ((ad 3), aI cZ 3 cb), ((ad 4), .inl (cY, 3, .inr (.inr (.inr (.inr (eh_o3 (ad 21) (ad 22) (ad 23))))))), ((ad 5), aI cI 30 la), ((ad 6), .inr (2, [.ref (ad 11), .ref (ad 16)])), ((ad 7), .inr (2, [.ref (ad 12), .ref (ad 17)])), ((ad 8), .inr (2, [.ref (ad 13), .ref (ad 18)])), ((ad 9), .inr (2, [.ref (ad 14), .ref (ad 19)])), ((ad 10), .inr (2, [.ref (ad 15), .ref (ad 20)])), ((ad 11), .inr (0, [.long (eL ((cu 0 : Nat) : Int)), .long (eL ((cl 0 : Nat) : Int))])), ((ad 12), .inr (0, [.long (eL ((cu 1 : Nat) : Int)), .long (eL ((cl 1 : Nat) : Int))])), ((ad 13), .inr (0, [.long (eL ((cu 2 : Nat) : Int)), .long (eL ((cl 2 : Nat) : Int))])), ((ad 14), .inr (0, [.long (eL ((cu 3 : Nat) : Int)), .long (eL ((cl 3 : Nat) : Int))])), ((ad 15), .inr (0, [.long (eL ((cu 4 : Nat) : Int)), .long (eL ((cl 4 : Nat) : Int))])), ((ad 16), .inr (0, [.long (eL ((fu 0 : Nat) : Int)), .long (eL ((fl 0 : Nat) : Int))])), ((ad 17), .inr (0, [.long (eL ((fu 1 : Nat) : Int)), .long (eL ((fl 1 : Nat) : Int))])), ((ad 18), .inr (0, [.long (eL ((fu 2 : Nat) : Int)), .long (eL ((fl 2 : Nat) : Int))])), ((ad 19), .inr (0, [.long (eL ((fu 3 : Nat) : Int)), .long (eL ((fl 3 : Nat) : Int))])), ((ad 20), .inr (0, [.long (eL ((fu 4 : Nat) : Int)), .long (eL ((fl 4 : Nat) : Int))])), ((ad 21), .inr (3, [.int (eI (ys 0)), .int (eI (yl 0)), .int (eI (yp 0))])), ((ad 22), .inr (3, [.int (eI (ys 1)), .int (eI (yl 1)), .int (eI (yp 1))])), ((ad 23), .inr (3, [.int (eI (ys 2)), .int (eI (yl 2)), .int (eI (yp 2))]))] s.heap := hP
  have hl := lv_entry ([.ref (ad 0), .int (eI ((k : Nat) : Int))]) (n := 4) (Nat.le_of_ble_eq_true rfl)
  rw [lg_entry_eq]
  generalize (lg_sl ([.ref (ad 0), .int (eI ((k : Nat) : Int))]) ++ List.replicate (4 - (lg_sl ([.ref (ad 0), .int (eI ((k : Nat) : Int))])).length) Slot.unset).toArray = ls at hl ⊢
  have hl : lv_has ls 4 [(0, .ref (ad 0)), (1, .int (eI ((k : Nat) : Int)))] := hl
  have hn5 := hE.1
  have hsum : ∀ j, j ≤ 5 → 0 ≤ eh_sm (fun i9 => la (5 * k + i9)) j ∧ eh_sm (fun i9 => la (5 * k + i9)) j ≤ 100000000 * (j : Int) := by
    intro j
    induction j with
    | zero => intro _; exact ⟨Int.le_refl _, by show (0 : Int) ≤ 100000000 * 0; omega⟩
    | succ j ih =>
      intro hj
      have h1 := ih (by omega)
      have h2 := hE.2.2.2.2.2.1 (5 * k + j) (by omega)
      show 0 ≤ eh_sm (fun i9 => la (5 * k + i9)) j + la (5 * k + j) ∧ eh_sm (fun i9 => la (5 * k + i9)) j + la (5 * k + j) ≤ 100000000 * ((j + 1 : Nat) : Int)
      omega
  refine lv_iconst (v := eI 0) hx hb d_E_isSourceMet_0 rfl ?_
  refine lv_istore_n hx hb d_E_isSourceMet_1 rfl hl (by decide) rfl (fun ls hl => ?_)
  have hl : lv_has ls 4 [(2, .int (eI 0)), (0, .ref (ad 0)), (1, .int (eI ((k : Nat) : Int)))] := hl
  refine lv_iconst (v := eI 0) hx hb d_E_isSourceMet_2 rfl ?_
  refine lv_istore_n hx hb d_E_isSourceMet_3 rfl hl (by decide) rfl (fun ls hl => ?_)
  have hl : lv_has ls 4 [(3, .int (eI 0)), (2, .int (eI 0)), (0, .ref (ad 0)), (1, .int (eI ((k : Nat) : Int)))] := hl
  have loop : ∀ (q j9 : Nat) (ls : Array Slot), 5 - j9 = q → j9 ≤ 5 → lv_has ls 4 [(3, .int (eI ((j9 : Nat) : Int))), (2, .int (eI (eh_sm (fun i9 => la (5 * k + i9)) j9))), (0, .ref (ad 0)), (1, .int (eI ((k : Nat) : Int)))] → W p l e R s m args below meth c s.heap [] 0 0 Q (F0 m 4 ls []) := by
    intro q
    induction q with
    | zero =>
      intro j9 ls hq hj hl
      have hj5 : j9 = 5 := by omega
      subst hj5
      have hs5 := hsum 5 (by omega)
      have hl : lv_has ls 4 [(3, .int (eI ((5 : Nat) : Int))), (2, .int (eI (eh_row la k))), (0, .ref (ad 0)), (1, .int (eI ((k : Nat) : Int)))] := hl
      have hs5 : 0 ≤ eh_row la k ∧ eh_row la k ≤ 100000000 * ((5 : Nat) : Int) := hs5
      rcases (show k < 4 ∨ k = 4 ∨ k = 5 by omega) with hk4 | rfl | rfl
      ·
        refine lv_iload_n hx hb d_E_isSourceMet_4 rfl (lv_at hl 0 rfl) ?_
        refine lv_iconst (v := eI 5) hx hb d_E_isSourceMet_5 rfl ?_
        refine we_icmp_ge (tgt := 28) hx hb (by constructor <;> omega) (by constructor <;> omega) d_E_isSourceMet_6 rfl (fun hc6 => ?_) (fun hc6 => absurd hc6 (by omega))
        refine lv_iload_n hx hb d_E_isSourceMet_28 rfl (lv_at hl 3 rfl) ?_
        refine lv_iconst (v := eI 4) hx hb d_E_isSourceMet_29 rfl ?_
        refine we_icmp_lt (tgt := 54) hx hb (by constructor <;> omega) (by constructor <;> omega) d_E_isSourceMet_30 rfl (fun hc30 => ?_) (fun hc30 => absurd hc30 (by omega))
        refine lv_iload_n hx hb d_E_isSourceMet_54 rfl (lv_at hl 1 rfl) ?_
        refine lv_aload_n hx hb d_E_isSourceMet_55 rfl (lv_at hl 2 rfl) ?_
        refine lv_iload_n hx hb d_E_isSourceMet_56 rfl (lv_at hl 3 rfl) ?_
        refine eh_cRV (As := [.int (eI ((k : Nat) : Int))]) (rest := [.int (eI (eh_row la k))]) (v := .int (eI (if 0 ≤ ((k : Nat) : Int) ∧ ((k : Nat) : Int) + 1 < n then 1 else 0))) (q := (R_E, T_E, 11)) hx hb hml hown htb hN (r_E_isSpan l D cI cL cZ cS cY ad n sh ra plv pco ln cb la cu cl fu fl ys yl yp ((k : Nat) : Int) (by omega) hE) 1 ⟨tb_215, tb_217, ts_9, tb_1, kin_E_isSpan⟩ dv_E_isSpan ⟨by rw [hR1]; decide, by rw [hR2]; decide⟩ hK hP 0 rfl rfl [0, 1, 2, 3, 4, 5, 6, 7, 8, 9, 10, 11, 12, 13, 14, 15, 16, 17, 18, 19, 20, 21, 22, 23] rfl [0, 1, 2, 3, 4] rfl rfl rfl hl.1 (Nat.le_of_ble_eq_true rfl) d_E_isSourceMet_57 ⟨Nat.zero_le _, Nat.zero_le _⟩ ?_
        refine we_if_eq (tgt := 71) hx hb (by constructor <;> split <;> omega) d_E_isSourceMet_60 rfl (fun hc60 => ?_) (fun hc60 => ?_)
        ·
          refine lv_iconst (v := eI 0) hx hb d_E_isSourceMet_71 rfl ?_
          refine we_icmp_ne (tgt := 79) hx hb (by constructor <;> omega) (by constructor <;> omega) d_E_isSourceMet_72 rfl (fun hc72 => ?_) (fun hc72 => ?_)
          ·
            refine lv_iconst (v := eI 0) hx hb d_E_isSourceMet_79 rfl ?_
            have hz : eh_sb n sh ln la cu cl yl k = true := by
              unfold eh_sb
              rw [if_pos hk4]
              unfold eh_gv
              rw [if_pos hk4]
              by_cases z : k + 1 < n
              · rw [if_pos z]
                first | exact decide_eq_true (by omega) | exact decide_eq_false (by omega) | (exfalso; split at hc60 <;> omega)
              · rw [if_neg z]
                first | exact decide_eq_true (by omega) | exact decide_eq_false (by omega) | (exfalso; split at hc60 <;> omega)
            have hres : (0 : Int) = (if eh_sb n sh ln la cu cl yl k = true then 0 else 1) := by rw [hz]; rfl
            subst hQ
            exact W.zret (v := eI 0) hx hb hrt (by decide) (fun t9 ht hW => ⟨by rw [← hres], ht⟩) (fun q h => by cases h) d_E_isSourceMet_80
          ·
            refine lv_iconst (v := eI 1) hx hb d_E_isSourceMet_75 rfl ?_
            refine lv_goto (tgt := 80) hx hb d_E_isSourceMet_76 rfl ?_
            have hz : eh_sb n sh ln la cu cl yl k = false := by
              unfold eh_sb
              rw [if_pos hk4]
              unfold eh_gv
              rw [if_pos hk4]
              by_cases z : k + 1 < n
              · rw [if_pos z]
                first | exact decide_eq_true (by omega) | exact decide_eq_false (by omega) | (exfalso; split at hc60 <;> omega)
              · rw [if_neg z]
                first | exact decide_eq_true (by omega) | exact decide_eq_false (by omega) | (exfalso; split at hc60 <;> omega)
            have hres : (1 : Int) = (if eh_sb n sh ln la cu cl yl k = true then 0 else 1) := by rw [hz]; rfl
            subst hQ
            exact W.zret (v := eI 1) hx hb hrt (by decide) (fun t9 ht hW => ⟨by rw [← hres], ht⟩) (fun q h => by cases h) d_E_isSourceMet_80
        ·
          have hcs := hc60
          have hval := eh_plc_b hE (show k + 1 < n by split at hcs <;> omega)
          refine lv_aload_n hx hb d_E_isSourceMet_63 rfl (lv_at hl 2 rfl) ?_
          refine lv_iload_n hx hb d_E_isSourceMet_64 rfl (lv_at hl 3 rfl) ?_
          refine eh_cRV (As := [.int (eI ((k : Nat) : Int))]) (rest := [.int (eI (eh_row la k))]) (v := .int (eI (eh_plc cu cl ln sh k))) (q := (R_E, T_E, 11)) hx hb hml hown htb hN (r_E_placedOf l D cI cL cZ cS cY ad n sh ra plv pco ln cb la cu cl fu fl ys yl yp k (by split at hcs <;> omega) hE) 1 ⟨tb_166, tb_168, ts_1, tb_1, kin_E_placedOf⟩ dv_E_placedOf ⟨by rw [hR1]; decide, by rw [hR2]; decide⟩ hK hP 0 rfl rfl [0, 1, 2, 3, 4, 5, 6, 7, 8, 9, 10, 11, 12, 13, 14, 15, 16, 17, 18, 19, 20, 21, 22, 23] rfl [0, 1, 2, 3, 4] rfl rfl rfl hl.1 (Nat.le_of_ble_eq_true rfl) d_E_isSourceMet_65 ⟨Nat.zero_le _, Nat.zero_le _⟩ ?_
          refine lv_goto (tgt := 72) hx hb d_E_isSourceMet_68 rfl ?_
          refine we_icmp_ne (tgt := 79) hx hb (by constructor <;> omega) (by constructor <;> omega) d_E_isSourceMet_72 rfl (fun hc72 => ?_) (fun hc72 => ?_)
          ·
            refine lv_iconst (v := eI 0) hx hb d_E_isSourceMet_79 rfl ?_
            have hz : eh_sb n sh ln la cu cl yl k = true := by
              unfold eh_sb
              rw [if_pos hk4]
              unfold eh_gv
              rw [if_pos hk4]
              by_cases z : k + 1 < n
              · rw [if_pos z]
                first | exact decide_eq_true (by omega) | exact decide_eq_false (by omega) | (exfalso; split at hc60 <;> omega)
              · rw [if_neg z]
                first | exact decide_eq_true (by omega) | exact decide_eq_false (by omega) | (exfalso; split at hc60 <;> omega)
            have hres : (0 : Int) = (if eh_sb n sh ln la cu cl yl k = true then 0 else 1) := by rw [hz]; rfl
            subst hQ
            exact W.zret (v := eI 0) hx hb hrt (by decide) (fun t9 ht hW => ⟨by rw [← hres], ht⟩) (fun q h => by cases h) d_E_isSourceMet_80
          ·
            refine lv_iconst (v := eI 1) hx hb d_E_isSourceMet_75 rfl ?_
            refine lv_goto (tgt := 80) hx hb d_E_isSourceMet_76 rfl ?_
            have hz : eh_sb n sh ln la cu cl yl k = false := by
              unfold eh_sb
              rw [if_pos hk4]
              unfold eh_gv
              rw [if_pos hk4]
              by_cases z : k + 1 < n
              · rw [if_pos z]
                first | exact decide_eq_true (by omega) | exact decide_eq_false (by omega) | (exfalso; split at hc60 <;> omega)
              · rw [if_neg z]
                first | exact decide_eq_true (by omega) | exact decide_eq_false (by omega) | (exfalso; split at hc60 <;> omega)
            have hres : (1 : Int) = (if eh_sb n sh ln la cu cl yl k = true then 0 else 1) := by rw [hz]; rfl
            subst hQ
            exact W.zret (v := eI 1) hx hb hrt (by decide) (fun t9 ht hW => ⟨by rw [← hres], ht⟩) (fun q h => by cases h) d_E_isSourceMet_80
      ·
        have hyl := hE.2.2.2.2.2.2.2 0 (by omega)
        have hyl2 : 0 ≤ yl 0 ∧ yl 0 ≤ 100000000 := by omega
        refine lv_iload_n hx hb d_E_isSourceMet_4 rfl (lv_at hl 0 rfl) ?_
        refine lv_iconst (v := eI 5) hx hb d_E_isSourceMet_5 rfl ?_
        refine we_icmp_ge (tgt := 28) hx hb (by constructor <;> omega) (by constructor <;> omega) d_E_isSourceMet_6 rfl (fun hc6 => ?_) (fun hc6 => absurd hc6 (by omega))
        refine lv_iload_n hx hb d_E_isSourceMet_28 rfl (lv_at hl 3 rfl) ?_
        refine lv_iconst (v := eI 4) hx hb d_E_isSourceMet_29 rfl ?_
        refine we_icmp_lt (tgt := 54) hx hb (by constructor <;> omega) (by constructor <;> omega) d_E_isSourceMet_30 rfl (fun hc30 => absurd hc30 (by omega)) (fun hc30 => ?_)
        refine lv_iload_n hx hb d_E_isSourceMet_33 rfl (lv_at hl 1 rfl) ?_
        refine lv_aload_n hx hb d_E_isSourceMet_34 rfl (lv_at hl 2 rfl) ?_
        refine va_get (D := D) (ci := 4) (v := .ref (ad 4)) (C := R_E) (T := T_E) (N := 11) hx hb htb in_E hown hK hP 0 rfl rfl 3 (by decide) (htb _ tb_127) (fun _ h9 => h9) rfl d_E_isSourceMet_35 ?_
        refine lv_iload_n hx hb d_E_isSourceMet_38 rfl (lv_at hl 3 rfl) ?_
        refine lv_iconst (v := eI 4) hx hb d_E_isSourceMet_39 rfl ?_
        refine we_isub hx hb d_E_isSourceMet_40 ?_
        refine we_aald (r := (ad 21)) hx hb hK hP 4 4 rfl rfl 0 rfl (by decide) (by decide) rfl d_E_isSourceMet_41 ?_
        refine va_get (D := D) (ci := 3) (v := .int (eI (yl 0))) (C := R_Y) (T := T_Y) (N := 3) hx hb htb in_Y hown hK hP 21 rfl rfl 1 (by decide) (htb _ tb_98) (fun _ h9 => h9) rfl d_E_isSourceMet_42 ?_
        refine we_icmp_gt (tgt := 52) hx hb (by constructor <;> omega) (by constructor <;> omega) d_E_isSourceMet_45 rfl (fun hc45 => ?_) (fun hc45 => ?_)
        ·
          refine lv_iconst (v := eI 0) hx hb d_E_isSourceMet_52 rfl ?_
          have hz : eh_sb n sh ln la cu cl yl 4 = true := by
            unfold eh_sb
            rw [if_neg (by omega)]
            unfold eh_gv
            rw [if_neg (by omega)]
            exact decide_eq_true (by omega)
          have hres : (0 : Int) = (if eh_sb n sh ln la cu cl yl 4 = true then 0 else 1) := by rw [hz]; rfl
          subst hQ
          exact W.zret (v := eI 0) hx hb hrt (by decide) (fun t9 ht hW => ⟨by rw [← hres], ht⟩) (fun q h => by cases h) d_E_isSourceMet_53
        ·
          refine lv_iconst (v := eI 1) hx hb d_E_isSourceMet_48 rfl ?_
          refine lv_goto (tgt := 53) hx hb d_E_isSourceMet_49 rfl ?_
          have hz : eh_sb n sh ln la cu cl yl 4 = false := by
            unfold eh_sb
            rw [if_neg (by omega)]
            unfold eh_gv
            rw [if_neg (by omega)]
            exact decide_eq_false (by omega)
          have hres : (1 : Int) = (if eh_sb n sh ln la cu cl yl 4 = true then 0 else 1) := by rw [hz]; rfl
          subst hQ
          exact W.zret (v := eI 1) hx hb hrt (by decide) (fun t9 ht hW => ⟨by rw [← hres], ht⟩) (fun q h => by cases h) d_E_isSourceMet_53
      ·
        have hyl := hE.2.2.2.2.2.2.2 1 (by omega)
        have hyl2 : 0 ≤ yl 1 ∧ yl 1 ≤ 100000000 := by omega
        refine lv_iload_n hx hb d_E_isSourceMet_4 rfl (lv_at hl 0 rfl) ?_
        refine lv_iconst (v := eI 5) hx hb d_E_isSourceMet_5 rfl ?_
        refine we_icmp_ge (tgt := 28) hx hb (by constructor <;> omega) (by constructor <;> omega) d_E_isSourceMet_6 rfl (fun hc6 => ?_) (fun hc6 => absurd hc6 (by omega))
        refine lv_iload_n hx hb d_E_isSourceMet_28 rfl (lv_at hl 3 rfl) ?_
        refine lv_iconst (v := eI 4) hx hb d_E_isSourceMet_29 rfl ?_
        refine we_icmp_lt (tgt := 54) hx hb (by constructor <;> omega) (by constructor <;> omega) d_E_isSourceMet_30 rfl (fun hc30 => absurd hc30 (by omega)) (fun hc30 => ?_)
        refine lv_iload_n hx hb d_E_isSourceMet_33 rfl (lv_at hl 1 rfl) ?_
        refine lv_aload_n hx hb d_E_isSourceMet_34 rfl (lv_at hl 2 rfl) ?_
        refine va_get (D := D) (ci := 4) (v := .ref (ad 4)) (C := R_E) (T := T_E) (N := 11) hx hb htb in_E hown hK hP 0 rfl rfl 3 (by decide) (htb _ tb_127) (fun _ h9 => h9) rfl d_E_isSourceMet_35 ?_
        refine lv_iload_n hx hb d_E_isSourceMet_38 rfl (lv_at hl 3 rfl) ?_
        refine lv_iconst (v := eI 4) hx hb d_E_isSourceMet_39 rfl ?_
        refine we_isub hx hb d_E_isSourceMet_40 ?_
        refine we_aald (r := (ad 22)) hx hb hK hP 4 4 rfl rfl 1 rfl (by decide) (by decide) rfl d_E_isSourceMet_41 ?_
        refine va_get (D := D) (ci := 3) (v := .int (eI (yl 1))) (C := R_Y) (T := T_Y) (N := 3) hx hb htb in_Y hown hK hP 22 rfl rfl 1 (by decide) (htb _ tb_98) (fun _ h9 => h9) rfl d_E_isSourceMet_42 ?_
        refine we_icmp_gt (tgt := 52) hx hb (by constructor <;> omega) (by constructor <;> omega) d_E_isSourceMet_45 rfl (fun hc45 => ?_) (fun hc45 => ?_)
        ·
          refine lv_iconst (v := eI 0) hx hb d_E_isSourceMet_52 rfl ?_
          have hz : eh_sb n sh ln la cu cl yl 5 = true := by
            unfold eh_sb
            rw [if_neg (by omega)]
            unfold eh_gv
            rw [if_neg (by omega)]
            exact decide_eq_true (by omega)
          have hres : (0 : Int) = (if eh_sb n sh ln la cu cl yl 5 = true then 0 else 1) := by rw [hz]; rfl
          subst hQ
          exact W.zret (v := eI 0) hx hb hrt (by decide) (fun t9 ht hW => ⟨by rw [← hres], ht⟩) (fun q h => by cases h) d_E_isSourceMet_53
        ·
          refine lv_iconst (v := eI 1) hx hb d_E_isSourceMet_48 rfl ?_
          refine lv_goto (tgt := 53) hx hb d_E_isSourceMet_49 rfl ?_
          have hz : eh_sb n sh ln la cu cl yl 5 = false := by
            unfold eh_sb
            rw [if_neg (by omega)]
            unfold eh_gv
            rw [if_neg (by omega)]
            exact decide_eq_false (by omega)
          have hres : (1 : Int) = (if eh_sb n sh ln la cu cl yl 5 = true then 0 else 1) := by rw [hz]; rfl
          subst hQ
          exact W.zret (v := eI 1) hx hb hrt (by decide) (fun t9 ht hW => ⟨by rw [← hres], ht⟩) (fun q h => by cases h) d_E_isSourceMet_53
    | succ q ih =>
      intro j9 ls hq hj hl
      have hlb := hE.2.2.2.2.2.1 (5 * k + j9) (by omega)
      refine lv_iload_n hx hb d_E_isSourceMet_4 rfl (lv_at hl 0 rfl) ?_
      refine lv_iconst (v := eI 5) hx hb d_E_isSourceMet_5 rfl ?_
      refine we_icmp_ge (tgt := 28) hx hb (by constructor <;> omega) (by constructor <;> omega) d_E_isSourceMet_6 rfl (fun hc6 => absurd hc6 (by omega)) (fun hc6 => ?_)
      refine lv_iload_n hx hb d_E_isSourceMet_9 rfl (lv_at hl 1 rfl) ?_
      refine lv_aload_n hx hb d_E_isSourceMet_10 rfl (lv_at hl 2 rfl) ?_
      refine va_get (D := D) (ci := 4) (v := .ref (ad 5)) (C := R_E) (T := T_E) (N := 11) hx hb htb in_E hown hK hP 0 rfl rfl 4 (by decide) (htb _ tb_128) (fun _ h9 => h9) rfl d_E_isSourceMet_11 ?_
      refine lv_iload_n hx hb d_E_isSourceMet_14 rfl (lv_at hl 3 rfl) ?_
      refine lv_iload_n hx hb d_E_isSourceMet_15 rfl (lv_at hl 0 rfl) ?_
      refine eh_cRS (As := [.int (eI ((k : Nat) : Int)), .int (eI ((j9 : Nat) : Int))]) (rest := [.ref (ad 5), .int (eI (eh_sm (fun i9 => la (5 * k + i9)) j9))]) (v := .int (eI ((5 * k + j9 : Nat) : Int))) hx hb hml hown htb hN (r_E_pairOf l D ((k : Nat) : Int) ((j9 : Nat) : Int)) 2 ⟨tb_302, tb_246, tb_1, kin_E_pairOf⟩ dv_E_pairOf ⟨by rw [hR1]; decide, by rw [hR2]; decide⟩ hK hP [] rfl [] rfl rfl rfl hl.1 (Nat.le_of_ble_eq_true rfl) d_E_isSourceMet_16 ⟨Nat.zero_le _, Nat.zero_le _⟩ ?_
      refine we_iald hx hb hK hP 5 0 rfl rfl (5 * k + j9) rfl (by omega) (by decide) d_E_isSourceMet_19 ?_
      refine we_iadd hx hb d_E_isSourceMet_20 ?_
      refine lv_istore_n hx hb d_E_isSourceMet_21 rfl hl (by decide) rfl (fun ls hl => ?_)
      have hl : lv_has ls 4 [(2, .int (eI ((eh_sm (fun i9 => la (5 * k + i9)) j9) + (la (5 * k + j9))))), (3, .int (eI ((j9 : Nat) : Int))), (0, .ref (ad 0)), (1, .int (eI ((k : Nat) : Int)))] := hl
      refine lv_iinc (v := eI (((j9 : Nat) : Int) + 1)) hx hb d_E_isSourceMet_22 hl (k := 1) rfl (eI_add _ _) (by decide) rfl (fun ls hl => ?_)
      have hl : lv_has ls 4 [(3, .int (eI (((j9 : Nat) : Int) + 1))), (2, .int (eI ((eh_sm (fun i9 => la (5 * k + i9)) j9) + (la (5 * k + j9))))), (0, .ref (ad 0)), (1, .int (eI ((k : Nat) : Int)))] := hl
      refine lv_goto (tgt := 4) hx hb d_E_isSourceMet_25 rfl ?_
      exact ih (j9 + 1) ls (by omega) (by omega) (lv_sub hl [0, 1, 2, 3] rfl)
  exact loop 5 0 ls (by omega) (by omega) (lv_sub hl [0, 1, 2, 3] rfl)
abbrev c_E_isSinkMet : ByteArray := prog_1_method_45_code
def y_E_isSinkMet : MethodName := ⟨"EarthHauls", "isSinkMet", "(I)Z"⟩
abbrev k_E_isSinkMet : Cond := .code y_E_isSinkMet c_E_isSinkMet 4 (some .boolean)
theorem kin_E_isSinkMet : k_E_isSinkMet ∈ ew_t := tb_306
theorem dv_E_isSinkMet : eh_dV y_E_isSinkMet "EarthHauls" 1 := ⟨rfl, by decide, by decide, by decide +kernel⟩
theorem d_E_isSinkMet_0 : decode c_E_isSinkMet 0 = .ok (.iconst 0, 1) := by decide +kernel
theorem d_E_isSinkMet_1 : decode c_E_isSinkMet 1 = .ok (.istore_n 2, 1) := by decide +kernel
theorem d_E_isSinkMet_2 : decode c_E_isSinkMet 2 = .ok (.iconst 0, 1) := by decide +kernel
theorem d_E_isSinkMet_3 : decode c_E_isSinkMet 3 = .ok (.istore_n 3, 1) := by decide +kernel
theorem d_E_isSinkMet_4 : decode c_E_isSinkMet 4 = .ok (.iload_n 3, 1) := by decide +kernel
theorem d_E_isSinkMet_5 : decode c_E_isSinkMet 5 = .ok (.bipush 6, 2) := by decide +kernel
theorem d_E_isSinkMet_7 : decode c_E_isSinkMet 7 = .ok (.if_icmp .ge 22, 3) := by decide +kernel
theorem d_E_isSinkMet_10 : decode c_E_isSinkMet 10 = .ok (.iload_n 2, 1) := by decide +kernel
theorem d_E_isSinkMet_11 : decode c_E_isSinkMet 11 = .ok (.aload_n 0, 1) := by decide +kernel
theorem d_E_isSinkMet_12 : decode c_E_isSinkMet 12 = .ok (.getfield 29, 3) := by decide +kernel
theorem d_E_isSinkMet_15 : decode c_E_isSinkMet 15 = .ok (.iload_n 3, 1) := by decide +kernel
theorem d_E_isSinkMet_16 : decode c_E_isSinkMet 16 = .ok (.iload_n 1, 1) := by decide +kernel
theorem d_E_isSinkMet_17 : decode c_E_isSinkMet 17 = .ok (.invokestatic 150, 3) := by decide +kernel
theorem d_E_isSinkMet_20 : decode c_E_isSinkMet 20 = .ok (.iaload, 1) := by decide +kernel
theorem d_E_isSinkMet_21 : decode c_E_isSinkMet 21 = .ok (.iadd, 1) := by decide +kernel
theorem d_E_isSinkMet_22 : decode c_E_isSinkMet 22 = .ok (.istore_n 2, 1) := by decide +kernel
theorem d_E_isSinkMet_23 : decode c_E_isSinkMet 23 = .ok (.iinc 3 1, 3) := by decide +kernel
theorem d_E_isSinkMet_26 : decode c_E_isSinkMet 26 = .ok (.goto (-22), 3) := by decide +kernel
theorem d_E_isSinkMet_29 : decode c_E_isSinkMet 29 = .ok (.iload_n 1, 1) := by decide +kernel
theorem d_E_isSinkMet_30 : decode c_E_isSinkMet 30 = .ok (.iconst 4, 1) := by decide +kernel
theorem d_E_isSinkMet_31 : decode c_E_isSinkMet 31 = .ok (.if_icmp .ne 22, 3) := by decide +kernel
theorem d_E_isSinkMet_34 : decode c_E_isSinkMet 34 = .ok (.iload_n 2, 1) := by decide +kernel
theorem d_E_isSinkMet_35 : decode c_E_isSinkMet 35 = .ok (.aload_n 0, 1) := by decide +kernel
theorem d_E_isSinkMet_36 : decode c_E_isSinkMet 36 = .ok (.getfield 25, 3) := by decide +kernel
theorem d_E_isSinkMet_39 : decode c_E_isSinkMet 39 = .ok (.iconst 2, 1) := by decide +kernel
theorem d_E_isSinkMet_40 : decode c_E_isSinkMet 40 = .ok (.aaload, 1) := by decide +kernel
theorem d_E_isSinkMet_41 : decode c_E_isSinkMet 41 = .ok (.getfield 236, 3) := by decide +kernel
theorem d_E_isSinkMet_44 : decode c_E_isSinkMet 44 = .ok (.if_icmp .gt 7, 3) := by decide +kernel
theorem d_E_isSinkMet_47 : decode c_E_isSinkMet 47 = .ok (.iconst 1, 1) := by decide +kernel
theorem d_E_isSinkMet_48 : decode c_E_isSinkMet 48 = .ok (.goto 4, 3) := by decide +kernel
theorem d_E_isSinkMet_51 : decode c_E_isSinkMet 51 = .ok (.iconst 0, 1) := by decide +kernel
theorem d_E_isSinkMet_52 : decode c_E_isSinkMet 52 = .ok (.ireturn, 1) := by decide +kernel
theorem d_E_isSinkMet_53 : decode c_E_isSinkMet 53 = .ok (.iload_n 2, 1) := by decide +kernel
theorem d_E_isSinkMet_54 : decode c_E_isSinkMet 54 = .ok (.aload_n 0, 1) := by decide +kernel
theorem d_E_isSinkMet_55 : decode c_E_isSinkMet 55 = .ok (.iload_n 1, 1) := by decide +kernel
theorem d_E_isSinkMet_56 : decode c_E_isSinkMet 56 = .ok (.invokevirtual 85, 3) := by decide +kernel
theorem d_E_isSinkMet_59 : decode c_E_isSinkMet 59 = .ok (.ifCond .eq 11, 3) := by decide +kernel
theorem d_E_isSinkMet_62 : decode c_E_isSinkMet 62 = .ok (.aload_n 0, 1) := by decide +kernel
theorem d_E_isSinkMet_63 : decode c_E_isSinkMet 63 = .ok (.iload_n 1, 1) := by decide +kernel
theorem d_E_isSinkMet_64 : decode c_E_isSinkMet 64 = .ok (.invokevirtual 118, 3) := by decide +kernel
theorem d_E_isSinkMet_67 : decode c_E_isSinkMet 67 = .ok (.goto 4, 3) := by decide +kernel
theorem d_E_isSinkMet_70 : decode c_E_isSinkMet 70 = .ok (.iconst 0, 1) := by decide +kernel
theorem d_E_isSinkMet_71 : decode c_E_isSinkMet 71 = .ok (.if_icmp .ne 7, 3) := by decide +kernel
theorem d_E_isSinkMet_74 : decode c_E_isSinkMet 74 = .ok (.iconst 1, 1) := by decide +kernel
theorem d_E_isSinkMet_75 : decode c_E_isSinkMet 75 = .ok (.goto 4, 3) := by decide +kernel
theorem d_E_isSinkMet_78 : decode c_E_isSinkMet 78 = .ok (.iconst 0, 1) := by decide +kernel
theorem d_E_isSinkMet_79 : decode c_E_isSinkMet 79 = .ok (.ireturn, 1) := by decide +kernel
set_option maxHeartbeats 4000000 in
set_option maxRecDepth 100000 in
theorem r_E_isSinkMet (l : Launch) (D : va_G) (cI cL cZ cS cY : ClassId) (ad : Nat → Nat) (n : Nat) (sh ra plv pco : Int) (ln cb la : Nat → Int) (cu cl fu fl : Nat → Nat) (ys yl yp : Nat → Int) (k : Nat) (hk : k < 5) (hE : eh_ES n sh ra ln cb la cu cl fu fl ys yl yp) : eh_R l y_E_isSinkMet k_E_isSinkMet 3 68 D classes [(cI, .int), (cL, .long), (cZ, .boolean), (cS, .object "EarthHauls$Section"), (cY, .object "EarthHauls$Yard")] [.ref (ad 0), .int (eI ((k : Nat) : Int))] [((ad 0), .inr (4, [.ref (ad 1), .ref (ad 2), .ref (ad 3), .ref (ad 4), .ref (ad 5), .ref (ad 24), .int (eI ((n : Nat) : Int)), .int (eI sh), .int (eI ra), .int (eI plv), .long (eL pco)])), ((ad 1), .inl (cS, 5, .inr (.inr (.inr (.inr (eh_o5 (ad 6) (ad 7) (ad 8) (ad 9) (ad 10))))))), ((ad 2), aI cI 4 ln), ((ad 3), aI cZ 3 cb), ((ad 4), .inl (cY, 3, .inr (.inr (.inr (.inr (eh_o3 (ad 21) (ad 22) (ad 23))))))), ((ad 5), aI cI 30 la), ((ad 6), .inr (2, [.ref (ad 11), .ref (ad 16)])), ((ad 7), .inr (2, [.ref (ad 12), .ref (ad 17)])), ((ad 8), .inr (2, [.ref (ad 13), .ref (ad 18)])), ((ad 9), .inr (2, [.ref (ad 14), .ref (ad 19)])), ((ad 10), .inr (2, [.ref (ad 15), .ref (ad 20)])), ((ad 11), .inr (0, [.long (eL ((cu 0 : Nat) : Int)), .long (eL ((cl 0 : Nat) : Int))])), ((ad 12), .inr (0, [.long (eL ((cu 1 : Nat) : Int)), .long (eL ((cl 1 : Nat) : Int))])), ((ad 13), .inr (0, [.long (eL ((cu 2 : Nat) : Int)), .long (eL ((cl 2 : Nat) : Int))])), ((ad 14), .inr (0, [.long (eL ((cu 3 : Nat) : Int)), .long (eL ((cl 3 : Nat) : Int))])), ((ad 15), .inr (0, [.long (eL ((cu 4 : Nat) : Int)), .long (eL ((cl 4 : Nat) : Int))])), ((ad 16), .inr (0, [.long (eL ((fu 0 : Nat) : Int)), .long (eL ((fl 0 : Nat) : Int))])), ((ad 17), .inr (0, [.long (eL ((fu 1 : Nat) : Int)), .long (eL ((fl 1 : Nat) : Int))])), ((ad 18), .inr (0, [.long (eL ((fu 2 : Nat) : Int)), .long (eL ((fl 2 : Nat) : Int))])), ((ad 19), .inr (0, [.long (eL ((fu 3 : Nat) : Int)), .long (eL ((fl 3 : Nat) : Int))])), ((ad 20), .inr (0, [.long (eL ((fu 4 : Nat) : Int)), .long (eL ((fl 4 : Nat) : Int))])), ((ad 21), .inr (3, [.int (eI (ys 0)), .int (eI (yl 0)), .int (eI (yp 0))])), ((ad 22), .inr (3, [.int (eI (ys 1)), .int (eI (yl 1)), .int (eI (yp 1))])), ((ad 23), .inr (3, [.int (eI (ys 2)), .int (eI (yl 2)), .int (eI (yp 2))]))] (.int (eI (if eh_tb n ln la fu fl yl k = true then 0 else 1))) := by
  refine Met.ofW (cc := c_E_isSinkMet) (maxL := 4) (ret := (some .boolean)) (by decide) rfl ?_
  intro p e s m args below meth c s₁ B hml hv
  obtain ⟨hargs, hP, hK, hN⟩ := hv
  have hx := B.exec
  have hb := B.bytes
  have hrt := B.returns
  have hts := atoms_spec (ws := k_E_isSinkMet :: ew_t) B.pre
  have htb : ∀ w ∈ ew_t, w.before args s = true := fun w h => hts w (List.mem_cons_of_mem _ h)
  have hown : s.vm.findClass "EarthHauls" = some m.cls := findClass_of_methodNamed B.named
  have hlocks := B.notSynchronized
  have hE : entryFrame m args 4 = entryFrame m ([.ref (ad 0), .int (eI ((k : Nat) : Int))] : List Value).toArray 4 := by rw [hargs]
  rw [hE]
  clear hE hts B hargs
  generalize hRe : (headSpec _ _).room = R
  have hR1 : R.frames = 3 := by rw [← hRe]; rfl
  have hR2 : R.locals = 68 := by rw [← hRe]; rfl
  clear hRe
  generalize hQ : MQ below _ _ s 0 0 _ = Q
  have hP : va_P D classes [((ad 0), .inr (4, [.ref (ad 1), .ref (ad 2), .ref (ad 3), .ref (ad 4), .ref (ad 5), .ref (ad 24), .int (eI ((n : Nat) : Int)), .int (eI sh), .int (eI ra), .int (eI plv), .long (eL pco)])), ((ad 1), .inl (cS, 5, .inr (.inr (.inr (.inr (eh_o5 (ad 6) (ad 7) (ad 8) (ad 9) (ad 10))))))), ((ad 2), aI cI 4 ln), ((ad 3), aI cZ 3 cb), ((ad 4), .inl (cY, 3, .inr (.inr (.inr (.inr (eh_o3 (ad 21) (ad 22) (ad 23))))))), ((ad 5), aI cI 30 la), ((ad 6), .inr (2, [.ref (ad 11), .ref (ad 16)])), ((ad 7), .inr (2, [.ref (ad 12), .ref (ad 17)])), ((ad 8), .inr (2, [.ref (ad 13), .ref (ad 18)])), ((ad 9), .inr (2, [.ref (ad 14), .ref (ad 19)])), ((ad 10), .inr (2, [.ref (ad 15), .ref (ad 20)])), ((ad 11), .inr (0, [.long (eL ((cu 0 : Nat) : Int)), .long (eL ((cl 0 : Nat) : Int))])), ((ad 12), .inr (0, [.long (eL ((cu 1 : Nat) : Int)), .long (eL ((cl 1 : Nat) : Int))])), ((ad 13), .inr (0, [.long (eL ((cu 2 : Nat) : Int)), .long (eL ((cl 2 : Nat) : Int))])), ((ad 14), .inr (0, [.long (eL ((cu 3 : Nat) : Int)), .long (eL ((cl 3 : Nat) : Int))])), ((ad 15), .inr (0, [.long (eL ((cu 4 : Nat) : Int)), .long (eL ((cl 4 : Nat) : Int))])), ((ad 16), .inr (0, [.long (eL ((fu 0 : Nat) : Int)), .long (eL ((fl 0 : Nat) : Int))])), ((ad 17), .inr (0, [.long (eL ((fu 1 : Nat) : Int)), .long (eL ((fl 1 : Nat) : Int))])), ((ad 18), .inr (0, [.long (eL ((fu 2 : Nat) : Int)), .long (eL ((fl 2 : Nat) : Int))])), ((ad 19), .inr (0, [.long (eL ((fu 3 : Nat) : Int)), .long (eL ((fl 3 : Nat) : Int))])), ((ad 20), .inr (0, [.long (eL ((fu 4 : Nat) : Int)), .long (eL ((fl 4 : Nat) : Int))])), ((ad 21), .inr (3, [.int (eI (ys 0)), .int (eI (yl 0)), .int (eI (yp 0))])), ((ad 22), .inr (3, [.int (eI (ys 1)), .int (eI (yl 1)), .int (eI (yp 1))])), ((ad 23), .inr (3, [.int (eI (ys 2)), .int (eI (yl 2)), .int (eI (yp 2))]))] s.heap := hP
  have hl := lv_entry ([.ref (ad 0), .int (eI ((k : Nat) : Int))]) (n := 4) (Nat.le_of_ble_eq_true rfl)
  rw [lg_entry_eq]
  generalize (lg_sl ([.ref (ad 0), .int (eI ((k : Nat) : Int))]) ++ List.replicate (4 - (lg_sl ([.ref (ad 0), .int (eI ((k : Nat) : Int))])).length) Slot.unset).toArray = ls at hl ⊢
  have hl : lv_has ls 4 [(0, .ref (ad 0)), (1, .int (eI ((k : Nat) : Int)))] := hl
  have hn5 := hE.1
  have hsum : ∀ j, j ≤ 6 → 0 ≤ eh_sm (fun i9 => la (5 * i9 + k)) j ∧ eh_sm (fun i9 => la (5 * i9 + k)) j ≤ 100000000 * (j : Int) := by
    intro j
    induction j with
    | zero => intro _; exact ⟨Int.le_refl _, by show (0 : Int) ≤ 100000000 * 0; omega⟩
    | succ j ih =>
      intro hj
      have h1 := ih (by omega)
      have h2 := hE.2.2.2.2.2.1 (5 * j + k) (by omega)
      show 0 ≤ eh_sm (fun i9 => la (5 * i9 + k)) j + la (5 * j + k) ∧ eh_sm (fun i9 => la (5 * i9 + k)) j + la (5 * j + k) ≤ 100000000 * ((j + 1 : Nat) : Int)
      omega
  refine lv_iconst (v := eI 0) hx hb d_E_isSinkMet_0 rfl ?_
  refine lv_istore_n hx hb d_E_isSinkMet_1 rfl hl (by decide) rfl (fun ls hl => ?_)
  have hl : lv_has ls 4 [(2, .int (eI 0)), (0, .ref (ad 0)), (1, .int (eI ((k : Nat) : Int)))] := hl
  refine lv_iconst (v := eI 0) hx hb d_E_isSinkMet_2 rfl ?_
  refine lv_istore_n hx hb d_E_isSinkMet_3 rfl hl (by decide) rfl (fun ls hl => ?_)
  have hl : lv_has ls 4 [(3, .int (eI 0)), (2, .int (eI 0)), (0, .ref (ad 0)), (1, .int (eI ((k : Nat) : Int)))] := hl
  have loop : ∀ (q j9 : Nat) (ls : Array Slot), 6 - j9 = q → j9 ≤ 6 → lv_has ls 4 [(3, .int (eI ((j9 : Nat) : Int))), (2, .int (eI (eh_sm (fun i9 => la (5 * i9 + k)) j9))), (0, .ref (ad 0)), (1, .int (eI ((k : Nat) : Int)))] → W p l e R s m args below meth c s.heap [] 0 0 Q (F0 m 4 ls []) := by
    intro q
    induction q with
    | zero =>
      intro j9 ls hq hj hl
      have hj5 : j9 = 6 := by omega
      subst hj5
      have hs5 := hsum 6 (by omega)
      have hl : lv_has ls 4 [(3, .int (eI ((6 : Nat) : Int))), (2, .int (eI (eh_col la k))), (0, .ref (ad 0)), (1, .int (eI ((k : Nat) : Int)))] := hl
      have hs5 : 0 ≤ eh_col la k ∧ eh_col la k ≤ 100000000 * ((6 : Nat) : Int) := hs5
      rcases (show k < 4 ∨ k = 4 by omega) with hk4 | rfl
      ·
        refine lv_iload_n hx hb d_E_isSinkMet_4 rfl (lv_at hl 0 rfl) ?_
        refine lv_bipush (v := eI 6) hx hb d_E_isSinkMet_5 (by decide) ?_
        refine we_icmp_ge (tgt := 29) hx hb (by constructor <;> omega) (by constructor <;> omega) d_E_isSinkMet_7 rfl (fun hc7 => ?_) (fun hc7 => absurd hc7 (by omega))
        refine lv_iload_n hx hb d_E_isSinkMet_29 rfl (lv_at hl 3 rfl) ?_
        refine lv_iconst (v := eI 4) hx hb d_E_isSinkMet_30 rfl ?_
        refine we_icmp_ne (tgt := 53) hx hb (by constructor <;> omega) (by constructor <;> omega) d_E_isSinkMet_31 rfl (fun hc31 => ?_) (fun hc31 => absurd hc31 (by omega))
        refine lv_iload_n hx hb d_E_isSinkMet_53 rfl (lv_at hl 1 rfl) ?_
        refine lv_aload_n hx hb d_E_isSinkMet_54 rfl (lv_at hl 2 rfl) ?_
        refine lv_iload_n hx hb d_E_isSinkMet_55 rfl (lv_at hl 3 rfl) ?_
        refine eh_cRV (As := [.int (eI ((k : Nat) : Int))]) (rest := [.int (eI (eh_col la k))]) (v := .int (eI (if 0 ≤ ((k : Nat) : Int) ∧ ((k : Nat) : Int) + 1 < n then 1 else 0))) (q := (R_E, T_E, 11)) hx hb hml hown htb hN (r_E_isSpan l D cI cL cZ cS cY ad n sh ra plv pco ln cb la cu cl fu fl ys yl yp ((k : Nat) : Int) (by omega) hE) 1 ⟨tb_215, tb_217, ts_9, tb_1, kin_E_isSpan⟩ dv_E_isSpan ⟨by rw [hR1]; decide, by rw [hR2]; decide⟩ hK hP 0 rfl rfl [0, 1, 2, 3, 4, 5, 6, 7, 8, 9, 10, 11, 12, 13, 14, 15, 16, 17, 18, 19, 20, 21, 22, 23] rfl [0, 1, 2, 3, 4] rfl rfl rfl hl.1 (Nat.le_of_ble_eq_true rfl) d_E_isSinkMet_56 ⟨Nat.zero_le _, Nat.zero_le _⟩ ?_
        refine we_if_eq (tgt := 70) hx hb (by constructor <;> split <;> omega) d_E_isSinkMet_59 rfl (fun hc59 => ?_) (fun hc59 => ?_)
        ·
          refine lv_iconst (v := eI 0) hx hb d_E_isSinkMet_70 rfl ?_
          refine we_icmp_ne (tgt := 78) hx hb (by constructor <;> omega) (by constructor <;> omega) d_E_isSinkMet_71 rfl (fun hc71 => ?_) (fun hc71 => ?_)
          ·
            refine lv_iconst (v := eI 0) hx hb d_E_isSinkMet_78 rfl ?_
            have hz : eh_tb n ln la fu fl yl k = true := by
              unfold eh_tb
              rw [if_pos hk4]
              unfold eh_wn
              rw [if_pos hk4]
              by_cases z : k + 1 < n
              · rw [if_pos z]
                first | exact decide_eq_true (by omega) | exact decide_eq_false (by omega) | (exfalso; split at hc59 <;> omega)
              · rw [if_neg z]
                first | exact decide_eq_true (by omega) | exact decide_eq_false (by omega) | (exfalso; split at hc59 <;> omega)
            have hres : (0 : Int) = (if eh_tb n ln la fu fl yl k = true then 0 else 1) := by rw [hz]; rfl
            subst hQ
            exact W.zret (v := eI 0) hx hb hrt (by decide) (fun t9 ht hW => ⟨by rw [← hres], ht⟩) (fun q h => by cases h) d_E_isSinkMet_79
          ·
            refine lv_iconst (v := eI 1) hx hb d_E_isSinkMet_74 rfl ?_
            refine lv_goto (tgt := 79) hx hb d_E_isSinkMet_75 rfl ?_
            have hz : eh_tb n ln la fu fl yl k = false := by
              unfold eh_tb
              rw [if_pos hk4]
              unfold eh_wn
              rw [if_pos hk4]
              by_cases z : k + 1 < n
              · rw [if_pos z]
                first | exact decide_eq_true (by omega) | exact decide_eq_false (by omega) | (exfalso; split at hc59 <;> omega)
              · rw [if_neg z]
                first | exact decide_eq_true (by omega) | exact decide_eq_false (by omega) | (exfalso; split at hc59 <;> omega)
            have hres : (1 : Int) = (if eh_tb n ln la fu fl yl k = true then 0 else 1) := by rw [hz]; rfl
            subst hQ
            exact W.zret (v := eI 1) hx hb hrt (by decide) (fun t9 ht hW => ⟨by rw [← hres], ht⟩) (fun q h => by cases h) d_E_isSinkMet_79
        ·
          have hcs := hc59
          have hval := eh_fil_b hE (show k + 1 < n by split at hcs <;> omega)
          refine lv_aload_n hx hb d_E_isSinkMet_62 rfl (lv_at hl 2 rfl) ?_
          refine lv_iload_n hx hb d_E_isSinkMet_63 rfl (lv_at hl 3 rfl) ?_
          refine eh_cRV (As := [.int (eI ((k : Nat) : Int))]) (rest := [.int (eI (eh_col la k))]) (v := .int (eI (eh_kut fu fl ln k))) (q := (R_E, T_E, 11)) hx hb hml hown htb hN (r_E_fillOf l D cI cL cZ cS cY ad n sh ra plv pco ln cb la cu cl fu fl ys yl yp k (by split at hcs <;> omega) hE) 1 ⟨tb_180, tb_182, ts_3, tb_1, kin_E_fillOf⟩ dv_E_fillOf ⟨by rw [hR1]; decide, by rw [hR2]; decide⟩ hK hP 0 rfl rfl [0, 1, 2, 3, 4, 5, 6, 7, 8, 9, 10, 11, 12, 13, 14, 15, 16, 17, 18, 19, 20, 21, 22, 23] rfl [0, 1, 2, 3, 4] rfl rfl rfl hl.1 (Nat.le_of_ble_eq_true rfl) d_E_isSinkMet_64 ⟨Nat.zero_le _, Nat.zero_le _⟩ ?_
          refine lv_goto (tgt := 71) hx hb d_E_isSinkMet_67 rfl ?_
          refine we_icmp_ne (tgt := 78) hx hb (by constructor <;> omega) (by constructor <;> omega) d_E_isSinkMet_71 rfl (fun hc71 => ?_) (fun hc71 => ?_)
          ·
            refine lv_iconst (v := eI 0) hx hb d_E_isSinkMet_78 rfl ?_
            have hz : eh_tb n ln la fu fl yl k = true := by
              unfold eh_tb
              rw [if_pos hk4]
              unfold eh_wn
              rw [if_pos hk4]
              by_cases z : k + 1 < n
              · rw [if_pos z]
                first | exact decide_eq_true (by omega) | exact decide_eq_false (by omega) | (exfalso; split at hc59 <;> omega)
              · rw [if_neg z]
                first | exact decide_eq_true (by omega) | exact decide_eq_false (by omega) | (exfalso; split at hc59 <;> omega)
            have hres : (0 : Int) = (if eh_tb n ln la fu fl yl k = true then 0 else 1) := by rw [hz]; rfl
            subst hQ
            exact W.zret (v := eI 0) hx hb hrt (by decide) (fun t9 ht hW => ⟨by rw [← hres], ht⟩) (fun q h => by cases h) d_E_isSinkMet_79
          ·
            refine lv_iconst (v := eI 1) hx hb d_E_isSinkMet_74 rfl ?_
            refine lv_goto (tgt := 79) hx hb d_E_isSinkMet_75 rfl ?_
            have hz : eh_tb n ln la fu fl yl k = false := by
              unfold eh_tb
              rw [if_pos hk4]
              unfold eh_wn
              rw [if_pos hk4]
              by_cases z : k + 1 < n
              · rw [if_pos z]
                first | exact decide_eq_true (by omega) | exact decide_eq_false (by omega) | (exfalso; split at hc59 <;> omega)
              · rw [if_neg z]
                first | exact decide_eq_true (by omega) | exact decide_eq_false (by omega) | (exfalso; split at hc59 <;> omega)
            have hres : (1 : Int) = (if eh_tb n ln la fu fl yl k = true then 0 else 1) := by rw [hz]; rfl
            subst hQ
            exact W.zret (v := eI 1) hx hb hrt (by decide) (fun t9 ht hW => ⟨by rw [← hres], ht⟩) (fun q h => by cases h) d_E_isSinkMet_79
      ·
        have hyl := hE.2.2.2.2.2.2.2 2 (by omega)
        have hyl2 : 0 ≤ yl 2 ∧ yl 2 ≤ 100000000 := by omega
        refine lv_iload_n hx hb d_E_isSinkMet_4 rfl (lv_at hl 0 rfl) ?_
        refine lv_bipush (v := eI 6) hx hb d_E_isSinkMet_5 (by decide) ?_
        refine we_icmp_ge (tgt := 29) hx hb (by constructor <;> omega) (by constructor <;> omega) d_E_isSinkMet_7 rfl (fun hc7 => ?_) (fun hc7 => absurd hc7 (by omega))
        refine lv_iload_n hx hb d_E_isSinkMet_29 rfl (lv_at hl 3 rfl) ?_
        refine lv_iconst (v := eI 4) hx hb d_E_isSinkMet_30 rfl ?_
        refine we_icmp_ne (tgt := 53) hx hb (by constructor <;> omega) (by constructor <;> omega) d_E_isSinkMet_31 rfl (fun hc31 => absurd hc31 (by omega)) (fun hc31 => ?_)
        refine lv_iload_n hx hb d_E_isSinkMet_34 rfl (lv_at hl 1 rfl) ?_
        refine lv_aload_n hx hb d_E_isSinkMet_35 rfl (lv_at hl 2 rfl) ?_
        refine va_get (D := D) (ci := 4) (v := .ref (ad 4)) (C := R_E) (T := T_E) (N := 11) hx hb htb in_E hown hK hP 0 rfl rfl 3 (by decide) (htb _ tb_127) (fun _ h9 => h9) rfl d_E_isSinkMet_36 ?_
        refine lv_iconst (v := eI 2) hx hb d_E_isSinkMet_39 rfl ?_
        refine we_aald (r := (ad 23)) hx hb hK hP 4 4 rfl rfl 2 rfl (by decide) (by decide) rfl d_E_isSinkMet_40 ?_
        refine va_get (D := D) (ci := 3) (v := .int (eI (yl 2))) (C := R_Y) (T := T_Y) (N := 3) hx hb htb in_Y hown hK hP 23 rfl rfl 1 (by decide) (htb _ tb_98) (fun _ h9 => h9) rfl d_E_isSinkMet_41 ?_
        refine we_icmp_gt (tgt := 51) hx hb (by constructor <;> omega) (by constructor <;> omega) d_E_isSinkMet_44 rfl (fun hc44 => ?_) (fun hc44 => ?_)
        ·
          refine lv_iconst (v := eI 0) hx hb d_E_isSinkMet_51 rfl ?_
          have hz : eh_tb n ln la fu fl yl 4 = true := by
            unfold eh_tb
            rw [if_neg (by omega)]
            unfold eh_wn
            rw [if_neg (by omega)]
            exact decide_eq_true (by omega)
          have hres : (0 : Int) = (if eh_tb n ln la fu fl yl 4 = true then 0 else 1) := by rw [hz]; rfl
          subst hQ
          exact W.zret (v := eI 0) hx hb hrt (by decide) (fun t9 ht hW => ⟨by rw [← hres], ht⟩) (fun q h => by cases h) d_E_isSinkMet_52
        ·
          refine lv_iconst (v := eI 1) hx hb d_E_isSinkMet_47 rfl ?_
          refine lv_goto (tgt := 52) hx hb d_E_isSinkMet_48 rfl ?_
          have hz : eh_tb n ln la fu fl yl 4 = false := by
            unfold eh_tb
            rw [if_neg (by omega)]
            unfold eh_wn
            rw [if_neg (by omega)]
            exact decide_eq_false (by omega)
          have hres : (1 : Int) = (if eh_tb n ln la fu fl yl 4 = true then 0 else 1) := by rw [hz]; rfl
          subst hQ
          exact W.zret (v := eI 1) hx hb hrt (by decide) (fun t9 ht hW => ⟨by rw [← hres], ht⟩) (fun q h => by cases h) d_E_isSinkMet_52
    | succ q ih =>
      intro j9 ls hq hj hl
      have hlb := hE.2.2.2.2.2.1 (5 * j9 + k) (by omega)
      refine lv_iload_n hx hb d_E_isSinkMet_4 rfl (lv_at hl 0 rfl) ?_
      refine lv_bipush (v := eI 6) hx hb d_E_isSinkMet_5 (by decide) ?_
      refine we_icmp_ge (tgt := 29) hx hb (by constructor <;> omega) (by constructor <;> omega) d_E_isSinkMet_7 rfl (fun hc7 => absurd hc7 (by omega)) (fun hc7 => ?_)
      refine lv_iload_n hx hb d_E_isSinkMet_10 rfl (lv_at hl 1 rfl) ?_
      refine lv_aload_n hx hb d_E_isSinkMet_11 rfl (lv_at hl 2 rfl) ?_
      refine va_get (D := D) (ci := 4) (v := .ref (ad 5)) (C := R_E) (T := T_E) (N := 11) hx hb htb in_E hown hK hP 0 rfl rfl 4 (by decide) (htb _ tb_128) (fun _ h9 => h9) rfl d_E_isSinkMet_12 ?_
      refine lv_iload_n hx hb d_E_isSinkMet_15 rfl (lv_at hl 0 rfl) ?_
      refine lv_iload_n hx hb d_E_isSinkMet_16 rfl (lv_at hl 3 rfl) ?_
      refine eh_cRS (As := [.int (eI ((j9 : Nat) : Int)), .int (eI ((k : Nat) : Int))]) (rest := [.ref (ad 5), .int (eI (eh_sm (fun i9 => la (5 * i9 + k)) j9))]) (v := .int (eI ((5 * j9 + k : Nat) : Int))) hx hb hml hown htb hN (r_E_pairOf l D ((j9 : Nat) : Int) ((k : Nat) : Int)) 2 ⟨tb_302, tb_246, tb_1, kin_E_pairOf⟩ dv_E_pairOf ⟨by rw [hR1]; decide, by rw [hR2]; decide⟩ hK hP [] rfl [] rfl rfl rfl hl.1 (Nat.le_of_ble_eq_true rfl) d_E_isSinkMet_17 ⟨Nat.zero_le _, Nat.zero_le _⟩ ?_
      refine we_iald hx hb hK hP 5 0 rfl rfl (5 * j9 + k) rfl (by omega) (by decide) d_E_isSinkMet_20 ?_
      refine we_iadd hx hb d_E_isSinkMet_21 ?_
      refine lv_istore_n hx hb d_E_isSinkMet_22 rfl hl (by decide) rfl (fun ls hl => ?_)
      have hl : lv_has ls 4 [(2, .int (eI ((eh_sm (fun i9 => la (5 * i9 + k)) j9) + (la (5 * j9 + k))))), (3, .int (eI ((j9 : Nat) : Int))), (0, .ref (ad 0)), (1, .int (eI ((k : Nat) : Int)))] := hl
      refine lv_iinc (v := eI (((j9 : Nat) : Int) + 1)) hx hb d_E_isSinkMet_23 hl (k := 1) rfl (eI_add _ _) (by decide) rfl (fun ls hl => ?_)
      have hl : lv_has ls 4 [(3, .int (eI (((j9 : Nat) : Int) + 1))), (2, .int (eI ((eh_sm (fun i9 => la (5 * i9 + k)) j9) + (la (5 * j9 + k))))), (0, .ref (ad 0)), (1, .int (eI ((k : Nat) : Int)))] := hl
      refine lv_goto (tgt := 4) hx hb d_E_isSinkMet_26 rfl ?_
      exact ih (j9 + 1) ls (by omega) (by omega) (lv_sub hl [0, 1, 2, 3] rfl)
  exact loop 6 0 ls (by omega) (by omega) (lv_sub hl [0, 1, 2, 3] rfl)
abbrev c_E_judge : ByteArray := prog_1_method_16_code
def y_E_judge : MethodName := ⟨"EarthHauls", "judge", "()I"⟩
abbrev k_E_judge : Cond := .code y_E_judge c_E_judge 2 (some .int)
theorem kin_E_judge : k_E_judge ∈ ew_t := tb_297
theorem dv_E_judge : eh_dV y_E_judge "EarthHauls" 0 := ⟨rfl, by decide, by decide, by decide +kernel⟩
theorem d_E_judge_0 : decode c_E_judge 0 = .ok (.iconst 0, 1) := by decide +kernel
theorem d_E_judge_1 : decode c_E_judge 1 = .ok (.istore_n 1, 1) := by decide +kernel
theorem d_E_judge_2 : decode c_E_judge 2 = .ok (.iload_n 1, 1) := by decide +kernel
theorem d_E_judge_3 : decode c_E_judge 3 = .ok (.bipush 6, 2) := by decide +kernel
theorem d_E_judge_5 : decode c_E_judge 5 = .ok (.if_icmp .ge 19, 3) := by decide +kernel
theorem d_E_judge_8 : decode c_E_judge 8 = .ok (.aload_n 0, 1) := by decide +kernel
theorem d_E_judge_9 : decode c_E_judge 9 = .ok (.iload_n 1, 1) := by decide +kernel
theorem d_E_judge_10 : decode c_E_judge 10 = .ok (.invokevirtual 153, 3) := by decide +kernel
theorem d_E_judge_13 : decode c_E_judge 13 = .ok (.ifCond .ne 5, 3) := by decide +kernel
theorem d_E_judge_16 : decode c_E_judge 16 = .ok (.iload_n 1, 1) := by decide +kernel
theorem d_E_judge_17 : decode c_E_judge 17 = .ok (.ireturn, 1) := by decide +kernel
theorem d_E_judge_18 : decode c_E_judge 18 = .ok (.iinc 1 1, 3) := by decide +kernel
theorem d_E_judge_21 : decode c_E_judge 21 = .ok (.goto (-19), 3) := by decide +kernel
theorem d_E_judge_24 : decode c_E_judge 24 = .ok (.iconst 0, 1) := by decide +kernel
theorem d_E_judge_25 : decode c_E_judge 25 = .ok (.istore_n 1, 1) := by decide +kernel
theorem d_E_judge_26 : decode c_E_judge 26 = .ok (.iload_n 1, 1) := by decide +kernel
theorem d_E_judge_27 : decode c_E_judge 27 = .ok (.iconst 5, 1) := by decide +kernel
theorem d_E_judge_28 : decode c_E_judge 28 = .ok (.if_icmp .ge 22, 3) := by decide +kernel
theorem d_E_judge_31 : decode c_E_judge 31 = .ok (.aload_n 0, 1) := by decide +kernel
theorem d_E_judge_32 : decode c_E_judge 32 = .ok (.iload_n 1, 1) := by decide +kernel
theorem d_E_judge_33 : decode c_E_judge 33 = .ok (.invokevirtual 156, 3) := by decide +kernel
theorem d_E_judge_36 : decode c_E_judge 36 = .ok (.ifCond .ne 8, 3) := by decide +kernel
theorem d_E_judge_39 : decode c_E_judge 39 = .ok (.bipush 6, 2) := by decide +kernel
theorem d_E_judge_41 : decode c_E_judge 41 = .ok (.iload_n 1, 1) := by decide +kernel
theorem d_E_judge_42 : decode c_E_judge 42 = .ok (.iadd, 1) := by decide +kernel
theorem d_E_judge_43 : decode c_E_judge 43 = .ok (.ireturn, 1) := by decide +kernel
theorem d_E_judge_44 : decode c_E_judge 44 = .ok (.iinc 1 1, 3) := by decide +kernel
theorem d_E_judge_47 : decode c_E_judge 47 = .ok (.goto (-21), 3) := by decide +kernel
theorem d_E_judge_50 : decode c_E_judge 50 = .ok (.aload_n 0, 1) := by decide +kernel
theorem d_E_judge_51 : decode c_E_judge 51 = .ok (.invokevirtual 159, 3) := by decide +kernel
theorem d_E_judge_54 : decode c_E_judge 54 = .ok (.ireturn, 1) := by decide +kernel
set_option maxHeartbeats 4000000 in
set_option maxRecDepth 100000 in
theorem r_E_judge (l : Launch) (D : va_G) (cI cL cZ cS cY : ClassId) (ad : Nat → Nat) (n : Nat) (sh ra plv pco : Int) (ln cb la : Nat → Int) (cu cl fu fl : Nat → Nat) (ys yl yp : Nat → Int) (hE : eh_ES n sh ra ln cb la cu cl fu fl ys yl yp) : eh_R l y_E_judge k_E_judge 5 112 D classes [(cI, .int), (cL, .long), (cZ, .boolean), (cS, .object "EarthHauls$Section"), (cY, .object "EarthHauls$Yard")] [.ref (ad 0)] [((ad 0), .inr (4, [.ref (ad 1), .ref (ad 2), .ref (ad 3), .ref (ad 4), .ref (ad 5), .ref (ad 24), .int (eI ((n : Nat) : Int)), .int (eI sh), .int (eI ra), .int (eI plv), .long (eL pco)])), ((ad 1), .inl (cS, 5, .inr (.inr (.inr (.inr (eh_o5 (ad 6) (ad 7) (ad 8) (ad 9) (ad 10))))))), ((ad 2), aI cI 4 ln), ((ad 3), aI cZ 3 cb), ((ad 4), .inl (cY, 3, .inr (.inr (.inr (.inr (eh_o3 (ad 21) (ad 22) (ad 23))))))), ((ad 5), aI cI 30 la), ((ad 6), .inr (2, [.ref (ad 11), .ref (ad 16)])), ((ad 7), .inr (2, [.ref (ad 12), .ref (ad 17)])), ((ad 8), .inr (2, [.ref (ad 13), .ref (ad 18)])), ((ad 9), .inr (2, [.ref (ad 14), .ref (ad 19)])), ((ad 10), .inr (2, [.ref (ad 15), .ref (ad 20)])), ((ad 11), .inr (0, [.long (eL ((cu 0 : Nat) : Int)), .long (eL ((cl 0 : Nat) : Int))])), ((ad 12), .inr (0, [.long (eL ((cu 1 : Nat) : Int)), .long (eL ((cl 1 : Nat) : Int))])), ((ad 13), .inr (0, [.long (eL ((cu 2 : Nat) : Int)), .long (eL ((cl 2 : Nat) : Int))])), ((ad 14), .inr (0, [.long (eL ((cu 3 : Nat) : Int)), .long (eL ((cl 3 : Nat) : Int))])), ((ad 15), .inr (0, [.long (eL ((cu 4 : Nat) : Int)), .long (eL ((cl 4 : Nat) : Int))])), ((ad 16), .inr (0, [.long (eL ((fu 0 : Nat) : Int)), .long (eL ((fl 0 : Nat) : Int))])), ((ad 17), .inr (0, [.long (eL ((fu 1 : Nat) : Int)), .long (eL ((fl 1 : Nat) : Int))])), ((ad 18), .inr (0, [.long (eL ((fu 2 : Nat) : Int)), .long (eL ((fl 2 : Nat) : Int))])), ((ad 19), .inr (0, [.long (eL ((fu 3 : Nat) : Int)), .long (eL ((fl 3 : Nat) : Int))])), ((ad 20), .inr (0, [.long (eL ((fu 4 : Nat) : Int)), .long (eL ((fl 4 : Nat) : Int))])), ((ad 21), .inr (3, [.int (eI (ys 0)), .int (eI (yl 0)), .int (eI (yp 0))])), ((ad 22), .inr (3, [.int (eI (ys 1)), .int (eI (yl 1)), .int (eI (yp 1))])), ((ad 23), .inr (3, [.int (eI (ys 2)), .int (eI (yl 2)), .int (eI (yp 2))]))] (.int (eI (eh_jg n sh ra ln cb la cu cl fu fl ys yl yp))) := by
  refine Met.ofW (cc := c_E_judge) (maxL := 2) (ret := (some .int)) (by decide) rfl ?_
  intro p e s m args below meth c s₁ B hml hv
  obtain ⟨hargs, hP, hK, hN⟩ := hv
  have hx := B.exec
  have hb := B.bytes
  have hrt := B.returns
  have hts := atoms_spec (ws := k_E_judge :: ew_t) B.pre
  have htb : ∀ w ∈ ew_t, w.before args s = true := fun w h => hts w (List.mem_cons_of_mem _ h)
  have hown : s.vm.findClass "EarthHauls" = some m.cls := findClass_of_methodNamed B.named
  have hlocks := B.notSynchronized
  have hE : entryFrame m args 2 = entryFrame m ([.ref (ad 0)] : List Value).toArray 2 := by rw [hargs]
  rw [hE]
  clear hE hts B hargs
  generalize hRe : (headSpec _ _).room = R
  have hR1 : R.frames = 5 := by rw [← hRe]; rfl
  have hR2 : R.locals = 112 := by rw [← hRe]; rfl
  clear hRe
  generalize hQ : MQ below _ _ s 0 0 _ = Q
  have hP : va_P D classes [((ad 0), .inr (4, [.ref (ad 1), .ref (ad 2), .ref (ad 3), .ref (ad 4), .ref (ad 5), .ref (ad 24), .int (eI ((n : Nat) : Int)), .int (eI sh), .int (eI ra), .int (eI plv), .long (eL pco)])), ((ad 1), .inl (cS, 5, .inr (.inr (.inr (.inr (eh_o5 (ad 6) (ad 7) (ad 8) (ad 9) (ad 10))))))), ((ad 2), aI cI 4 ln), ((ad 3), aI cZ 3 cb), ((ad 4), .inl (cY, 3, .inr (.inr (.inr (.inr (eh_o3 (ad 21) (ad 22) (ad 23))))))), ((ad 5), aI cI 30 la), ((ad 6), .inr (2, [.ref (ad 11), .ref (ad 16)])), ((ad 7), .inr (2, [.ref (ad 12), .ref (ad 17)])), ((ad 8), .inr (2, [.ref (ad 13), .ref (ad 18)])), ((ad 9), .inr (2, [.ref (ad 14), .ref (ad 19)])), ((ad 10), .inr (2, [.ref (ad 15), .ref (ad 20)])), ((ad 11), .inr (0, [.long (eL ((cu 0 : Nat) : Int)), .long (eL ((cl 0 : Nat) : Int))])), ((ad 12), .inr (0, [.long (eL ((cu 1 : Nat) : Int)), .long (eL ((cl 1 : Nat) : Int))])), ((ad 13), .inr (0, [.long (eL ((cu 2 : Nat) : Int)), .long (eL ((cl 2 : Nat) : Int))])), ((ad 14), .inr (0, [.long (eL ((cu 3 : Nat) : Int)), .long (eL ((cl 3 : Nat) : Int))])), ((ad 15), .inr (0, [.long (eL ((cu 4 : Nat) : Int)), .long (eL ((cl 4 : Nat) : Int))])), ((ad 16), .inr (0, [.long (eL ((fu 0 : Nat) : Int)), .long (eL ((fl 0 : Nat) : Int))])), ((ad 17), .inr (0, [.long (eL ((fu 1 : Nat) : Int)), .long (eL ((fl 1 : Nat) : Int))])), ((ad 18), .inr (0, [.long (eL ((fu 2 : Nat) : Int)), .long (eL ((fl 2 : Nat) : Int))])), ((ad 19), .inr (0, [.long (eL ((fu 3 : Nat) : Int)), .long (eL ((fl 3 : Nat) : Int))])), ((ad 20), .inr (0, [.long (eL ((fu 4 : Nat) : Int)), .long (eL ((fl 4 : Nat) : Int))])), ((ad 21), .inr (3, [.int (eI (ys 0)), .int (eI (yl 0)), .int (eI (yp 0))])), ((ad 22), .inr (3, [.int (eI (ys 1)), .int (eI (yl 1)), .int (eI (yp 1))])), ((ad 23), .inr (3, [.int (eI (ys 2)), .int (eI (yl 2)), .int (eI (yp 2))]))] s.heap := hP
  have hl := lv_entry ([.ref (ad 0)]) (n := 2) (Nat.le_of_ble_eq_true rfl)
  rw [lg_entry_eq]
  generalize (lg_sl ([.ref (ad 0)]) ++ List.replicate (2 - (lg_sl ([.ref (ad 0)])).length) Slot.unset).toArray = ls at hl ⊢
  have hl : lv_has ls 2 [(0, .ref (ad 0))] := hl
  have hn5 := hE.1
  refine lv_iconst (v := eI 0) hx hb d_E_judge_0 rfl ?_
  refine lv_istore_n hx hb d_E_judge_1 rfl hl (by decide) rfl (fun ls hl => ?_)
  have hl : lv_has ls 2 [(1, .int (eI 0)), (0, .ref (ad 0))] := hl
  have loop : ∀ (q i : Nat) (ls : Array Slot), 6 - i = q → i ≤ 6 → eh_first (eh_sb n sh ln la cu cl yl) i = none → lv_has ls 2 [(1, .int (eI ((i : Nat) : Int))), (0, .ref (ad 0))] → W p l e R s m args below meth c s.heap [] 0 0 Q (F0 m 2 ls []) := by
    intro q
    induction q with
    | zero =>
      intro i ls hq hi hs6 hl
      have hi5 : i = 6 := by omega
      subst hi5
      refine lv_iload_n hx hb d_E_judge_2 rfl (lv_at hl 0 rfl) ?_
      refine lv_bipush (v := eI 6) hx hb d_E_judge_3 (by decide) ?_
      refine we_icmp_ge (tgt := 24) hx hb (by constructor <;> omega) (by constructor <;> omega) d_E_judge_5 rfl (fun hc5 => ?_) (fun hc5 => absurd hc5 (by omega))
      refine lv_iconst (v := eI 0) hx hb d_E_judge_24 rfl ?_
      refine lv_istore_n hx hb d_E_judge_25 rfl hl (by decide) rfl (fun ls hl => ?_)
      have hl : lv_has ls 2 [(1, .int (eI 0)), (0, .ref (ad 0))] := hl
      have loop2 : ∀ (q i : Nat) (ls : Array Slot), 5 - i = q → i ≤ 5 → eh_first (eh_tb n ln la fu fl yl) i = none → lv_has ls 2 [(1, .int (eI ((i : Nat) : Int))), (0, .ref (ad 0))] → W p l e R s m args below meth c s.heap [] 0 0 Q (F0 m 26 ls []) := by
        intro q
        induction q with
        | zero =>
          intro i ls hq hi hf hl
          have hi5 : i = 5 := by omega
          subst hi5
          refine lv_iload_n hx hb d_E_judge_26 rfl (lv_at hl 0 rfl) ?_
          refine lv_iconst (v := eI 5) hx hb d_E_judge_27 rfl ?_
          refine we_icmp_ge (tgt := 50) hx hb (by constructor <;> omega) (by constructor <;> omega) d_E_judge_28 rfl (fun hc28 => ?_) (fun hc28 => absurd hc28 (by omega))
          refine lv_aload_n hx hb d_E_judge_50 rfl (lv_at hl 1 rfl) ?_
          refine eh_cRV (As := []) (rest := []) (v := .int (eI (eh_fo (eh_first (eh_ib (eh_kc n ra ln cb ys yp) la) 30) 100 (-1)))) (q := (R_E, T_E, 11)) hx hb hml hown htb hN (r_E_firstImpossibleLaid l D cI cL cZ cS cY ad n sh ra plv pco ln cb la cu cl fu fl ys yl yp hE) 0 ⟨tb_307, tb_309, ts_20, tb_1, kin_E_firstImpossibleLaid⟩ dv_E_firstImpossibleLaid ⟨by rw [hR1]; decide, by rw [hR2]; decide⟩ hK hP 0 rfl rfl [0, 1, 2, 3, 4, 5, 6, 7, 8, 9, 10, 11, 12, 13, 14, 15, 16, 17, 18, 19, 20, 21, 22, 23] rfl [0, 1, 2, 3, 4] rfl rfl rfl hl.1 (Nat.le_of_ble_eq_true rfl) d_E_judge_51 ⟨Nat.zero_le _, Nat.zero_le _⟩ ?_
          have hres : (eh_fo (eh_first (eh_ib (eh_kc n ra ln cb ys yp) la) 30) 100 (-1)) = (eh_jg n sh ra ln cb la cu cl fu fl ys yl yp) := by
            unfold eh_jg
            rw [hs6, hf]
            rfl
          rw [hres]
          subst hQ
          exact W.iret hx hb hrt (fun t9 ht hW => ⟨rfl, ht⟩) (fun q h => by cases h) d_E_judge_54
        | succ q ih =>
          intro i ls hq hi hf hl
          refine lv_iload_n hx hb d_E_judge_26 rfl (lv_at hl 0 rfl) ?_
          refine lv_iconst (v := eI 5) hx hb d_E_judge_27 rfl ?_
          refine we_icmp_ge (tgt := 50) hx hb (by constructor <;> omega) (by constructor <;> omega) d_E_judge_28 rfl (fun hc28 => absurd hc28 (by omega)) (fun hc28 => ?_)
          refine lv_aload_n hx hb d_E_judge_31 rfl (lv_at hl 1 rfl) ?_
          refine lv_iload_n hx hb d_E_judge_32 rfl (lv_at hl 0 rfl) ?_
          refine eh_cRV (As := [.int (eI ((i : Nat) : Int))]) (rest := []) (v := .int (eI (if eh_tb n ln la fu fl yl i = true then 0 else 1))) (q := (R_E, T_E, 11)) hx hb hml hown htb hN (r_E_isSinkMet l D cI cL cZ cS cY ad n sh ra plv pco ln cb la cu cl fu fl ys yl yp i (by omega) hE) 1 ⟨tb_303, tb_305, ts_19, tb_1, kin_E_isSinkMet⟩ dv_E_isSinkMet ⟨by rw [hR1]; decide, by rw [hR2]; decide⟩ hK hP 0 rfl rfl [0, 1, 2, 3, 4, 5, 6, 7, 8, 9, 10, 11, 12, 13, 14, 15, 16, 17, 18, 19, 20, 21, 22, 23] rfl [0, 1, 2, 3, 4] rfl rfl rfl hl.1 (Nat.le_of_ble_eq_true rfl) d_E_judge_33 ⟨Nat.zero_le _, Nat.zero_le _⟩ ?_
          refine we_if_ne (tgt := 44) hx hb (by constructor <;> split <;> omega) d_E_judge_36 rfl (fun hc36 => ?_) (fun hc36 => ?_)
          ·
            refine lv_iinc (v := eI (((i : Nat) : Int) + 1)) hx hb d_E_judge_44 hl (k := 0) rfl (eI_add _ _) (by decide) rfl (fun ls hl => ?_)
            have hl : lv_has ls 2 [(1, .int (eI (((i : Nat) : Int) + 1))), (0, .ref (ad 0))] := hl
            refine lv_goto (tgt := 26) hx hb d_E_judge_47 rfl ?_
            exact ih (i + 1) ls (by omega) (by omega) (eh_first_s hf (by
              cases z : (eh_tb n ln la fu fl yl) i with
              | false => rfl
              | true => exact absurd z (by intro z2; rw [z2] at hc36; exact hc36 rfl))) (lv_sub hl [0, 1] rfl)
          ·
            refine lv_bipush (v := eI 6) hx hb d_E_judge_39 (by decide) ?_
            refine lv_iload_n hx hb d_E_judge_41 rfl (lv_at hl 0 rfl) ?_
            refine we_iadd hx hb d_E_judge_42 ?_
            have hb9 : (eh_tb n ln la fu fl yl) i = true := by
              by_cases z : (eh_tb n ln la fu fl yl) i = true
              · exact z
              · rw [if_neg z] at hc36; omega
            have hres : (6 + ((i : Nat) : Int)) = (eh_jg n sh ra ln cb la cu cl fu fl ys yl yp) := by
              unfold eh_jg
              rw [hs6, eh_first_at hf hb9 5 (by omega)]
              rfl
            rw [hres]
            subst hQ
            exact W.iret hx hb hrt (fun t9 ht hW => ⟨rfl, ht⟩) (fun q h => by cases h) d_E_judge_43
      exact loop2 5 0 ls (by omega) (by omega) rfl (lv_sub hl [0, 1] rfl)
    | succ q ih =>
      intro i ls hq hi hf hl
      refine lv_iload_n hx hb d_E_judge_2 rfl (lv_at hl 0 rfl) ?_
      refine lv_bipush (v := eI 6) hx hb d_E_judge_3 (by decide) ?_
      refine we_icmp_ge (tgt := 24) hx hb (by constructor <;> omega) (by constructor <;> omega) d_E_judge_5 rfl (fun hc5 => absurd hc5 (by omega)) (fun hc5 => ?_)
      refine lv_aload_n hx hb d_E_judge_8 rfl (lv_at hl 1 rfl) ?_
      refine lv_iload_n hx hb d_E_judge_9 rfl (lv_at hl 0 rfl) ?_
      refine eh_cRV (As := [.int (eI ((i : Nat) : Int))]) (rest := []) (v := .int (eI (if eh_sb n sh ln la cu cl yl i = true then 0 else 1))) (q := (R_E, T_E, 11)) hx hb hml hown htb hN (r_E_isSourceMet l D cI cL cZ cS cY ad n sh ra plv pco ln cb la cu cl fu fl ys yl yp i (by omega) hE) 1 ⟨tb_298, tb_300, ts_18, tb_1, kin_E_isSourceMet⟩ dv_E_isSourceMet ⟨by rw [hR1]; decide, by rw [hR2]; decide⟩ hK hP 0 rfl rfl [0, 1, 2, 3, 4, 5, 6, 7, 8, 9, 10, 11, 12, 13, 14, 15, 16, 17, 18, 19, 20, 21, 22, 23] rfl [0, 1, 2, 3, 4] rfl rfl rfl hl.1 (Nat.le_of_ble_eq_true rfl) d_E_judge_10 ⟨Nat.zero_le _, Nat.zero_le _⟩ ?_
      refine we_if_ne (tgt := 18) hx hb (by constructor <;> split <;> omega) d_E_judge_13 rfl (fun hc13 => ?_) (fun hc13 => ?_)
      ·
        refine lv_iinc (v := eI (((i : Nat) : Int) + 1)) hx hb d_E_judge_18 hl (k := 0) rfl (eI_add _ _) (by decide) rfl (fun ls hl => ?_)
        have hl : lv_has ls 2 [(1, .int (eI (((i : Nat) : Int) + 1))), (0, .ref (ad 0))] := hl
        refine lv_goto (tgt := 2) hx hb d_E_judge_21 rfl ?_
        exact ih (i + 1) ls (by omega) (by omega) (eh_first_s hf (by
          cases z : (eh_sb n sh ln la cu cl yl) i with
          | false => rfl
          | true => exact absurd z (by intro z2; rw [z2] at hc13; exact hc13 rfl))) (lv_sub hl [0, 1] rfl)
      ·
        refine lv_iload_n hx hb d_E_judge_16 rfl (lv_at hl 0 rfl) ?_
        have hb9 : (eh_sb n sh ln la cu cl yl) i = true := by
          by_cases z : (eh_sb n sh ln la cu cl yl) i = true
          · exact z
          · rw [if_neg z] at hc13; omega
        have hres : ((i : Nat) : Int) = (eh_jg n sh ra ln cb la cu cl fu fl ys yl yp) := by
          unfold eh_jg
          rw [eh_first_at hf hb9 6 (by omega)]
          show _ = (0 : Int) + (i : Int)
          omega
        rw [hres]
        subst hQ
        exact W.iret hx hb hrt (fun t9 ht hW => ⟨rfl, ht⟩) (fun q h => by cases h) d_E_judge_17
  exact loop 6 0 ls (by omega) (by omega) rfl (lv_sub hl [0, 1] rfl)
