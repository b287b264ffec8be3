abbrev c_E_spanOfSource : ByteArray := prog_1_method_38_code
def y_E_spanOfSource : MethodName := ⟨"EarthHauls", "spanOfSource", "(I)I"⟩
abbrev k_E_spanOfSource : Cond := .code y_E_spanOfSource c_E_spanOfSource 2 (some .int)
theorem kin_E_spanOfSource : k_E_spanOfSource ∈ ew_t := tb_214
theorem dv_E_spanOfSource : eh_dV y_E_spanOfSource "EarthHauls" 1 := ⟨rfl, by decide, by decide, by decide +kernel⟩
theorem d_E_spanOfSource_0 : decode c_E_spanOfSource 0 = .ok (.iload_n 1, 1) := by decide +kernel
theorem d_E_spanOfSource_1 : decode c_E_spanOfSource 1 = .ok (.iconst 4, 1) := by decide +kernel
theorem d_E_spanOfSource_2 : decode c_E_spanOfSource 2 = .ok (.if_icmp .lt 15, 3) := by decide +kernel
theorem d_E_spanOfSource_5 : decode c_E_spanOfSource 5 = .ok (.aload_n 0, 1) := by decide +kernel
theorem d_E_spanOfSource_6 : decode c_E_spanOfSource 6 = .ok (.getfield 25, 3) := by decide +kernel
theorem d_E_spanOfSource_9 : decode c_E_spanOfSource 9 = .ok (.iload_n 1, 1) := by decide +kernel
theorem d_E_spanOfSource_10 : decode c_E_spanOfSource 10 = .ok (.iconst 4, 1) := by decide +kernel
theorem d_E_spanOfSource_11 : decode c_E_spanOfSource 11 = .ok (.isub, 1) := by decide +kernel
theorem d_E_spanOfSource_12 : decode c_E_spanOfSource 12 = .ok (.aaload, 1) := by decide +kernel
theorem d_E_spanOfSource_13 : decode c_E_spanOfSource 13 = .ok (.getfield 204, 3) := by decide +kernel
theorem d_E_spanOfSource_16 : decode c_E_spanOfSource 16 = .ok (.ireturn, 1) := by decide +kernel
theorem d_E_spanOfSource_17 : decode c_E_spanOfSource 17 = .ok (.aload_n 0, 1) := by decide +kernel
theorem d_E_spanOfSource_18 : decode c_E_spanOfSource 18 = .ok (.iload_n 1, 1) := by decide +kernel
theorem d_E_spanOfSource_19 : decode c_E_spanOfSource 19 = .ok (.invokevirtual 85, 3) := by decide +kernel
theorem d_E_spanOfSource_22 : decode c_E_spanOfSource 22 = .ok (.ifCond .eq 7, 3) := by decide +kernel
theorem d_E_spanOfSource_25 : decode c_E_spanOfSource 25 = .ok (.iload_n 1, 1) := by decide +kernel
theorem d_E_spanOfSource_26 : decode c_E_spanOfSource 26 = .ok (.goto 4, 3) := by decide +kernel
theorem d_E_spanOfSource_29 : decode c_E_spanOfSource 29 = .ok (.iconst (-1), 1) := by decide +kernel
theorem d_E_spanOfSource_30 : decode c_E_spanOfSource 30 = .ok (.ireturn, 1) := by decide +kernel
set_option maxHeartbeats 4000000 in
set_option maxRecDepth 100000 in
theorem r_E_spanOfSource (l : Launch) (D : va_G) (cI cL cZ cS cY : ClassId) (ad : Nat → Nat) (n : Nat) (sh ra plv pco : Int) (ln cb la : Nat → Int) (cu cl fu fl : Nat → Nat) (ys yl yp : Nat → Int) (k : Nat) (hk : k < 6) (hE : eh_ES n sh ra ln cb la cu cl fu fl ys yl yp) : eh_R l y_E_spanOfSource k_E_spanOfSource 2 41 D classes [(cI, .int), (cL, .long), (cZ, .boolean), (cS, .object "EarthHauls$Section"), (cY, .object "EarthHauls$Yard")] [.ref (ad 0), .int (eI ((k : Nat) : Int))] [((ad 0), .inr (4, [.ref (ad 1), .ref (ad 2), .ref (ad 3), .ref (ad 4), .ref (ad 5), .ref (ad 24), .int (eI ((n : Nat) : Int)), .int (eI sh), .int (eI ra), .int (eI plv), .long (eL pco)])), ((ad 1), .inl (cS, 5, .inr (.inr (.inr (.inr (eh_o5 (ad 6) (ad 7) (ad 8) (ad 9) (ad 10))))))), ((ad 2), aI cI 4 ln), ((ad 3), aI cZ 3 cb), ((ad 4), .inl (cY, 3, .inr (.inr (.inr (.inr (eh_o3 (ad 21) (ad 22) (ad 23))))))), ((ad 5), aI cI 30 la), ((ad 6), .inr (2, [.ref (ad 11), .ref (ad 16)])), ((ad 7), .inr (2, [.ref (ad 12), .ref (ad 17)])), ((ad 8), .inr (2, [.ref (ad 13), .ref (ad 18)])), ((ad 9), .inr (2, [.ref (ad 14), .ref (ad 19)])), ((ad 10), .inr (2, [.ref (ad 15), .ref (ad 20)])), ((ad 11), .inr (0, [.long (eL ((cu 0 : Nat) : Int)), .long (eL ((cl 0 : Nat) : Int))])), ((ad 12), .inr (0, [.long (eL ((cu 1 : Nat) : Int)), .long (eL ((cl 1 : Nat) : Int))])), ((ad 13), .inr (0, [.long (eL ((cu 2 : Nat) : Int)), .long (eL ((cl 2 : Nat) : Int))])), ((ad 14), .inr (0, [.long (eL ((cu 3 : Nat) : Int)), .long (eL ((cl 3 : Nat) : Int))])), ((ad 15), .inr (0, [.long (eL ((cu 4 : Nat) : Int)), .long (eL ((cl 4 : Nat) : Int))])), ((ad 16), .inr (0, [.long (eL ((fu 0 : Nat) : Int)), .long (eL ((fl 0 : Nat) : Int))])), ((ad 17), .inr (0, [.long (eL ((fu 1 : Nat) : Int)), .long (eL ((fl 1 : Nat) : Int))])), ((ad 18), .inr (0, [.long (eL ((fu 2 : Nat) : Int)), .long (eL ((fl 2 : Nat) : Int))])), ((ad 19), .inr (0, [.long (eL ((fu 3 : Nat) : Int)), .long (eL ((fl 3 : Nat) : Int))])), ((ad 20), .inr (0, [.long (eL ((fu 4 : Nat) : Int)), .long (eL ((fl 4 : Nat) : Int))])), ((ad 21), .inr (3, [.int (eI (ys 0)), .int (eI (yl 0)), .int (eI (yp 0))])), ((ad 22), .inr (3, [.int (eI (ys 1)), .int (eI (yl 1)), .int (eI (yp 1))])), ((ad 23), .inr (3, [.int (eI (ys 2)), .int (eI (yl 2)), .int (eI (yp 2))]))] (.int (eI (eh_so n ys k))) := by
  refine Met.ofW (cc := c_E_spanOfSource) (maxL := 2) (ret := (some .int)) (by decide) rfl ?_
  intro p e s m args below meth c s₁ B hml hv
  obtain ⟨hargs, hP, hK, hN⟩ := hv
  have hx := B.exec
  have hb := B.bytes
  have hrt := B.returns
  have hts := atoms_spec (ws := k_E_spanOfSource :: ew_t) B.pre
  have htb : ∀ w ∈ ew_t, w.before args s = true := fun w h => hts w (List.mem_cons_of_mem _ h)
  have hown : s.vm.findClass "EarthHauls" = some m.cls := findClass_of_methodNamed B.named
  have hlocks := B.notSynchronized
  have hE : entryFrame m args 2 = entryFrame m ([.ref (ad 0), .int (eI ((k : Nat) : Int))] : List Value).toArray 2 := by rw [hargs]
  rw [hE]
  clear hE hts B hargs
  generalize hRe : (headSpec _ _).room = R
  have hR1 : R.frames = 2 := by rw [← hRe]; rfl
  have hR2 : R.locals = 41 := by rw [← hRe]; rfl
  clear hRe
  generalize hQ : MQ below _ _ s 0 0 _ = Q
  have hP : va_P D classes [((ad 0), .inr (4, [.ref (ad 1), .ref (ad 2), .ref (ad 3), .ref (ad 4), .ref (ad 5), .ref (ad 24), .int (eI ((n : Nat) : Int)), .int (eI sh), .int (eI ra), .int (eI plv), .long (eL pco)])), ((ad 1), .inl (cS, 5, .inr (.inr (.inr (.inr (eh_o5 (ad 6) (ad 7) (ad 8) (ad 9) (ad 10))))))), ((ad 2), aI cI 4 ln), ((ad 3), aI cZ 3 cb), ((ad 4), .inl (cY, 3, .inr (.inr (.inr (.inr (eh_o3 (ad 21) (ad 22) (ad 23))))))), ((ad 5), aI cI 30 la), ((ad 6), .inr (2, [.ref (ad 11), .ref (ad 16)])), ((ad 7), .inr (2, [.ref (ad 12), .ref (ad 17)])), ((ad 8), .inr (2, [.ref (ad 13), .ref (ad 18)])), ((ad 9), .inr (2, [.ref (ad 14), .ref (ad 19)])), ((ad 10), .inr (2, [.ref (ad 15), .ref (ad 20)])), ((ad 11), .inr (0, [.long (eL ((cu 0 : Nat) : Int)), .long (eL ((cl 0 : Nat) : Int))])), ((ad 12), .inr (0, [.long (eL ((cu 1 : Nat) : Int)), .long (eL ((cl 1 : Nat) : Int))])), ((ad 13), .inr (0, [.long (eL ((cu 2 : Nat) : Int)), .long (eL ((cl 2 : Nat) : Int))])), ((ad 14), .inr (0, [.long (eL ((cu 3 : Nat) : Int)), .long (eL ((cl 3 : Nat) : Int))])), ((ad 15), .inr (0, [.long (eL ((cu 4 : Nat) : Int)), .long (eL ((cl 4 : Nat) : Int))])), ((ad 16), .inr (0, [.long (eL ((fu 0 : Nat) : Int)), .long (eL ((fl 0 : Nat) : Int))])), ((ad 17), .inr (0, [.long (eL ((fu 1 : Nat) : Int)), .long (eL ((fl 1 : Nat) : Int))])), ((ad 18), .inr (0, [.long (eL ((fu 2 : Nat) : Int)), .long (eL ((fl 2 : Nat) : Int))])), ((ad 19), .inr (0, [.long (eL ((fu 3 : Nat) : Int)), .long (eL ((fl 3 : Nat) : Int))])), ((ad 20), .inr (0, [.long (eL ((fu 4 : Nat) : Int)), .long (eL ((fl 4 : Nat) : Int))])), ((ad 21), .inr (3, [.int (eI (ys 0)), .int (eI (yl 0)), .int (eI (yp 0))])), ((ad 22), .inr (3, [.int (eI (ys 1)), .int (eI (yl 1)), .int (eI (yp 1))])), ((ad 23), .inr (3, [.int (eI (ys 2)), .int (eI (yl 2)), .int (eI (yp 2))]))] s.heap := hP
  have hl := lv_entry ([.ref (ad 0), .int (eI ((k : Nat) : Int))]) (n := 2) (Nat.le_of_ble_eq_true rfl)
  rw [lg_entry_eq]
  generalize (lg_sl ([.ref (ad 0), .int (eI ((k : Nat) : Int))]) ++ List.replicate (2 - (lg_sl ([.ref (ad 0), .int (eI ((k : Nat) : Int))])).length) Slot.unset).toArray = ls at hl ⊢
  have hl : lv_has ls 2 [(0, .ref (ad 0)), (1, .int (eI ((k : Nat) : Int)))] := hl
  have hn5 := hE.1
  rcases (show k = 0 ∨ k = 1 ∨ k = 2 ∨ k = 3 ∨ k = 4 ∨ k = 5 by omega) with rfl | rfl | rfl | rfl | rfl | rfl
  ·
    have hl : lv_has ls 2 [(0, .ref (ad 0)), (1, .int (eI ((0 : Nat) : Int)))] := hl
    refine lv_iload_n hx hb d_E_spanOfSource_0 rfl (lv_at hl 1 rfl) ?_
    refine lv_iconst (v := eI 4) hx hb d_E_spanOfSource_1 rfl ?_
    refine we_icmp_lt (tgt := 17) hx hb (by constructor <;> omega) (by constructor <;> omega) d_E_spanOfSource_2 rfl (fun hc2 => ?_) (fun hc2 => absurd hc2 (by omega))
    refine lv_aload_n hx hb d_E_spanOfSource_17 rfl (lv_at hl 0 rfl) ?_
    refine lv_iload_n hx hb d_E_spanOfSource_18 rfl (lv_at hl 1 rfl) ?_
    refine eh_cRV (As := [.int (eI ((0 : Nat) : Int))]) (rest := []) (v := .int (eI (if 0 ≤ ((0 : Nat) : Int) ∧ ((0 : Nat) : Int) + 1 < n then 1 else 0))) (q := (R_E, T_E, 11)) hx hb hml hown htb hN (r_E_isSpan l D cI cL cZ cS cY ad n sh ra plv pco ln cb la cu cl fu fl ys yl yp ((0 : Nat) : Int) (by omega) hE) 1 ⟨tb_215, tb_217, ts_9, tb_1, kin_E_isSpan⟩ dv_E_isSpan ⟨by rw [hR1]; decide, by rw [hR2]; decide⟩ hK hP 0 rfl rfl [0, 1, 2, 3, 4, 5, 6, 7, 8, 9, 10, 11, 12, 13, 14, 15, 16, 17, 18, 19, 20, 21, 22, 23] rfl [0, 1, 2, 3, 4] rfl rfl rfl hl.1 (Nat.le_of_ble_eq_true rfl) d_E_spanOfSource_19 ⟨Nat.zero_le _, Nat.zero_le _⟩ ?_
    refine we_if_eq (tgt := 29) hx hb (by constructor <;> split <;> omega) d_E_spanOfSource_22 rfl (fun hc22 => ?_) (fun hc22 => ?_)
    ·
      refine lv_iconst (v := eI (-1)) hx hb d_E_spanOfSource_29 rfl ?_
      have hres : ((-1) : Int) = (eh_so n ys 0) := by
        unfold eh_so
        rw [if_pos (by omega)]
        rw [if_neg (by split at hc22 <;> omega)]
      rw [hres]
      subst hQ
      exact W.iret hx hb hrt (fun t9 ht hW => ⟨rfl, ht⟩) (fun q h => by cases h) d_E_spanOfSource_30
    ·
      refine lv_iload_n hx hb d_E_spanOfSource_25 rfl (lv_at hl 1 rfl) ?_
      refine lv_goto (tgt := 30) hx hb d_E_spanOfSource_26 rfl ?_
      have hres : (((0 : Nat) : Int) : Int) = (eh_so n ys 0) := by
        unfold eh_so
        rw [if_pos (by omega)]
        rw [if_pos (by split at hc22 <;> omega)]
      rw [hres]
      subst hQ
      exact W.iret hx hb hrt (fun t9 ht hW => ⟨rfl, ht⟩) (fun q h => by cases h) d_E_spanOfSource_30
  ·
    have hl : lv_has ls 2 [(0, .ref (ad 0)), (1, .int (eI ((1 : Nat) : Int)))] := hl
    refine lv_iload_n hx hb d_E_spanOfSource_0 rfl (lv_at hl 1 rfl) ?_
    refine lv_iconst (v := eI 4) hx hb d_E_spanOfSource_1 rfl ?_
    refine we_icmp_lt (tgt := 17) hx hb (by constructor <;> omega) (by constructor <;> omega) d_E_spanOfSource_2 rfl (fun hc2 => ?_) (fun hc2 => absurd hc2 (by omega))
    refine lv_aload_n hx hb d_E_spanOfSource_17 rfl (lv_at hl 0 rfl) ?_
    refine lv_iload_n hx hb d_E_spanOfSource_18 rfl (lv_at hl 1 rfl) ?_
    refine eh_cRV (As := [.int (eI ((1 : Nat) : Int))]) (rest := []) (v := .int (eI (if 0 ≤ ((1 : Nat) : Int) ∧ ((1 : Nat) : Int) + 1 < n then 1 else 0))) (q := (R_E, T_E, 11)) hx hb hml hown htb hN (r_E_isSpan l D cI cL cZ cS cY ad n sh ra plv pco ln cb la cu cl fu fl ys yl yp ((1 : Nat) : Int) (by omega) hE) 1 ⟨tb_215, tb_217, ts_9, tb_1, kin_E_isSpan⟩ dv_E_isSpan ⟨by rw [hR1]; decide, by rw [hR2]; decide⟩ hK hP 0 rfl rfl [0, 1, 2, 3, 4, 5, 6, 7, 8, 9, 10, 11, 12, 13, 14, 15, 16, 17, 18, 19, 20, 21, 22, 23] rfl [0, 1, 2, 3, 4] rfl rfl rfl hl.1 (Nat.le_of_ble_eq_true rfl) d_E_spanOfSource_19 ⟨Nat.zero_le _, Nat.zero_le _⟩ ?_
    refine we_if_eq (tgt := 29) hx hb (by constructor <;> split <;> omega) d_E_spanOfSource_22 rfl (fun hc22 => ?_) (fun hc22 => ?_)
    ·
      refine lv_iconst (v := eI (-1)) hx hb d_E_spanOfSource_29 rfl ?_
      have hres : ((-1) : Int) = (eh_so n ys 1) := by
        unfold eh_so
        rw [if_pos (by omega)]
        rw [if_neg (by split at hc22 <;> omega)]
      rw [hres]
      subst hQ
      exact W.iret hx hb hrt (fun t9 ht hW => ⟨rfl, ht⟩) (fun q h => by cases h) d_E_spanOfSource_30
    ·
      refine lv_iload_n hx hb d_E_spanOfSource_25 rfl (lv_at hl 1 rfl) ?_
      refine lv_goto (tgt := 30) hx hb d_E_spanOfSource_26 rfl ?_
      have hres : (((1 : Nat) : Int) : Int) = (eh_so n ys 1) := by
        unfold eh_so
        rw [if_pos (by omega)]
        rw [if_pos (by split at hc22 <;> omega)]
      rw [hres]
      subst hQ
      exact W.iret hx hb hrt (fun t9 ht hW => ⟨rfl, ht⟩) (fun q h => by cases h) d_E_spanOfSource_30
  ·
    have hl : lv_has ls 2 [(0, .ref (ad 0)), (1, .int (eI ((2 : Nat) : Int)))] := hl
    refine lv_iload_n hx hb d_E_spanOfSource_0 rfl (lv_at hl 1 rfl) ?_
    refine lv_iconst (v := eI 4) hx hb d_E_spanOfSource_1 rfl ?_
    refine we_icmp_lt (tgt := 17) hx hb (by constructor <;> omega) (by constructor <;> omega) d_E_spanOfSource_2 rfl (fun hc2 => ?_) (fun hc2 => absurd hc2 (by omega))
    refine lv_aload_n hx hb d_E_spanOfSource_17 rfl (lv_at hl 0 rfl) ?_
    refine lv_iload_n hx hb d_E_spanOfSource_18 rfl (lv_at hl 1 rfl) ?_
    refine eh_cRV (As := [.int (eI ((2 : Nat) : Int))]) (rest := []) (v := .int (eI (if 0 ≤ ((2 : Nat) : Int) ∧ ((2 : Nat) : Int) + 1 < n then 1 else 0))) (q := (R_E, T_E, 11)) hx hb hml hown htb hN (r_E_isSpan l D cI cL cZ cS cY ad n sh ra plv pco ln cb la cu cl fu fl ys yl yp ((2 : Nat) : Int) (by omega) hE) 1 ⟨tb_215, tb_217, ts_9, tb_1, kin_E_isSpan⟩ dv_E_isSpan ⟨by rw [hR1]; decide, by rw [hR2]; decide⟩ hK hP 0 rfl rfl [0, 1, 2, 3, 4, 5, 6, 7, 8, 9, 10, 11, 12, 13, 14, 15, 16, 17, 18, 19, 20, 21, 22, 23] rfl [0, 1, 2, 3, 4] rfl rfl rfl hl.1 (Nat.le_of_ble_eq_true rfl) d_E_spanOfSource_19 ⟨Nat.zero_le _, Nat.zero_le _⟩ ?_
    refine we_if_eq (tgt := 29) hx hb (by constructor <;> split <;> omega) d_E_spanOfSource_22 rfl (fun hc22 => ?_) (fun hc22 => ?_)
    ·
      refine lv_iconst (v := eI (-1)) hx hb d_E_spanOfSource_29 rfl ?_
      have hres : ((-1) : Int) = (eh_so n ys 2) := by
        unfold eh_so
        rw [if_pos (by omega)]
        rw [if_neg (by split at hc22 <;> omega)]
      rw [hres]
      subst hQ
      exact W.iret hx hb hrt (fun t9 ht hW => ⟨rfl, ht⟩) (fun q h => by cases h) d_E_spanOfSource_30
    ·
      refine lv_iload_n hx hb d_E_spanOfSource_25 rfl (lv_at hl 1 rfl) ?_
      refine lv_goto (tgt := 30) hx hb d_E_spanOfSource_26 rfl ?_
      have hres : (((2 : Nat) : Int) : Int) = (eh_so n ys 2) := by
        unfold eh_so
        rw [if_pos (by omega)]
        rw [if_pos (by split at hc22 <;> omega)]
      rw [hres]
      subst hQ
      exact W.iret hx hb hrt (fun t9 ht hW => ⟨rfl, ht⟩) (fun q h => by cases h) d_E_spanOfSource_30
  ·
    have hl : lv_has ls 2 [(0, .ref (ad 0)), (1, .int (eI ((3 : Nat) : Int)))] := hl
    refine lv_iload_n hx hb d_E_spanOfSource_0 rfl (lv_at hl 1 rfl) ?_
    refine lv_iconst (v := eI 4) hx hb d_E_spanOfSource_1 rfl ?_
    refine we_icmp_lt (tgt := 17) hx hb (by constructor <;> omega) (by constructor <;> omega) d_E_spanOfSource_2 rfl (fun hc2 => ?_) (fun hc2 => absurd hc2 (by omega))
    refine lv_aload_n hx hb d_E_spanOfSource_17 rfl (lv_at hl 0 rfl) ?_
    refine lv_iload_n hx hb d_E_spanOfSource_18 rfl (lv_at hl 1 rfl) ?_
    refine eh_cRV (As := [.int (eI ((3 : Nat) : Int))]) (rest := []) (v := .int (eI (if 0 ≤ ((3 : Nat) : Int) ∧ ((3 : Nat) : Int) + 1 < n then 1 else 0))) (q := (R_E, T_E, 11)) hx hb hml hown htb hN (r_E_isSpan l D cI cL cZ cS cY ad n sh ra plv pco ln cb la cu cl fu fl ys yl yp ((3 : Nat) : Int) (by omega) hE) 1 ⟨tb_215, tb_217, ts_9, tb_1, kin_E_isSpan⟩ dv_E_isSpan ⟨by rw [hR1]; decide, by rw [hR2]; decide⟩ hK hP 0 rfl rfl [0, 1, 2, 3, 4, 5, 6, 7, 8, 9, 10, 11, 12, 13, 14, 15, 16, 17, 18, 19, 20, 21, 22, 23] rfl [0, 1, 2, 3, 4] rfl rfl rfl hl.1 (Nat.le_of_ble_eq_true rfl) d_E_spanOfSource_19 ⟨Nat.zero_le _, Nat.zero_le _⟩ ?_
    refine we_if_eq (tgt := 29) hx hb (by constructor <;> split <;> omega) d_E_spanOfSource_22 rfl (fun hc22 => ?_) (fun hc22 => ?_)
    ·
      refine lv_iconst (v := eI (-1)) hx hb d_E_spanOfSource_29 rfl ?_
      have hres : ((-1) : Int) = (eh_so n ys 3) := by
        unfold eh_so
        rw [if_pos (by omega)]
        rw [if_neg (by split at hc22 <;> omega)]
      rw [hres]
      subst hQ
      exact W.iret hx hb hrt (fun t9 ht hW => ⟨rfl, ht⟩) (fun q h => by cases h) d_E_spanOfSource_30
    ·
      refine lv_iload_n hx hb d_E_spanOfSource_25 rfl (lv_at hl 1 rfl) ?_
      refine lv_goto (tgt := 30) hx hb d_E_spanOfSource_26 rfl ?_
      have hres : (((3 : Nat) : Int) : Int) = (eh_so n ys 3) := by
        unfold eh_so
        rw [if_pos (by omega)]
        rw [if_pos (by split at hc22 <;> omega)]
      rw [hres]
      subst hQ
      exact W.iret hx hb hrt (fun t9 ht hW => ⟨rfl, ht⟩) (fun q h => by cases h) d_E_spanOfSource_30
  ·
    have hl : lv_has ls 2 [(0, .ref (ad 0)), (1, .int (eI ((4 : Nat) : Int)))] := hl
    refine lv_iload_n hx hb d_E_spanOfSource_0 rfl (lv_at hl 1 rfl) ?_
    refine lv_iconst (v := eI 4) hx hb d_E_spanOfSource_1 rfl ?_
    refine we_icmp_lt (tgt := 17) hx hb (by constructor <;> omega) (by constructor <;> omega) d_E_spanOfSource_2 rfl (fun hc2 => absurd hc2 (by omega)) (fun hc2 => ?_)
    refine lv_aload_n hx hb d_E_spanOfSource_5 rfl (lv_at hl 0 rfl) ?_
    refine va_get (D := D) (ci := 4) (v := .ref (ad 4)) (C := R_E) (T := T_E) (N := 11) hx hb htb in_E hown hK hP 0 rfl rfl 3 (by decide) (htb _ tb_127) (fun _ h9 => h9) rfl d_E_spanOfSource_6 ?_
    refine lv_iload_n hx hb d_E_spanOfSource_9 rfl (lv_at hl 1 rfl) ?_
    refine lv_iconst (v := eI 4) hx hb d_E_spanOfSource_10 rfl ?_
    refine we_isub hx hb d_E_spanOfSource_11 ?_
    refine we_aald (r := (ad 21)) hx hb hK hP 4 4 rfl rfl 0 rfl (by decide) (by decide) rfl d_E_spanOfSource_12 ?_
    refine va_get (D := D) (ci := 3) (v := .int (eI (ys 0))) (C := R_Y) (T := T_Y) (N := 3) hx hb htb in_Y hown hK hP 21 rfl rfl 0 (by decide) (htb _ tb_96) (fun _ h9 => h9) rfl d_E_spanOfSource_13 ?_
    have hres : ((ys 0) : Int) = (eh_so n ys 4) := rfl
    rw [hres]
    subst hQ
    exact W.iret hx hb hrt (fun t9 ht hW => ⟨rfl, ht⟩) (fun q h => by cases h) d_E_spanOfSource_16
  ·
    have hl : lv_has ls 2 [(0, .ref (ad 0)), (1, .int (eI ((5 : Nat) : Int)))] := hl
    refine lv_iload_n hx hb d_E_spanOfSource_0 rfl (lv_at hl 1 rfl) ?_
    refine lv_iconst (v := eI 4) hx hb d_E_spanOfSource_1 rfl ?_
    refine we_icmp_lt (tgt := 17) hx hb (by constructor <;> omega) (by constructor <;> omega) d_E_spanOfSource_2 rfl (fun hc2 => absurd hc2 (by omega)) (fun hc2 => ?_)
    refine lv_aload_n hx hb d_E_spanOfSource_5 rfl (lv_at hl 0 rfl) ?_
    refine va_get (D := D) (ci := 4) (v := .ref (ad 4)) (C := R_E) (T := T_E) (N := 11) hx hb htb in_E hown hK hP 0 rfl rfl 3 (by decide) (htb _ tb_127) (fun _ h9 => h9) rfl d_E_spanOfSource_6 ?_
    refine lv_iload_n hx hb d_E_spanOfSource_9 rfl (lv_at hl 1 rfl) ?_
    refine lv_iconst (v := eI 4) hx hb d_E_spanOfSource_10 rfl ?_
    refine we_isub hx hb d_E_spanOfSource_11 ?_
    refine we_aald (r := (ad 22)) hx hb hK hP 4 4 rfl rfl 1 rfl (by decide) (by decide) rfl d_E_spanOfSource_12 ?_
    refine va_get (D := D) (ci := 3) (v := .int (eI (ys 1))) (C := R_Y) (T := T_Y) (N := 3) hx hb htb in_Y hown hK hP 22 rfl rfl 0 (by decide) (htb _ tb_96) (fun _ h9 => h9) rfl d_E_spanOfSource_13 ?_
    have hres : ((ys 1) : Int) = (eh_so n ys 5) := rfl
    rw [hres]
    subst hQ
    exact W.iret hx hb hrt (fun t9 ht hW => ⟨rfl, ht⟩) (fun q h => by cases h) d_E_spanOfSource_16
abbrev c_E_spanOfSink : ByteArray := prog_1_method_39_code
def y_E_spanOfSink : MethodName := ⟨"EarthHauls", "spanOfSink", "(I)I"⟩
abbrev k_E_spanOfSink : Cond := .code y_E_spanOfSink c_E_spanOfSink 2 (some .int)
theorem kin_E_spanOfSink : k_E_spanOfSink ∈ ew_t := tb_226
theorem dv_E_spanOfSink : eh_dV y_E_spanOfSink "EarthHauls" 1 := ⟨rfl, by decide, by decide, by decide +kernel⟩
theorem d_E_spanOfSink_0 : decode c_E_spanOfSink 0 = .ok (.iload_n 1, 1) := by decide +kernel
theorem d_E_spanOfSink_1 : decode c_E_spanOfSink 1 = .ok (.iconst 4, 1) := by decide +kernel
theorem d_E_spanOfSink_2 : decode c_E_spanOfSink 2 = .ok (.if_icmp .ne 13, 3) := by decide +kernel
theorem d_E_spanOfSink_5 : decode c_E_spanOfSink 5 = .ok (.aload_n 0, 1) := by decide +kernel
theorem d_E_spanOfSink_6 : decode c_E_spanOfSink 6 = .ok (.getfield 25, 3) := by decide +kernel
theorem d_E_spanOfSink_9 : decode c_E_spanOfSink 9 = .ok (.iconst 2, 1) := by decide +kernel
theorem d_E_spanOfSink_10 : decode c_E_spanOfSink 10 = .ok (.aaload, 1) := by decide +kernel
theorem d_E_spanOfSink_11 : decode c_E_spanOfSink 11 = .ok (.getfield 204, 3) := by decide +kernel
theorem d_E_spanOfSink_14 : decode c_E_spanOfSink 14 = .ok (.ireturn, 1) := by decide +kernel
theorem d_E_spanOfSink_15 : decode c_E_spanOfSink 15 = .ok (.aload_n 0, 1) := by decide +kernel
theorem d_E_spanOfSink_16 : decode c_E_spanOfSink 16 = .ok (.iload_n 1, 1) := by decide +kernel
theorem d_E_spanOfSink_17 : decode c_E_spanOfSink 17 = .ok (.invokevirtual 85, 3) := by decide +kernel
theorem d_E_spanOfSink_20 : decode c_E_spanOfSink 20 = .ok (.ifCond .eq 7, 3) := by decide +kernel
theorem d_E_spanOfSink_23 : decode c_E_spanOfSink 23 = .ok (.iload_n 1, 1) := by decide +kernel
theorem d_E_spanOfSink_24 : decode c_E_spanOfSink 24 = .ok (.goto 4, 3) := by decide +kernel
theorem d_E_spanOfSink_27 : decode c_E_spanOfSink 27 = .ok (.iconst (-1), 1) := by decide +kernel
theorem d_E_spanOfSink_28 : decode c_E_spanOfSink 28 = .ok (.ireturn, 1) := by decide +kernel
set_option maxHeartbeats 4000000 in
set_option maxRecDepth 100000 in
theorem r_E_spanOfSink (l : Launch) (D : va_G) (cI cL cZ cS cY : ClassId) (ad : Nat → Nat) (n : Nat) (sh ra plv pco : Int) (ln cb la : Nat → Int) (cu cl fu fl : Nat → Nat) (ys yl yp : Nat → Int) (k : Nat) (hk : k < 5) (hE : eh_ES n sh ra ln cb la cu cl fu fl ys yl yp) : eh_R l y_E_spanOfSink k_E_spanOfSink 2 41 D classes [(cI, .int), (cL, .long), (cZ, .boolean), (cS, .object "EarthHauls$Section"), (cY, .object "EarthHauls$Yard")] [.ref (ad 0), .int (eI ((k : Nat) : Int))] [((ad 0), .inr (4, [.ref (ad 1), .ref (ad 2), .ref (ad 3), .ref (ad 4), .ref (ad 5), .ref (ad 24), .int (eI ((n : Nat) : Int)), .int (eI sh), .int (eI ra), .int (eI plv), .long (eL pco)])), ((ad 1), .inl (cS, 5, .inr (.inr (.inr (.inr (eh_o5 (ad 6) (ad 7) (ad 8) (ad 9) (ad 10))))))), ((ad 2), aI cI 4 ln), ((ad 3), aI cZ 3 cb), ((ad 4), .inl (cY, 3, .inr (.inr (.inr (.inr (eh_o3 (ad 21) (ad 22) (ad 23))))))), ((ad 5), aI cI 30 la), ((ad 6), .inr (2, [.ref (ad 11), .ref (ad 16)])), ((ad 7), .inr (2, [.ref (ad 12), .ref (ad 17)])), ((ad 8), .inr (2, [.ref (ad 13), .ref (ad 18)])), ((ad 9), .inr (2, [.ref (ad 14), .ref (ad 19)])), ((ad 10), .inr (2, [.ref (ad 15), .ref (ad 20)])), ((ad 11), .inr (0, [.long (eL ((cu 0 : Nat) : Int)), .long (eL ((cl 0 : Nat) : Int))])), ((ad 12), .inr (0, [.long (eL ((cu 1 : Nat) : Int)), .long (eL ((cl 1 : Nat) : Int))])), ((ad 13), .inr (0, [.long (eL ((cu 2 : Nat) : Int)), .long (eL ((cl 2 : Nat) : Int))])), ((ad 14), .inr (0, [.long (eL ((cu 3 : Nat) : Int)), .long (eL ((cl 3 : Nat) : Int))])), ((ad 15), .inr (0, [.long (eL ((cu 4 : Nat) : Int)), .long (eL ((cl 4 : Nat) : Int))])), ((ad 16), .inr (0, [.long (eL ((fu 0 : Nat) : Int)), .long (eL ((fl 0 : Nat) : Int))])), ((ad 17), .inr (0, [.long (eL ((fu 1 : Nat) : Int)), .long (eL ((fl 1 : Nat) : Int))])), ((ad 18), .inr (0, [.long (eL ((fu 2 : Nat) : Int)), .long (eL ((fl 2 : Nat) : Int))])), ((ad 19), .inr (0, [.long (eL ((fu 3 : Nat) : Int)), .long (eL ((fl 3 : Nat) : Int))])), ((ad 20), .inr (0, [.long (eL ((fu 4 : Nat) : Int)), .long (eL ((fl 4 : Nat) : Int))])), ((ad 21), .inr (3, [.int (eI (ys 0)), .int (eI (yl 0)), .int (eI (yp 0))])), ((ad 22), .inr (3, [.int (eI (ys 1)), .int (eI (yl 1)), .int (eI (yp 1))])), ((ad 23), .inr (3, [.int (eI (ys 2)), .int (eI (yl 2)), .int (eI (yp 2))]))] (.int (eI (eh_si n ys k))) := by
  refine Met.ofW (cc := c_E_spanOfSink) (maxL := 2) (ret := (some .int)) (by decide) rfl ?_
  intro p e s m args below meth c s₁ B hml hv
  obtain ⟨hargs, hP, hK, hN⟩ := hv
  have hx := B.exec
  have hb := B.bytes
  have hrt := B.returns
  have hts := atoms_spec (ws := k_E_spanOfSink :: ew_t) B.pre
  have htb : ∀ w ∈ ew_t, w.before args s = true := fun w h => hts w (List.mem_cons_of_mem _ h)
  have hown : s.vm.findClass "EarthHauls" = some m.cls := findClass_of_methodNamed B.named
  have hlocks := B.notSynchronized
  have hE : entryFrame m args 2 = entryFrame m ([.ref (ad 0), .int (eI ((k : Nat) : Int))] : List Value).toArray 2 := by rw [hargs]
  rw [hE]
  clear hE hts B hargs
  generalize hRe : (headSpec _ _).room = R
  have hR1 : R.frames = 2 := by rw [← hRe]; rfl
  have hR2 : R.locals = 41 := by rw [← hRe]; rfl
  clear hRe
  generalize hQ : MQ below _ _ s 0 0 _ = Q
  have hP : va_P D classes [((ad 0), .inr (4, [.ref (ad 1), .ref (ad 2), .ref (ad 3), .ref (ad 4), .ref (ad 5), .ref (ad 24), .int (eI ((n : Nat) : Int)), .int (eI sh), .int (eI ra), .int (eI plv), .long (eL pco)])), ((ad 1), .inl (cS, 5, .inr (.inr (.inr (.inr (eh_o5 (ad 6) (ad 7) (ad 8) (ad 9) (ad 10))))))), ((ad 2), aI cI 4 ln), ((ad 3), aI cZ 3 cb), ((ad 4), .inl (cY, 3, .inr (.inr (.inr (.inr (eh_o3 (ad 21) (ad 22) (ad 23))))))), ((ad 5), aI cI 30 la), ((ad 6), .inr (2, [.ref (ad 11), .ref (ad 16)])), ((ad 7), .inr (2, [.ref (ad 12), .ref (ad 17)])), ((ad 8), .inr (2, [.ref (ad 13), .ref (ad 18)])), ((ad 9), .inr (2, [.ref (ad 14), .ref (ad 19)])), ((ad 10), .inr (2, [.ref (ad 15), .ref (ad 20)])), ((ad 11), .inr (0, [.long (eL ((cu 0 : Nat) : Int)), .long (eL ((cl 0 : Nat) : Int))])), ((ad 12), .inr (0, [.long (eL ((cu 1 : Nat) : Int)), .long (eL ((cl 1 : Nat) : Int))])), ((ad 13), .inr (0, [.long (eL ((cu 2 : Nat) : Int)), .long (eL ((cl 2 : Nat) : Int))])), ((ad 14), .inr (0, [.long (eL ((cu 3 : Nat) : Int)), .long (eL ((cl 3 : Nat) : Int))])), ((ad 15), .inr (0, [.long (eL ((cu 4 : Nat) : Int)), .long (eL ((cl 4 : Nat) : Int))])), ((ad 16), .inr (0, [.long (eL ((fu 0 : Nat) : Int)), .long (eL ((fl 0 : Nat) : Int))])), ((ad 17), .inr (0, [.long (eL ((fu 1 : Nat) : Int)), .long (eL ((fl 1 : Nat) : Int))])), ((ad 18), .inr (0, [.long (eL ((fu 2 : Nat) : Int)), .long (eL ((fl 2 : Nat) : Int))])), ((ad 19), .inr (0, [.long (eL ((fu 3 : Nat) : Int)), .long (eL ((fl 3 : Nat) : Int))])), ((ad 20), .inr (0, [.long (eL ((fu 4 : Nat) : Int)), .long (eL ((fl 4 : Nat) : Int))])), ((ad 21), .inr (3, [.int (eI (ys 0)), .int (eI (yl 0)), .int (eI (yp 0))])), ((ad 22), .inr (3, [.int (eI (ys 1)), .int (eI (yl 1)), .int (eI (yp 1))])), ((ad 23), .inr (3, [.int (eI (ys 2)), .int (eI (yl 2)), .int (eI (yp 2))]))] s.heap := hP
  have hl := lv_entry ([.ref (ad 0), .int (eI ((k : Nat) : Int))]) (n := 2) (Nat.le_of_ble_eq_true rfl)
  rw [lg_entry_eq]
  generalize (lg_sl ([.ref (ad 0), .int (eI ((k : Nat) : Int))]) ++ List.replicate (2 - (lg_sl ([.ref (ad 0), .int (eI ((k : Nat) : Int))])).length) Slot.unset).toArray = ls at hl ⊢
  have hl : lv_has ls 2 [(0, .ref (ad 0)), (1, .int (eI ((k : Nat) : Int)))] := hl
  have hn5 := hE.1
  rcases (show k = 0 ∨ k = 1 ∨ k = 2 ∨ k = 3 ∨ k = 4 by omega) with rfl | rfl | rfl | rfl | rfl
  ·
    have hl : lv_has ls 2 [(0, .ref (ad 0)), (1, .int (eI ((0 : Nat) : Int)))] := hl
    refine lv_iload_n hx hb d_E_spanOfSink_0 rfl (lv_at hl 1 rfl) ?_
    refine lv_iconst (v := eI 4) hx hb d_E_spanOfSink_1 rfl ?_
    refine we_icmp_ne (tgt := 15) hx hb (by constructor <;> omega) (by constructor <;> omega) d_E_spanOfSink_2 rfl (fun hc2 => ?_) (fun hc2 => absurd hc2 (by omega))
    refine lv_aload_n hx hb d_E_spanOfSink_15 rfl (lv_at hl 0 rfl) ?_
    refine lv_iload_n hx hb d_E_spanOfSink_16 rfl (lv_at hl 1 rfl) ?_
    refine eh_cRV (As := [.int (eI ((0 : Nat) : Int))]) (rest := []) (v := .int (eI (if 0 ≤ ((0 : Nat) : Int) ∧ ((0 : Nat) : Int) + 1 < n then 1 else 0))) (q := (R_E, T_E, 11)) hx hb hml hown htb hN (r_E_isSpan l D cI cL cZ cS cY ad n sh ra plv pco ln cb la cu cl fu fl ys yl yp ((0 : Nat) : Int) (by omega) hE) 1 ⟨tb_215, tb_217, ts_9, tb_1, kin_E_isSpan⟩ dv_E_isSpan ⟨by rw [hR1]; decide, by rw [hR2]; decide⟩ hK hP 0 rfl rfl [0, 1, 2, 3, 4, 5, 6, 7, 8, 9, 10, 11, 12, 13, 14, 15, 16, 17, 18, 19, 20, 21, 22, 23] rfl [0, 1, 2, 3, 4] rfl rfl rfl hl.1 (Nat.le_of_ble_eq_true rfl) d_E_spanOfSink_17 ⟨Nat.zero_le _, Nat.zero_le _⟩ ?_
    refine we_if_eq (tgt := 27) hx hb (by constructor <;> split <;> omega) d_E_spanOfSink_20 rfl (fun hc20 => ?_) (fun hc20 => ?_)
    ·
      refine lv_iconst (v := eI (-1)) hx hb d_E_spanOfSink_27 rfl ?_
      have hres : ((-1) : Int) = (eh_si n ys 0) := by
        unfold eh_si
        rw [if_pos (by omega)]
        rw [if_neg (by split at hc20 <;> omega)]
      rw [hres]
      subst hQ
      exact W.iret hx hb hrt (fun t9 ht hW => ⟨rfl, ht⟩) (fun q h => by cases h) d_E_spanOfSink_28
    ·
      refine lv_iload_n hx hb d_E_spanOfSink_23 rfl (lv_at hl 1 rfl) ?_
      refine lv_goto (tgt := 28) hx hb d_E_spanOfSink_24 rfl ?_
      have hres : (((0 : Nat) : Int) : Int) = (eh_si n ys 0) := by
        unfold eh_si
        rw [if_pos (by omega)]
        rw [if_pos (by split at hc20 <;> omega)]
      rw [hres]
      subst hQ
      exact W.iret hx hb hrt (fun t9 ht hW => ⟨rfl, ht⟩) (fun q h => by cases h) d_E_spanOfSink_28
  ·
    have hl : lv_has ls 2 [(0, .ref (ad 0)), (1, .int (eI ((1 : Nat) : Int)))] := hl
    refine lv_iload_n hx hb d_E_spanOfSink_0 rfl (lv_at hl 1 rfl) ?_
    refine lv_iconst (v := eI 4) hx hb d_E_spanOfSink_1 rfl ?_
    refine we_icmp_ne (tgt := 15) hx hb (by constructor <;> omega) (by constructor <;> omega) d_E_spanOfSink_2 rfl (fun hc2 => ?_) (fun hc2 => absurd hc2 (by omega))
    refine lv_aload_n hx hb d_E_spanOfSink_15 rfl (lv_at hl 0 rfl) ?_
    refine lv_iload_n hx hb d_E_spanOfSink_16 rfl (lv_at hl 1 rfl) ?_
    refine eh_cRV (As := [.int (eI ((1 : Nat) : Int))]) (rest := []) (v := .int (eI (if 0 ≤ ((1 : Nat) : Int) ∧ ((1 : Nat) : Int) + 1 < n then 1 else 0))) (q := (R_E, T_E, 11)) hx hb hml hown htb hN (r_E_isSpan l D cI cL cZ cS cY ad n sh ra plv pco ln cb la cu cl fu fl ys yl yp ((1 : Nat) : Int) (by omega) hE) 1 ⟨tb_215, tb_217, ts_9, tb_1, kin_E_isSpan⟩ dv_E_isSpan ⟨by rw [hR1]; decide, by rw [hR2]; decide⟩ hK hP 0 rfl rfl [0, 1, 2, 3, 4, 5, 6, 7, 8, 9, 10, 11, 12, 13, 14, 15, 16, 17, 18, 19, 20, 21, 22, 23] rfl [0, 1, 2, 3, 4] rfl rfl rfl hl.1 (Nat.le_of_ble_eq_true rfl) d_E_spanOfSink_17 ⟨Nat.zero_le _, Nat.zero_le _⟩ ?_
    refine we_if_eq (tgt := 27) hx hb (by constructor <;> split <;> omega) d_E_spanOfSink_20 rfl (fun hc20 => ?_) (fun hc20 => ?_)
    ·
      refine lv_iconst (v := eI (-1)) hx hb d_E_spanOfSink_27 rfl ?_
      have hres : ((-1) : Int) = (eh_si n ys 1) := by
        unfold eh_si
        rw [if_pos (by omega)]
        rw [if_neg (by split at hc20 <;> omega)]
      rw [hres]
      subst hQ
      exact W.iret hx hb hrt (fun t9 ht hW => ⟨rfl, ht⟩) (fun q h => by cases h) d_E_spanOfSink_28
    ·
      refine lv_iload_n hx hb d_E_spanOfSink_23 rfl (lv_at hl 1 rfl) ?_
      refine lv_goto (tgt := 28) hx hb d_E_spanOfSink_24 rfl ?_
      have hres : (((1 : Nat) : Int) : Int) = (eh_si n ys 1) := by
        unfold eh_si
        rw [if_pos (by omega)]
        rw [if_pos (by split at hc20 <;> omega)]
      rw [hres]
      subst hQ
      exact W.iret hx hb hrt (fun t9 ht hW => ⟨rfl, ht⟩) (fun q h => by cases h) d_E_spanOfSink_28
  ·
    have hl : lv_has ls 2 [(0, .ref (ad 0)), (1, .int (eI ((2 : Nat) : Int)))] := hl
    refine lv_iload_n hx hb d_E_spanOfSink_0 rfl (lv_at hl 1 rfl) ?_
    refine lv_iconst (v := eI 4) hx hb d_E_spanOfSink_1 rfl ?_
    refine we_icmp_ne (tgt := 15) hx hb (by constructor <;> omega) (by constructor <;> omega) d_E_spanOfSink_2 rfl (fun hc2 => ?_) (fun hc2 => absurd hc2 (by omega))
    refine lv_aload_n hx hb d_E_spanOfSink_15 rfl (lv_at hl 0 rfl) ?_
    refine lv_iload_n hx hb d_E_spanOfSink_16 rfl (lv_at hl 1 rfl) ?_
    refine eh_cRV (As := [.int (eI ((2 : Nat) : Int))]) (rest := []) (v := .int (eI (if 0 ≤ ((2 : Nat) : Int) ∧ ((2 : Nat) : Int) + 1 < n then 1 else 0))) (q := (R_E, T_E, 11)) hx hb hml hown htb hN (r_E_isSpan l D cI cL cZ cS cY ad n sh ra plv pco ln cb la cu cl fu fl ys yl yp ((2 : Nat) : Int) (by omega) hE) 1 ⟨tb_215, tb_217, ts_9, tb_1, kin_E_isSpan⟩ dv_E_isSpan ⟨by rw [hR1]; decide, by rw [hR2]; decide⟩ hK hP 0 rfl rfl [0, 1, 2, 3, 4, 5, 6, 7, 8, 9, 10, 11, 12, 13, 14, 15, 16, 17, 18, 19, 20, 21, 22, 23] rfl [0, 1, 2, 3, 4] rfl rfl rfl hl.1 (Nat.le_of_ble_eq_true rfl) d_E_spanOfSink_17 ⟨Nat.zero_le _, Nat.zero_le _⟩ ?_
    refine we_if_eq (tgt := 27) hx hb (by constructor <;> split <;> omega) d_E_spanOfSink_20 rfl (fun hc20 => ?_) (fun hc20 => ?_)
    ·
      refine lv_iconst (v := eI (-1)) hx hb d_E_spanOfSink_27 rfl ?_
      have hres : ((-1) : Int) = (eh_si n ys 2) := by
        unfold eh_si
        rw [if_pos (by omega)]
        rw [if_neg (by split at hc20 <;> omega)]
      rw [hres]
      subst hQ
      exact W.iret hx hb hrt (fun t9 ht hW => ⟨rfl, ht⟩) (fun q h => by cases h) d_E_spanOfSink_28
    ·
      refine lv_iload_n hx hb d_E_spanOfSink_23 rfl (lv_at hl 1 rfl) ?_
      refine lv_goto (tgt := 28) hx hb d_E_spanOfSink_24 rfl ?_
      have hres : (((2 : Nat) : Int) : Int) = (eh_si n ys 2) := by
        unfold eh_si
        rw [if_pos (by omega)]
        rw [if_pos (by split at hc20 <;> omega)]
      rw [hres]
      subst hQ
      exact W.iret hx hb hrt (fun t9 ht hW => ⟨rfl, ht⟩) (fun q h => by cases h) d_E_spanOfSink_28
  ·
    have hl : lv_has ls 2 [(0, .ref (ad 0)), (1, .int (eI ((3 : Nat) : Int)))] := hl
    refine lv_iload_n hx hb d_E_spanOfSink_0 rfl (lv_at hl 1 rfl) ?_
    refine lv_iconst (v := eI 4) hx hb d_E_spanOfSink_1 rfl ?_
    refine we_icmp_ne (tgt := 15) hx hb (by constructor <;> omega) (by constructor <;> omega) d_E_spanOfSink_2 rfl (fun hc2 => ?_) (fun hc2 => absurd hc2 (by omega))
    refine lv_aload_n hx hb d_E_spanOfSink_15 rfl (lv_at hl 0 rfl) ?_
    refine lv_iload_n hx hb d_E_spanOfSink_16 rfl (lv_at hl 1 rfl) ?_
    refine eh_cRV (As := [.int (eI ((3 : Nat) : Int))]) (rest := []) (v := .int (eI (if 0 ≤ ((3 : Nat) : Int) ∧ ((3 : Nat) : Int) + 1 < n then 1 else 0))) (q := (R_E, T_E, 11)) hx hb hml hown htb hN (r_E_isSpan l D cI cL cZ cS cY ad n sh ra plv pco ln cb la cu cl fu fl ys yl yp ((3 : Nat) : Int) (by omega) hE) 1 ⟨tb_215, tb_217, ts_9, tb_1, kin_E_isSpan⟩ dv_E_isSpan ⟨by rw [hR1]; decide, by rw [hR2]; decide⟩ hK hP 0 rfl rfl [0, 1, 2, 3, 4, 5, 6, 7, 8, 9, 10, 11, 12, 13, 14, 15, 16, 17, 18, 19, 20, 21, 22, 23] rfl [0, 1, 2, 3, 4] rfl rfl rfl hl.1 (Nat.le_of_ble_eq_true rfl) d_E_spanOfSink_17 ⟨Nat.zero_le _, Nat.zero_le _⟩ ?_
    refine we_if_eq (tgt := 27) hx hb (by constructor <;> split <;> omega) d_E_spanOfSink_20 rfl (fun hc20 => ?_) (fun hc20 => ?_)
    ·
      refine lv_iconst (v := eI (-1)) hx hb d_E_spanOfSink_27 rfl ?_
      have hres : ((-1) : Int) = (eh_si n ys 3) := by
        unfold eh_si
        rw [if_pos (by omega)]
        rw [if_neg (by split at hc20 <;> omega)]
      rw [hres]
      subst hQ
      exact W.iret hx hb hrt (fun t9 ht hW => ⟨rfl, ht⟩) (fun q h => by cases h) d_E_spanOfSink_28
    ·
      refine lv_iload_n hx hb d_E_spanOfSink_23 rfl (lv_at hl 1 rfl) ?_
      refine lv_goto (tgt := 28) hx hb d_E_spanOfSink_24 rfl ?_
      have hres : (((3 : Nat) : Int) : Int) = (eh_si n ys 3) := by
        unfold eh_si
        rw [if_pos (by omega)]
        rw [if_pos (by split at hc20 <;> omega)]
      rw [hres]
      subst hQ
      exact W.iret hx hb hrt (fun t9 ht hW => ⟨rfl, ht⟩) (fun q h => by cases h) d_E_spanOfSink_28
  ·
    have hl : lv_has ls 2 [(0, .ref (ad 0)), (1, .int (eI ((4 : Nat) : Int)))] := hl
    refine lv_iload_n hx hb d_E_spanOfSink_0 rfl (lv_at hl 1 rfl) ?_
    refine lv_iconst (v := eI 4) hx hb d_E_spanOfSink_1 rfl ?_
    refine we_icmp_ne (tgt := 15) hx hb (by constructor <;> omega) (by constructor <;> omega) d_E_spanOfSink_2 rfl (fun hc2 => absurd hc2 (by omega)) (fun hc2 => ?_)
    refine lv_aload_n hx hb d_E_spanOfSink_5 rfl (lv_at hl 0 rfl) ?_
    refine va_get (D := D) (ci := 4) (v := .ref (ad 4)) (C := R_E) (T := T_E) (N := 11) hx hb htb in_E hown hK hP 0 rfl rfl 3 (by decide) (htb _ tb_127) (fun _ h9 => h9) rfl d_E_spanOfSink_6 ?_
    refine lv_iconst (v := eI 2) hx hb d_E_spanOfSink_9 rfl ?_
    refine we_aald (r := (ad 23)) hx hb hK hP 4 4 rfl rfl 2 rfl (by decide) (by decide) rfl d_E_spanOfSink_10 ?_
    refine va_get (D := D) (ci := 3) (v := .int (eI (ys 2))) (C := R_Y) (T := T_Y) (N := 3) hx hb htb in_Y hown hK hP 23 rfl rfl 0 (by decide) (htb _ tb_96) (fun _ h9 => h9) rfl d_E_spanOfSink_11 ?_
    have hres : ((ys 2) : Int) = (eh_si n ys 4) := rfl
    rw [hres]
    subst hQ
    exact W.iret hx hb hrt (fun t9 ht hW => ⟨rfl, ht⟩) (fun q h => by cases h) d_E_spanOfSink_14
abbrev c_E_isOpenBetween : ByteArray := prog_1_method_41_code
def y_E_isOpenBetween : MethodName := ⟨"EarthHauls", "isOpenBetween", "(II)Z"⟩
abbrev k_E_isOpenBetween : Cond := .code y_E_isOpenBetween c_E_isOpenBetween 4 (some .boolean)
theorem kin_E_isOpenBetween : k_E_isOpenBetween ∈ ew_t := tb_230
theorem dv_E_isOpenBetween : eh_dV y_E_isOpenBetween "EarthHauls" 2 := ⟨rfl, by decide, by decide, by decide +kernel⟩
theorem d_E_isOpenBetween_0 : decode c_E_isOpenBetween 0 = .ok (.iload_n 1, 1) := by decide +kernel
theorem d_E_isOpenBetween_1 : decode c_E_isOpenBetween 1 = .ok (.iload_n 2, 1) := by decide +kernel
theorem d_E_isOpenBetween_2 : decode c_E_isOpenBetween 2 = .ok (.invokestatic 222, 3) := by decide +kernel
theorem d_E_isOpenBetween_5 : decode c_E_isOpenBetween 5 = .ok (.istore_n 3, 1) := by decide +kernel
theorem d_E_isOpenBetween_6 : decode c_E_isOpenBetween 6 = .ok (.iload_n 3, 1) := by decide +kernel
theorem d_E_isOpenBetween_7 : decode c_E_isOpenBetween 7 = .ok (.iload_n 1, 1) := by decide +kernel
theorem d_E_isOpenBetween_8 : decode c_E_isOpenBetween 8 = .ok (.iload_n 2, 1) := by decide +kernel
theorem d_E_isOpenBetween_9 : decode c_E_isOpenBetween 9 = .ok (.invokestatic 227, 3) := by decide +kernel
theorem d_E_isOpenBetween_12 : decode c_E_isOpenBetween 12 = .ok (.if_icmp .ge 20, 3) := by decide +kernel
theorem d_E_isOpenBetween_15 : decode c_E_isOpenBetween 15 = .ok (.aload_n 0, 1) := by decide +kernel
theorem d_E_isOpenBetween_16 : decode c_E_isOpenBetween 16 = .ok (.getfield 19, 3) := by decide +kernel
theorem d_E_isOpenBetween_19 : decode c_E_isOpenBetween 19 = .ok (.iload_n 3, 1) := by decide +kernel
theorem d_E_isOpenBetween_20 : decode c_E_isOpenBetween 20 = .ok (.baload, 1) := by decide +kernel
theorem d_E_isOpenBetween_21 : decode c_E_isOpenBetween 21 = .ok (.ifCond .eq 5, 3) := by decide +kernel
theorem d_E_isOpenBetween_24 : decode c_E_isOpenBetween 24 = .ok (.iconst 0, 1) := by decide +kernel
theorem d_E_isOpenBetween_25 : decode c_E_isOpenBetween 25 = .ok (.ireturn, 1) := by decide +kernel
theorem d_E_isOpenBetween_26 : decode c_E_isOpenBetween 26 = .ok (.iinc 3 1, 3) := by decide +kernel
theorem d_E_isOpenBetween_29 : decode c_E_isOpenBetween 29 = .ok (.goto (-23), 3) := by decide +kernel
theorem d_E_isOpenBetween_32 : decode c_E_isOpenBetween 32 = .ok (.iconst 1, 1) := by decide +kernel
theorem d_E_isOpenBetween_33 : decode c_E_isOpenBetween 33 = .ok (.ireturn, 1) := by decide +kernel
set_option maxHeartbeats 4000000 in
set_option maxRecDepth 100000 in
theorem r_E_isOpenBetween (l : Launch) (D : va_G) (cI cL cZ cS cY : ClassId) (ad : Nat → Nat) (n : Nat) (sh ra plv pco : Int) (ln cb la : Nat → Int) (cu cl fu fl : Nat → Nat) (ys yl yp : Nat → Int) (f g : Nat) (hf : f < 4) (hg : g < 4) (hE : eh_ES n sh ra ln cb la cu cl fu fl ys yl yp) : eh_R l y_E_isOpenBetween k_E_isOpenBetween 1 26 D classes [(cI, .int), (cL, .long), (cZ, .boolean), (cS, .object "EarthHauls$Section"), (cY, .object "EarthHauls$Yard")] [.ref (ad 0), .int (eI ((f : Nat) : Int)), .int (eI ((g : Nat) : Int))] [((ad 0), .inr (4, [.ref (ad 1), .ref (ad 2), .ref (ad 3), .ref (ad 4), .ref (ad 5), .ref (ad 24), .int (eI ((n : Nat) : Int)), .int (eI sh), .int (eI ra), .int (eI plv), .long (eL pco)])), ((ad 1), .inl (cS, 5, .inr (.inr (.inr (.inr (eh_o5 (ad 6) (ad 7) (ad 8) (ad 9) (ad 10))))))), ((ad 2), aI cI 4 ln), ((ad 3), aI cZ 3 cb), ((ad 4), .inl (cY, 3, .inr (.inr (.inr (.inr (eh_o3 (ad 21) (ad 22) (ad 23))))))), ((ad 5), aI cI 30 la), ((ad 6), .inr (2, [.ref (ad 11), .ref (ad 16)])), ((ad 7), .inr (2, [.ref (ad 12), .ref (ad 17)])), ((ad 8), .inr (2, [.ref (ad 13), .ref (ad 18)])), ((ad 9), .inr (2, [.ref (ad 14), .ref (ad 19)])), ((ad 10), .inr (2, [.ref (ad 15), .ref (ad 20)])), ((ad 11), .inr (0, [.long (eL ((cu 0 : Nat) : Int)), .long (eL ((cl 0 : Nat) : Int))])), ((ad 12), .inr (0, [.long (eL ((cu 1 : Nat) : Int)), .long (eL ((cl 1 : Nat) : Int))])), ((ad 13), .inr (0, [.long (eL ((cu 2 : Nat) : Int)), .long (eL ((cl 2 : Nat) : Int))])), ((ad 14), .inr (0, [.long (eL ((cu 3 : Nat) : Int)), .long (eL ((cl 3 : Nat) : Int))])), ((ad 15), .inr (0, [.long (eL ((cu 4 : Nat) : Int)), .long (eL ((cl 4 : Nat) : Int))])), ((ad 16), .inr (0, [.long (eL ((fu 0 : Nat) : Int)), .long (eL ((fl 0 : Nat) : Int))])), ((ad 17), .inr (0, [.long (eL ((fu 1 : Nat) : Int)), .long (eL ((fl 1 : Nat) : Int))])), ((ad 18), .inr (0, [.long (eL ((fu 2 : Nat) : Int)), .long (eL ((fl 2 : Nat) : Int))])), ((ad 19), .inr (0, [.long (eL ((fu 3 : Nat) : Int)), .long (eL ((fl 3 : Nat) : Int))])), ((ad 20), .inr (0, [.long (eL ((fu 4 : Nat) : Int)), .long (eL ((fl 4 : Nat) : Int))])), ((ad 21), .inr (3, [.int (eI (ys 0)), .int (eI (yl 0)), .int (eI (yp 0))])), ((ad 22), .inr (3, [.int (eI (ys 1)), .int (eI (yl 1)), .int (eI (yp 1))])), ((ad 23), .inr (3, [.int (eI (ys 2)), .int (eI (yl 2)), .int (eI (yp 2))]))] (.int (eI (if eh_opb cb (min f g) (max f g - min f g) = true then 1 else 0))) := by
  refine Met.ofW (cc := c_E_isOpenBetween) (maxL := 4) (ret := (some .boolean)) (by decide) rfl ?_
  intro p e s m args below meth c s₁ B hml hv
  obtain ⟨hargs, hP, hK, hN⟩ := hv
  have hx := B.exec
  have hb := B.bytes
  have hrt := B.returns
  have hts := atoms_spec (ws := k_E_isOpenBetween :: ew_t) B.pre
  have htb : ∀ w ∈ ew_t, w.before args s = true := fun w h => hts w (List.mem_cons_of_mem _ h)
  have hown : s.vm.findClass "EarthHauls" = some m.cls := findClass_of_methodNamed B.named
  have hlocks := B.notSynchronized
  have hE : entryFrame m args 4 = entryFrame m ([.ref (ad 0), .int (eI ((f : Nat) : Int)), .int (eI ((g : Nat) : Int))] : List Value).toArray 4 := by rw [hargs]
  rw [hE]
  clear hE hts B hargs
  generalize hRe : (headSpec _ _).room = R
  have hR1 : R.frames = 1 := by rw [← hRe]; rfl
  have hR2 : R.locals = 26 := by rw [← hRe]; rfl
  clear hRe
  generalize hQ : MQ below _ _ s 0 0 _ = Q
  have hP : va_P D classes [((ad 0), .inr (4, [.ref (ad 1), .ref (ad 2), .ref (ad 3), .ref (ad 4), .ref (ad 5), .ref (ad 24), .int (eI ((n : Nat) : Int)), .int (eI sh), .int (eI ra), .int (eI plv), .long (eL pco)])), ((ad 1), .inl (cS, 5, .inr (.inr (.inr (.inr (eh_o5 (ad 6) (ad 7) (ad 8) (ad 9) (ad 10))))))), ((ad 2), aI cI 4 ln), ((ad 3), aI cZ 3 cb), ((ad 4), .inl (cY, 3, .inr (.inr (.inr (.inr (eh_o3 (ad 21) (ad 22) (ad 23))))))), ((ad 5), aI cI 30 la), ((ad 6), .inr (2, [.ref (ad 11), .ref (ad 16)])), ((ad 7), .inr (2, [.ref (ad 12), .ref (ad 17)])), ((ad 8), .inr (2, [.ref (ad 13), .ref (ad 18)])), ((ad 9), .inr (2, [.ref (ad 14), .ref (ad 19)])), ((ad 10), .inr (2, [.ref (ad 15), .ref (ad 20)])), ((ad 11), .inr (0, [.long (eL ((cu 0 : Nat) : Int)), .long (eL ((cl 0 : Nat) : Int))])), ((ad 12), .inr (0, [.long (eL ((cu 1 : Nat) : Int)), .long (eL ((cl 1 : Nat) : Int))])), ((ad 13), .inr (0, [.long (eL ((cu 2 : Nat) : Int)), .long (eL ((cl 2 : Nat) : Int))])), ((ad 14), .inr (0, [.long (eL ((cu 3 : Nat) : Int)), .long (eL ((cl 3 : Nat) : Int))])), ((ad 15), .inr (0, [.long (eL ((cu 4 : Nat) : Int)), .long (eL ((cl 4 : Nat) : Int))])), ((ad 16), .inr (0, [.long (eL ((fu 0 : Nat) : Int)), .long (eL ((fl 0 : Nat) : Int))])), ((ad 17), .inr (0, [.long (eL ((fu 1 : Nat) : Int)), .long (eL ((fl 1 : Nat) : Int))])), ((ad 18), .inr (0, [.long (eL ((fu 2 : Nat) : Int)), .long (eL ((fl 2 : Nat) : Int))])), ((ad 19), .inr (0, [.long (eL ((fu 3 : Nat) : Int)), .long (eL ((fl 3 : Nat) : Int))])), ((ad 20), .inr (0, [.long (eL ((fu 4 : Nat) : Int)), .long (eL ((fl 4 : Nat) : Int))])), ((ad 21), .inr (3, [.int (eI (ys 0)), .int (eI (yl 0)), .int (eI (yp 0))])), ((ad 22), .inr (3, [.int (eI (ys 1)), .int (eI (yl 1)), .int (eI (yp 1))])), ((ad 23), .inr (3, [.int (eI (ys 2)), .int (eI (yl 2)), .int (eI (yp 2))]))] s.heap := hP
  have hl := lv_entry ([.ref (ad 0), .int (eI ((f : Nat) : Int)), .int (eI ((g : Nat) : Int))]) (n := 4) (Nat.le_of_ble_eq_true rfl)
  rw [lg_entry_eq]
  generalize (lg_sl ([.ref (ad 0), .int (eI ((f : Nat) : Int)), .int (eI ((g : Nat) : Int))]) ++ List.replicate (4 - (lg_sl ([.ref (ad 0), .int (eI ((f : Nat) : Int)), .int (eI ((g : Nat) : Int))])).length) Slot.unset).toArray = ls at hl ⊢
  have hl : lv_has ls 4 [(0, .ref (ad 0)), (1, .int (eI ((f : Nat) : Int))), (2, .int (eI ((g : Nat) : Int)))] := hl
  have hn5 := hE.1
  obtain ⟨lo9, hlo⟩ : ∃ q : Nat, q = min f g := ⟨_, rfl⟩
  obtain ⟨hi9, hhi⟩ : ∃ q : Nat, q = max f g := ⟨_, rfl⟩
  refine lv_iload_n hx hb d_E_isOpenBetween_0 rfl (lv_at hl 1 rfl) ?_
  refine lv_iload_n hx hb d_E_isOpenBetween_1 rfl (lv_at hl 2 rfl) ?_
  refine we_min hx hb hml hl.1 hown (htb _ tb_231) (htb _ tb_232) (htb _ tb_13) (htb _ tb_233) (by rw [hR1]; decide) (by rw [hR2]; exact Nat.le_of_ble_eq_true rfl) (Nat.zero_le _) (Nat.zero_le _) (by constructor <;> omega) (by constructor <;> omega) d_E_isOpenBetween_2 ?_
  refine lv_istore_n hx hb d_E_isOpenBetween_5 rfl hl (by decide) rfl (fun ls hl => ?_)
  have hl : lv_has ls 4 [(3, .int (eI (min ((f : Nat) : Int) ((g : Nat) : Int)))), (0, .ref (ad 0)), (1, .int (eI ((f : Nat) : Int))), (2, .int (eI ((g : Nat) : Int)))] := hl
  have loop : ∀ (q i : Nat) (ls : Array Slot), hi9 - i = q → lo9 ≤ i → i ≤ hi9 → eh_op cb lo9 i → lv_has ls 4 [(3, .int (eI ((i : Nat) : Int))), (0, .ref (ad 0)), (1, .int (eI ((f : Nat) : Int))), (2, .int (eI ((g : Nat) : Int)))] → W p l e R s m args below meth c s.heap [] 0 0 Q (F0 m 6 ls []) := by
    intro q
    induction q with
    | zero =>
      intro i ls hq h1 h2 hop hl
      refine lv_iload_n hx hb d_E_isOpenBetween_6 rfl (lv_at hl 0 rfl) ?_
      refine lv_iload_n hx hb d_E_isOpenBetween_7 rfl (lv_at hl 2 rfl) ?_
      refine lv_iload_n hx hb d_E_isOpenBetween_8 rfl (lv_at hl 3 rfl) ?_
      refine we_max hx hb hml hl.1 hown (htb _ tb_234) (htb _ tb_235) (htb _ tb_13) (htb _ tb_236) (by rw [hR1]; decide) (by rw [hR2]; exact Nat.le_of_ble_eq_true rfl) (Nat.zero_le _) (Nat.zero_le _) (by constructor <;> omega) (by constructor <;> omega) d_E_isOpenBetween_9 ?_
      refine we_icmp_ge (tgt := 32) hx hb (by constructor <;> omega) (by constructor <;> omega) d_E_isOpenBetween_12 rfl (fun hc12 => ?_) (fun hc12 => absurd hc12 (by omega))
      refine lv_iconst (v := eI 1) hx hb d_E_isOpenBetween_32 rfl ?_
      have hres : (1 : Int) = (if eh_opb cb (min f g) (max f g - min f g) = true then 1 else 0) := by
        rw [← hlo, ← hhi]
        rw [if_pos ((eh_opb_iff cb lo9 (hi9 - lo9)).mpr (by rw [show lo9 + (hi9 - lo9) = hi9 by omega]; rw [show hi9 = i by omega]; exact hop))]
      subst hQ
      exact W.zret (v := eI 1) hx hb hrt (by decide) (fun t9 ht hW => ⟨by rw [← hres], ht⟩) (fun q h => by cases h) d_E_isOpenBetween_33
    | succ q ih =>
      intro i ls hq h1 h2 hop hl
      have hcb := hE.2.2.2.2.1 i (by omega)
      refine lv_iload_n hx hb d_E_isOpenBetween_6 rfl (lv_at hl 0 rfl) ?_
      refine lv_iload_n hx hb d_E_isOpenBetween_7 rfl (lv_at hl 2 rfl) ?_
      refine lv_iload_n hx hb d_E_isOpenBetween_8 rfl (lv_at hl 3 rfl) ?_
      refine we_max hx hb hml hl.1 hown (htb _ tb_234) (htb _ tb_235) (htb _ tb_13) (htb _ tb_236) (by rw [hR1]; decide) (by rw [hR2]; exact Nat.le_of_ble_eq_true rfl) (Nat.zero_le _) (Nat.zero_le _) (by constructor <;> omega) (by constructor <;> omega) d_E_isOpenBetween_9 ?_
      refine we_icmp_ge (tgt := 32) hx hb (by constructor <;> omega) (by constructor <;> omega) d_E_isOpenBetween_12 rfl (fun hc12 => absurd hc12 (by omega)) (fun hc12 => ?_)
      refine lv_aload_n hx hb d_E_isOpenBetween_15 rfl (lv_at hl 1 rfl) ?_
      refine va_get (D := D) (ci := 4) (v := .ref (ad 3)) (C := R_E) (T := T_E) (N := 11) hx hb htb in_E hown hK hP 0 rfl rfl 2 (by decide) (htb _ tb_126) (fun _ h9 => h9) rfl d_E_isOpenBetween_16 ?_
      refine lv_iload_n hx hb d_E_isOpenBetween_19 rfl (lv_at hl 0 rfl) ?_
      refine we_zald hx hb hK hP 3 2 rfl rfl i rfl (by omega) (by decide) d_E_isOpenBetween_20 ?_
      refine we_if_eq (tgt := 26) hx hb (by constructor <;> omega) d_E_isOpenBetween_21 rfl (fun hc21 => ?_) (fun hc21 => ?_)
      ·
        refine lv_iinc (v := eI (((i : Nat) : Int) + 1)) hx hb d_E_isOpenBetween_26 hl (k := 0) rfl (eI_add _ _) (by decide) rfl (fun ls hl => ?_)
        have hl : lv_has ls 4 [(3, .int (eI (((i : Nat) : Int) + 1))), (0, .ref (ad 0)), (1, .int (eI ((f : Nat) : Int))), (2, .int (eI ((g : Nat) : Int)))] := hl
        refine lv_goto (tgt := 6) hx hb d_E_isOpenBetween_29 rfl ?_
        exact ih (i + 1) ls (by omega) (by omega) (by omega) (fun k z1 z2 => by
          by_cases z3 : k = i
          · subst z3; omega
          · exact hop k z1 (by omega)) (lv_sub hl [0, 1, 2, 3] rfl)
      ·
        refine lv_iconst (v := eI 0) hx hb d_E_isOpenBetween_24 rfl ?_
        have hres : (0 : Int) = (if eh_opb cb (min f g) (max f g - min f g) = true then 1 else 0) := by
          rw [← hlo, ← hhi]
          rw [if_neg (fun z => by
            have z2 := (eh_opb_iff cb lo9 (hi9 - lo9)).mp z i (by omega) (by omega)
            omega)]
        subst hQ
        exact W.zret (v := eI 0) hx hb hrt (by decide) (fun t9 ht hW => ⟨by rw [← hres], ht⟩) (fun q h => by cases h) d_E_isOpenBetween_25
  rw [show min ((f : Nat) : Int) ((g : Nat) : Int) = ((lo9 : Nat) : Int) by omega] at hl
  exact loop (hi9 - lo9) lo9 ls rfl (by omega) (by omega) (fun k z1 z2 => by omega) (lv_sub hl [0, 1, 2, 3] rfl)
abbrev c_E_wayBetween : ByteArray := prog_1_method_42_code
def y_E_wayBetween : MethodName := ⟨"EarthHauls", "wayBetween", "(II)I"⟩
abbrev k_E_wayBetween : Cond := .code y_E_wayBetween c_E_wayBetween 5 (some .int)
theorem kin_E_wayBetween : k_E_wayBetween ∈ ew_t := tb_240
theorem dv_E_wayBetween : eh_dV y_E_wayBetween "EarthHauls" 2 := ⟨rfl, by decide, by decide, by decide +kernel⟩
theorem d_E_wayBetween_0 : decode c_E_wayBetween 0 = .ok (.iload_n 1, 1) := by decide +kernel
theorem d_E_wayBetween_1 : decode c_E_wayBetween 1 = .ok (.iload_n 2, 1) := by decide +kernel
theorem d_E_wayBetween_2 : decode c_E_wayBetween 2 = .ok (.if_icmp .ne 5, 3) := by decide +kernel
theorem d_E_wayBetween_5 : decode c_E_wayBetween 5 = .ok (.iconst 0, 1) := by decide +kernel
theorem d_E_wayBetween_6 : decode c_E_wayBetween 6 = .ok (.ireturn, 1) := by decide +kernel
theorem d_E_wayBetween_7 : decode c_E_wayBetween 7 = .ok (.aload_n 0, 1) := by decide +kernel
theorem d_E_wayBetween_8 : decode c_E_wayBetween 8 = .ok (.getfield 15, 3) := by decide +kernel
theorem d_E_wayBetween_11 : decode c_E_wayBetween 11 = .ok (.iload_n 1, 1) := by decide +kernel
theorem d_E_wayBetween_12 : decode c_E_wayBetween 12 = .ok (.iaload, 1) := by decide +kernel
theorem d_E_wayBetween_13 : decode c_E_wayBetween 13 = .ok (.aload_n 0, 1) := by decide +kernel
theorem d_E_wayBetween_14 : decode c_E_wayBetween 14 = .ok (.getfield 15, 3) := by decide +kernel
theorem d_E_wayBetween_17 : decode c_E_wayBetween 17 = .ok (.iload_n 2, 1) := by decide +kernel
theorem d_E_wayBetween_18 : decode c_E_wayBetween 18 = .ok (.iaload, 1) := by decide +kernel
theorem d_E_wayBetween_19 : decode c_E_wayBetween 19 = .ok (.iadd, 1) := by decide +kernel
theorem d_E_wayBetween_20 : decode c_E_wayBetween 20 = .ok (.istore_n 3, 1) := by decide +kernel
theorem d_E_wayBetween_21 : decode c_E_wayBetween 21 = .ok (.iload_n 1, 1) := by decide +kernel
theorem d_E_wayBetween_22 : decode c_E_wayBetween 22 = .ok (.iload_n 2, 1) := by decide +kernel
theorem d_E_wayBetween_23 : decode c_E_wayBetween 23 = .ok (.invokestatic 222, 3) := by decide +kernel
theorem d_E_wayBetween_26 : decode c_E_wayBetween 26 = .ok (.iconst 1, 1) := by decide +kernel
theorem d_E_wayBetween_27 : decode c_E_wayBetween 27 = .ok (.iadd, 1) := by decide +kernel
theorem d_E_wayBetween_28 : decode c_E_wayBetween 28 = .ok (.istore 4, 2) := by decide +kernel
theorem d_E_wayBetween_30 : decode c_E_wayBetween 30 = .ok (.iload 4, 2) := by decide +kernel
theorem d_E_wayBetween_32 : decode c_E_wayBetween 32 = .ok (.iload_n 1, 1) := by decide +kernel
theorem d_E_wayBetween_33 : decode c_E_wayBetween 33 = .ok (.iload_n 2, 1) := by decide +kernel
theorem d_E_wayBetween_34 : decode c_E_wayBetween 34 = .ok (.invokestatic 227, 3) := by decide +kernel
theorem d_E_wayBetween_37 : decode c_E_wayBetween 37 = .ok (.if_icmp .ge 21, 3) := by decide +kernel
theorem d_E_wayBetween_40 : decode c_E_wayBetween 40 = .ok (.iload_n 3, 1) := by decide +kernel
theorem d_E_wayBetween_41 : decode c_E_wayBetween 41 = .ok (.iconst 2, 1) := by decide +kernel
theorem d_E_wayBetween_42 : decode c_E_wayBetween 42 = .ok (.aload_n 0, 1) := by decide +kernel
theorem d_E_wayBetween_43 : decode c_E_wayBetween 43 = .ok (.getfield 15, 3) := by decide +kernel
theorem d_E_wayBetween_46 : decode c_E_wayBetween 46 = .ok (.iload 4, 2) := by decide +kernel
theorem d_E_wayBetween_48 : decode c_E_wayBetween 48 = .ok (.iaload, 1) := by decide +kernel
theorem d_E_wayBetween_49 : decode c_E_wayBetween 49 = .ok (.imul, 1) := by decide +kernel
theorem d_E_wayBetween_50 : decode c_E_wayBetween 50 = .ok (.iadd, 1) := by decide +kernel
theorem d_E_wayBetween_51 : decode c_E_wayBetween 51 = .ok (.istore_n 3, 1) := by decide +kernel
theorem d_E_wayBetween_52 : decode c_E_wayBetween 52 = .ok (.iinc 4 1, 3) := by decide +kernel
theorem d_E_wayBetween_55 : decode c_E_wayBetween 55 = .ok (.goto (-25), 3) := by decide +kernel
theorem d_E_wayBetween_58 : decode c_E_wayBetween 58 = .ok (.iload_n 3, 1) := by decide +kernel
theorem d_E_wayBetween_59 : decode c_E_wayBetween 59 = .ok (.ireturn, 1) := by decide +kernel
set_option maxHeartbeats 4000000 in
set_option maxRecDepth 100000 in
theorem r_E_wayBetween (l : Launch) (D : va_G) (cI cL cZ cS cY : ClassId) (ad : Nat → Nat) (n : Nat) (sh ra plv pco : Int) (ln cb la : Nat → Int) (cu cl fu fl : Nat → Nat) (ys yl yp : Nat → Int) (f g : Nat) (hf : f < 4) (hg : g < 4) (hE : eh_ES n sh ra ln cb la cu cl fu fl ys yl yp) : eh_R l y_E_wayBetween k_E_wayBetween 1 26 D classes [(cI, .int), (cL, .long), (cZ, .boolean), (cS, .object "EarthHauls$Section"), (cY, .object "EarthHauls$Yard")] [.ref (ad 0), .int (eI ((f : Nat) : Int)), .int (eI ((g : Nat) : Int))] [((ad 0), .inr (4, [.ref (ad 1), .ref (ad 2), .ref (ad 3), .ref (ad 4), .ref (ad 5), .ref (ad 24), .int (eI ((n : Nat) : Int)), .int (eI sh), .int (eI ra), .int (eI plv), .long (eL pco)])), ((ad 1), .inl (cS, 5, .inr (.inr (.inr (.inr (eh_o5 (ad 6) (ad 7) (ad 8) (ad 9) (ad 10))))))), ((ad 2), aI cI 4 ln), ((ad 3), aI cZ 3 cb), ((ad 4), .inl (cY, 3, .inr (.inr (.inr (.inr (eh_o3 (ad 21) (ad 22) (ad 23))))))), ((ad 5), aI cI 30 la), ((ad 6), .inr (2, [.ref (ad 11), .ref (ad 16)])), ((ad 7), .inr (2, [.ref (ad 12), .ref (ad 17)])), ((ad 8), .inr (2, [.ref (ad 13), .ref (ad 18)])), ((ad 9), .inr (2, [.ref (ad 14), .ref (ad 19)])), ((ad 10), .inr (2, [.ref (ad 15), .ref (ad 20)])), ((ad 11), .inr (0, [.long (eL ((cu 0 : Nat) : Int)), .long (eL ((cl 0 : Nat) : Int))])), ((ad 12), .inr (0, [.long (eL ((cu 1 : Nat) : Int)), .long (eL ((cl 1 : Nat) : Int))])), ((ad 13), .inr (0, [.long (eL ((cu 2 : Nat) : Int)), .long (eL ((cl 2 : Nat) : Int))])), ((ad 14), .inr (0, [.long (eL ((cu 3 : Nat) : Int)), .long (eL ((cl 3 : Nat) : Int))])), ((ad 15), .inr (0, [.long (eL ((cu 4 : Nat) : Int)), .long (eL ((cl 4 : Nat) : Int))])), ((ad 16), .inr (0, [.long (eL ((fu 0 : Nat) : Int)), .long (eL ((fl 0 : Nat) : Int))])), ((ad 17), .inr (0, [.long (eL ((fu 1 : Nat) : Int)), .long (eL ((fl 1 : Nat) : Int))])), ((ad 18), .inr (0, [.long (eL ((fu 2 : Nat) : Int)), .long (eL ((fl 2 : Nat) : Int))])), ((ad 19), .inr (0, [.long (eL ((fu 3 : Nat) : Int)), .long (eL ((fl 3 : Nat) : Int))])), ((ad 20), .inr (0, [.long (eL ((fu 4 : Nat) : Int)), .long (eL ((fl 4 : Nat) : Int))])), ((ad 21), .inr (3, [.int (eI (ys 0)), .int (eI (yl 0)), .int (eI (yp 0))])), ((ad 22), .inr (3, [.int (eI (ys 1)), .int (eI (yl 1)), .int (eI (yp 1))])), ((ad 23), .inr (3, [.int (eI (ys 2)), .int (eI (yl 2)), .int (eI (yp 2))]))] (.int (eI (eh_wy2 ln (min f g) (max f g - min f g)))) := by
  refine Met.ofW (cc := c_E_wayBetween) (maxL := 5) (ret := (some .int)) (by decide) rfl ?_
  intro p e s m args below meth c s₁ B hml hv
  obtain ⟨hargs, hP, hK, hN⟩ := hv
  have hx := B.exec
  have hb := B.bytes
  have hrt := B.returns
  have hts := atoms_spec (ws := k_E_wayBetween :: ew_t) B.pre
  have htb : ∀ w ∈ ew_t, w.before args s = true := fun w h => hts w (List.mem_cons_of_mem _ h)
  have hown : s.vm.findClass "EarthHauls" = some m.cls := findClass_of_methodNamed B.named
  have hlocks := B.notSynchronized
  have hE : entryFrame m args 5 = entryFrame m ([.ref (ad 0), .int (eI ((f : Nat) : Int)), .int (eI ((g : Nat) : Int))] : List Value).toArray 5 := by rw [hargs]
  rw [hE]
  clear hE hts B hargs
  generalize hRe : (headSpec _ _).room = R
  have hR1 : R.frames = 1 := by rw [← hRe]; rfl
  have hR2 : R.locals = 26 := by rw [← hRe]; rfl
  clear hRe
  generalize hQ : MQ below _ _ s 0 0 _ = Q
  have hP : va_P D classes [((ad 0), .inr (4, [.ref (ad 1), .ref (ad 2), .ref (ad 3), .ref (ad 4), .ref (ad 5), .ref (ad 24), .int (eI ((n : Nat) : Int)), .int (eI sh), .int (eI ra), .int (eI plv), .long (eL pco)])), ((ad 1), .inl (cS, 5, .inr (.inr (.inr (.inr (eh_o5 (ad 6) (ad 7) (ad 8) (ad 9) (ad 10))))))), ((ad 2), aI cI 4 ln), ((ad 3), aI cZ 3 cb), ((ad 4), .inl (cY, 3, .inr (.inr (.inr (.inr (eh_o3 (ad 21) (ad 22) (ad 23))))))), ((ad 5), aI cI 30 la), ((ad 6), .inr (2, [.ref (ad 11), .ref (ad 16)])), ((ad 7), .inr (2, [.ref (ad 12), .ref (ad 17)])), ((ad 8), .inr (2, [.ref (ad 13), .ref (ad 18)])), ((ad 9), .inr (2, [.ref (ad 14), .ref (ad 19)])), ((ad 10), .inr (2, [.ref (ad 15), .ref (ad 20)])), ((ad 11), .inr (0, [.long (eL ((cu 0 : Nat) : Int)), .long (eL ((cl 0 : Nat) : Int))])), ((ad 12), .inr (0, [.long (eL ((cu 1 : Nat) : Int)), .long (eL ((cl 1 : Nat) : Int))])), ((ad 13), .inr (0, [.long (eL ((cu 2 : Nat) : Int)), .long (eL ((cl 2 : Nat) : Int))])), ((ad 14), .inr (0, [.long (eL ((cu 3 : Nat) : Int)), .long (eL ((cl 3 : Nat) : Int))])), ((ad 15), .inr (0, [.long (eL ((cu 4 : Nat) : Int)), .long (eL ((cl 4 : Nat) : Int))])), ((ad 16), .inr (0, [.long (eL ((fu 0 : Nat) : Int)), .long (eL ((fl 0 : Nat) : Int))])), ((ad 17), .inr (0, [.long (eL ((fu 1 : Nat) : Int)), .long (eL ((fl 1 : Nat) : Int))])), ((ad 18), .inr (0, [.long (eL ((fu 2 : Nat) : Int)), .long (eL ((fl 2 : Nat) : Int))])), ((ad 19), .inr (0, [.long (eL ((fu 3 : Nat) : Int)), .long (eL ((fl 3 : Nat) : Int))])), ((ad 20), .inr (0, [.long (eL ((fu 4 : Nat) : Int)), .long (eL ((fl 4 : Nat) : Int))])), ((ad 21), .inr (3, [.int (eI (ys 0)), .int (eI (yl 0)), .int (eI (yp 0))])), ((ad 22), .inr (3, [.int (eI (ys 1)), .int (eI (yl 1)), .int (eI (yp 1))])), ((ad 23), .inr (3, [.int (eI (ys 2)), .int (eI (yl 2)), .int (eI (yp 2))]))] s.heap := hP
  have hl := lv_entry ([.ref (ad 0), .int (eI ((f : Nat) : Int)), .int (eI ((g : Nat) : Int))]) (n := 5) (Nat.le_of_ble_eq_true rfl)
  rw [lg_entry_eq]
  generalize (lg_sl ([.ref (ad 0), .int (eI ((f : Nat) : Int)), .int (eI ((g : Nat) : Int))]) ++ List.replicate (5 - (lg_sl ([.ref (ad 0), .int (eI ((f : Nat) : Int)), .int (eI ((g : Nat) : Int))])).length) Slot.unset).toArray = ls at hl ⊢
  have hl : lv_has ls 5 [(0, .ref (ad 0)), (1, .int (eI ((f : Nat) : Int))), (2, .int (eI ((g : Nat) : Int)))] := hl
  have hn5 := hE.1
  obtain ⟨lo9, hlo⟩ : ∃ q : Nat, q = min f g := ⟨_, rfl⟩
  obtain ⟨hi9, hhi⟩ : ∃ q : Nat, q = max f g := ⟨_, rfl⟩
  refine lv_iload_n hx hb d_E_wayBetween_0 rfl (lv_at hl 1 rfl) ?_
  refine lv_iload_n hx hb d_E_wayBetween_1 rfl (lv_at hl 2 rfl) ?_
  refine we_icmp_ne (tgt := 7) hx hb (by constructor <;> omega) (by constructor <;> omega) d_E_wayBetween_2 rfl (fun hc2 => ?_) (fun hc2 => ?_)
  ·
    refine lv_aload_n hx hb d_E_wayBetween_7 rfl (lv_at hl 0 rfl) ?_
    refine va_get (D := D) (ci := 4) (v := .ref (ad 2)) (C := R_E) (T := T_E) (N := 11) hx hb htb in_E hown hK hP 0 rfl rfl 1 (by decide) (htb _ tb_125) (fun _ h9 => h9) rfl d_E_wayBetween_8 ?_
    refine lv_iload_n hx hb d_E_wayBetween_11 rfl (lv_at hl 1 rfl) ?_
    refine we_iald hx hb hK hP 2 0 rfl rfl f rfl (by omega) (by decide) d_E_wayBetween_12 ?_
    refine lv_aload_n hx hb d_E_wayBetween_13 rfl (lv_at hl 0 rfl) ?_
    refine va_get (D := D) (ci := 4) (v := .ref (ad 2)) (C := R_E) (T := T_E) (N := 11) hx hb htb in_E hown hK hP 0 rfl rfl 1 (by decide) (htb _ tb_125) (fun _ h9 => h9) rfl d_E_wayBetween_14 ?_
    refine lv_iload_n hx hb d_E_wayBetween_17 rfl (lv_at hl 2 rfl) ?_
    refine we_iald hx hb hK hP 2 0 rfl rfl g rfl (by omega) (by decide) d_E_wayBetween_18 ?_
    refine we_iadd hx hb d_E_wayBetween_19 ?_
    refine lv_istore_n hx hb d_E_wayBetween_20 rfl hl (by decide) rfl (fun ls hl => ?_)
    have hl : lv_has ls 5 [(3, .int (eI ((ln f) + (ln g)))), (0, .ref (ad 0)), (1, .int (eI ((f : Nat) : Int))), (2, .int (eI ((g : Nat) : Int)))] := hl
    refine lv_iload_n hx hb d_E_wayBetween_21 rfl (lv_at hl 2 rfl) ?_
    refine lv_iload_n hx hb d_E_wayBetween_22 rfl (lv_at hl 3 rfl) ?_
    refine we_min hx hb hml hl.1 hown (htb _ tb_231) (htb _ tb_232) (htb _ tb_13) (htb _ tb_233) (by rw [hR1]; decide) (by rw [hR2]; exact Nat.le_of_ble_eq_true rfl) (Nat.zero_le _) (Nat.zero_le _) (by constructor <;> omega) (by constructor <;> omega) d_E_wayBetween_23 ?_
    refine lv_iconst (v := eI 1) hx hb d_E_wayBetween_26 rfl ?_
    refine we_iadd hx hb d_E_wayBetween_27 ?_
    refine lv_istore hx hb d_E_wayBetween_28 hl (by decide) rfl (fun ls hl => ?_)
    have hl : lv_has ls 5 [(4, .int (eI ((min ((f : Nat) : Int) ((g : Nat) : Int)) + 1))), (3, .int (eI ((ln f) + (ln g)))), (0, .ref (ad 0)), (1, .int (eI ((f : Nat) : Int))), (2, .int (eI ((g : Nat) : Int)))] := hl
    have loop : ∀ (q i : Nat) (wv : Int) (ls : Array Slot), hi9 - i = q → lo9 + 1 ≤ i → i ≤ hi9 → wv = ln lo9 + ln hi9 + 2 * eh_sm (fun k => ln (lo9 + 1 + k)) (i - (lo9 + 1)) → lv_has ls 5 [(4, .int (eI ((i : Nat) : Int))), (3, .int (eI wv)), (0, .ref (ad 0)), (1, .int (eI ((f : Nat) : Int))), (2, .int (eI ((g : Nat) : Int)))] → W p l e R s m args below meth c s.heap [] 0 0 Q (F0 m 30 ls []) := by
      intro q
      induction q with
      | zero =>
        intro i wv ls hq h1 h2 hwv hl
        refine lv_iload hx hb d_E_wayBetween_30 (lv_at hl 0 rfl) ?_
        refine lv_iload_n hx hb d_E_wayBetween_32 rfl (lv_at hl 3 rfl) ?_
        refine lv_iload_n hx hb d_E_wayBetween_33 rfl (lv_at hl 4 rfl) ?_
        refine we_max hx hb hml hl.1 hown (htb _ tb_234) (htb _ tb_235) (htb _ tb_13) (htb _ tb_236) (by rw [hR1]; decide) (by rw [hR2]; exact Nat.le_of_ble_eq_true rfl) (Nat.zero_le _) (Nat.zero_le _) (by constructor <;> omega) (by constructor <;> omega) d_E_wayBetween_34 ?_
        refine we_icmp_ge (tgt := 58) hx hb (by constructor <;> omega) (by constructor <;> omega) d_E_wayBetween_37 rfl (fun hc37 => ?_) (fun hc37 => absurd hc37 (by omega))
        refine lv_iload_n hx hb d_E_wayBetween_58 rfl (lv_at hl 1 rfl) ?_
        have hres : wv = (eh_wy2 ln (min f g) (max f g - min f g)) := by
          rw [← hlo, ← hhi, hwv, show hi9 - lo9 = (i - (lo9 + 1)) + 1 by omega, eh_wy2_e, show lo9 + (i - (lo9 + 1)) + 1 = hi9 by omega]
        rw [hres]
        subst hQ
        exact W.iret hx hb hrt (fun t9 ht hW => ⟨rfl, ht⟩) (fun q h => by cases h) d_E_wayBetween_59
      | succ q ih =>
        intro i wv ls hq h1 h2 hwv hl
        refine lv_iload hx hb d_E_wayBetween_30 (lv_at hl 0 rfl) ?_
        refine lv_iload_n hx hb d_E_wayBetween_32 rfl (lv_at hl 3 rfl) ?_
        refine lv_iload_n hx hb d_E_wayBetween_33 rfl (lv_at hl 4 rfl) ?_
        refine we_max hx hb hml hl.1 hown (htb _ tb_234) (htb _ tb_235) (htb _ tb_13) (htb _ tb_236) (by rw [hR1]; decide) (by rw [hR2]; exact Nat.le_of_ble_eq_true rfl) (Nat.zero_le _) (Nat.zero_le _) (by constructor <;> omega) (by constructor <;> omega) d_E_wayBetween_34 ?_
        refine we_icmp_ge (tgt := 58) hx hb (by constructor <;> omega) (by constructor <;> omega) d_E_wayBetween_37 rfl (fun hc37 => absurd hc37 (by omega)) (fun hc37 => ?_)
        refine lv_iload_n hx hb d_E_wayBetween_40 rfl (lv_at hl 1 rfl) ?_
        refine lv_iconst (v := eI 2) hx hb d_E_wayBetween_41 rfl ?_
        refine lv_aload_n hx hb d_E_wayBetween_42 rfl (lv_at hl 2 rfl) ?_
        refine va_get (D := D) (ci := 4) (v := .ref (ad 2)) (C := R_E) (T := T_E) (N := 11) hx hb htb in_E hown hK hP 0 rfl rfl 1 (by decide) (htb _ tb_125) (fun _ h9 => h9) rfl d_E_wayBetween_43 ?_
        refine lv_iload hx hb d_E_wayBetween_46 (lv_at hl 0 rfl) ?_
        refine we_iald hx hb hK hP 2 0 rfl rfl i rfl (by omega) (by decide) d_E_wayBetween_48 ?_
        refine we_imul hx hb d_E_wayBetween_49 ?_
        refine we_iadd hx hb d_E_wayBetween_50 ?_
        refine lv_istore_n hx hb d_E_wayBetween_51 rfl hl (by decide) rfl (fun ls hl => ?_)
        have hl : lv_has ls 5 [(3, .int (eI (wv + (2 * (ln i))))), (4, .int (eI ((i : Nat) : Int))), (0, .ref (ad 0)), (1, .int (eI ((f : Nat) : Int))), (2, .int (eI ((g : Nat) : Int)))] := hl
        refine lv_iinc (v := eI (((i : Nat) : Int) + 1)) hx hb d_E_wayBetween_52 hl (k := 1) rfl (eI_add _ _) (by decide) rfl (fun ls hl => ?_)
        have hl : lv_has ls 5 [(4, .int (eI (((i : Nat) : Int) + 1))), (3, .int (eI (wv + (2 * (ln i))))), (0, .ref (ad 0)), (1, .int (eI ((f : Nat) : Int))), (2, .int (eI ((g : Nat) : Int)))] := hl
        refine lv_goto (tgt := 30) hx hb d_E_wayBetween_55 rfl ?_
        exact ih (i + 1) _ ls (by omega) (by omega) (by omega) (by
          rw [hwv, show i + 1 - (lo9 + 1) = (i - (lo9 + 1)) + 1 by omega]
          show _ = ln lo9 + ln hi9 + 2 * (eh_sm (fun k => ln (lo9 + 1 + k)) (i - (lo9 + 1)) + ln (lo9 + 1 + (i - (lo9 + 1))))
          rw [show lo9 + 1 + (i - (lo9 + 1)) = i by omega]
          omega) (lv_sub hl [0, 1, 2, 3, 4] rfl)
    rw [show (min ((f : Nat) : Int) ((g : Nat) : Int) + 1) = ((lo9 + 1 : Nat) : Int) by omega] at hl
    have hfg : f < g ∨ g < f := by omega
    exact loop (hi9 - (lo9 + 1)) (lo9 + 1) _ ls rfl (by omega) (by omega) (by
      rw [Nat.sub_self]
      show _ = ln lo9 + ln hi9 + 2 * 0
      rcases hfg with z | z
      · rw [show lo9 = f by omega, show hi9 = g by omega]; omega
      · rw [show lo9 = g by omega, show hi9 = f by omega]; omega) (lv_sub hl [0, 1, 2, 3, 4] rfl)
  ·
    refine lv_iconst (v := eI 0) hx hb d_E_wayBetween_5 rfl ?_
    have hres : (0 : Int) = (eh_wy2 ln (min f g) (max f g - min f g)) := by
      rw [show max f g - min f g = 0 by omega]
      rfl
    rw [hres]
    subst hQ
    exact W.iret hx hb hrt (fun t9 ht hW => ⟨rfl, ht⟩) (fun q h => by cases h) d_E_wayBetween_6
abbrev c_E_unitCost : ByteArray := prog_1_method_40_code
def y_E_unitCost : MethodName := ⟨"EarthHauls", "unitCost", "(II)I"⟩
abbrev k_E_unitCost : Cond := .code y_E_unitCost c_E_unitCost 8 (some .int)
theorem kin_E_unitCost : k_E_unitCost ∈ ew_t := tb_210
theorem dv_E_unitCost : eh_dV y_E_unitCost "EarthHauls" 2 := ⟨rfl, by decide, by decide, by decide +kernel⟩
theorem d_E_unitCost_0 : decode c_E_unitCost 0 = .ok (.iload_n 1, 1) := by decide +kernel
theorem d_E_unitCost_1 : decode c_E_unitCost 1 = .ok (.iconst 4, 1) := by decide +kernel
theorem d_E_unitCost_2 : decode c_E_unitCost 2 = .ok (.if_icmp .lt 7, 3) := by decide +kernel
theorem d_E_unitCost_5 : decode c_E_unitCost 5 = .ok (.iconst 1, 1) := by decide +kernel
theorem d_E_unitCost_6 : decode c_E_unitCost 6 = .ok (.goto 4, 3) := by decide +kernel
theorem d_E_unitCost_9 : decode c_E_unitCost 9 = .ok (.iconst 0, 1) := by decide +kernel
theorem d_E_unitCost_10 : decode c_E_unitCost 10 = .ok (.istore_n 3, 1) := by decide +kernel
theorem d_E_unitCost_11 : decode c_E_unitCost 11 = .ok (.iload_n 2, 1) := by decide +kernel
theorem d_E_unitCost_12 : decode c_E_unitCost 12 = .ok (.iconst 4, 1) := by decide +kernel
theorem d_E_unitCost_13 : decode c_E_unitCost 13 = .ok (.if_icmp .ne 7, 3) := by decide +kernel
theorem d_E_unitCost_16 : decode c_E_unitCost 16 = .ok (.iconst 1, 1) := by decide +kernel
theorem d_E_unitCost_17 : decode c_E_unitCost 17 = .ok (.goto 4, 3) := by decide +kernel
theorem d_E_unitCost_20 : decode c_E_unitCost 20 = .ok (.iconst 0, 1) := by decide +kernel
theorem d_E_unitCost_21 : decode c_E_unitCost 21 = .ok (.istore 4, 2) := by decide +kernel
theorem d_E_unitCost_23 : decode c_E_unitCost 23 = .ok (.aload_n 0, 1) := by decide +kernel
theorem d_E_unitCost_24 : decode c_E_unitCost 24 = .ok (.iload_n 1, 1) := by decide +kernel
theorem d_E_unitCost_25 : decode c_E_unitCost 25 = .ok (.invokevirtual 207, 3) := by decide +kernel
theorem d_E_unitCost_28 : decode c_E_unitCost 28 = .ok (.istore 5, 2) := by decide +kernel
theorem d_E_unitCost_30 : decode c_E_unitCost 30 = .ok (.aload_n 0, 1) := by decide +kernel
theorem d_E_unitCost_31 : decode c_E_unitCost 31 = .ok (.iload_n 2, 1) := by decide +kernel
theorem d_E_unitCost_32 : decode c_E_unitCost 32 = .ok (.invokevirtual 210, 3) := by decide +kernel
theorem d_E_unitCost_35 : decode c_E_unitCost 35 = .ok (.istore 6, 2) := by decide +kernel
theorem d_E_unitCost_37 : decode c_E_unitCost 37 = .ok (.iload_n 3, 1) := by decide +kernel
theorem d_E_unitCost_38 : decode c_E_unitCost 38 = .ok (.ifCond .eq 8, 3) := by decide +kernel
theorem d_E_unitCost_41 : decode c_E_unitCost 41 = .ok (.iload 4, 2) := by decide +kernel
theorem d_E_unitCost_43 : decode c_E_unitCost 43 = .ok (.ifCond .ne 26, 3) := by decide +kernel
theorem d_E_unitCost_46 : decode c_E_unitCost 46 = .ok (.iload 5, 2) := by decide +kernel
theorem d_E_unitCost_48 : decode c_E_unitCost 48 = .ok (.iconst (-1), 1) := by decide +kernel
theorem d_E_unitCost_49 : decode c_E_unitCost 49 = .ok (.if_icmp .eq 20, 3) := by decide +kernel
theorem d_E_unitCost_52 : decode c_E_unitCost 52 = .ok (.iload 6, 2) := by decide +kernel
theorem d_E_unitCost_54 : decode c_E_unitCost 54 = .ok (.iconst (-1), 1) := by decide +kernel
theorem d_E_unitCost_55 : decode c_E_unitCost 55 = .ok (.if_icmp .eq 14, 3) := by decide +kernel
theorem d_E_unitCost_58 : decode c_E_unitCost 58 = .ok (.aload_n 0, 1) := by decide +kernel
theorem d_E_unitCost_59 : decode c_E_unitCost 59 = .ok (.iload 5, 2) := by decide +kernel
theorem d_E_unitCost_61 : decode c_E_unitCost 61 = .ok (.iload 6, 2) := by decide +kernel
theorem d_E_unitCost_63 : decode c_E_unitCost 63 = .ok (.invokevirtual 213, 3) := by decide +kernel
theorem d_E_unitCost_66 : decode c_E_unitCost 66 = .ok (.ifCond .ne 5, 3) := by decide +kernel
theorem d_E_unitCost_69 : decode c_E_unitCost 69 = .ok (.iconst (-1), 1) := by decide +kernel
theorem d_E_unitCost_70 : decode c_E_unitCost 70 = .ok (.ireturn, 1) := by decide +kernel
theorem d_E_unitCost_71 : decode c_E_unitCost 71 = .ok (.iload_n 3, 1) := by decide +kernel
theorem d_E_unitCost_72 : decode c_E_unitCost 72 = .ok (.ifCond .eq 17, 3) := by decide +kernel
theorem d_E_unitCost_75 : decode c_E_unitCost 75 = .ok (.aload_n 0, 1) := by decide +kernel
theorem d_E_unitCost_76 : decode c_E_unitCost 76 = .ok (.getfield 25, 3) := by decide +kernel
theorem d_E_unitCost_79 : decode c_E_unitCost 79 = .ok (.iload_n 1, 1) := by decide +kernel
theorem d_E_unitCost_80 : decode c_E_unitCost 80 = .ok (.iconst 4, 1) := by decide +kernel
theorem d_E_unitCost_81 : decode c_E_unitCost 81 = .ok (.isub, 1) := by decide +kernel
theorem d_E_unitCost_82 : decode c_E_unitCost 82 = .ok (.aaload, 1) := by decide +kernel
theorem d_E_unitCost_83 : decode c_E_unitCost 83 = .ok (.getfield 216, 3) := by decide +kernel
theorem d_E_unitCost_86 : decode c_E_unitCost 86 = .ok (.goto 21, 3) := by decide +kernel
theorem d_E_unitCost_89 : decode c_E_unitCost 89 = .ok (.iload 4, 2) := by decide +kernel
theorem d_E_unitCost_91 : decode c_E_unitCost 91 = .ok (.ifCond .eq 15, 3) := by decide +kernel
theorem d_E_unitCost_94 : decode c_E_unitCost 94 = .ok (.aload_n 0, 1) := by decide +kernel
theorem d_E_unitCost_95 : decode c_E_unitCost 95 = .ok (.getfield 25, 3) := by decide +kernel
theorem d_E_unitCost_98 : decode c_E_unitCost 98 = .ok (.iconst 2, 1) := by decide +kernel
theorem d_E_unitCost_99 : decode c_E_unitCost 99 = .ok (.aaload, 1) := by decide +kernel
theorem d_E_unitCost_100 : decode c_E_unitCost 100 = .ok (.getfield 216, 3) := by decide +kernel
theorem d_E_unitCost_103 : decode c_E_unitCost 103 = .ok (.goto 4, 3) := by decide +kernel
theorem d_E_unitCost_106 : decode c_E_unitCost 106 = .ok (.iconst 0, 1) := by decide +kernel
theorem d_E_unitCost_107 : decode c_E_unitCost 107 = .ok (.istore 7, 2) := by decide +kernel
theorem d_E_unitCost_109 : decode c_E_unitCost 109 = .ok (.aload_n 0, 1) := by decide +kernel
theorem d_E_unitCost_110 : decode c_E_unitCost 110 = .ok (.getfield 75, 3) := by decide +kernel
theorem d_E_unitCost_113 : decode c_E_unitCost 113 = .ok (.aload_n 0, 1) := by decide +kernel
theorem d_E_unitCost_114 : decode c_E_unitCost 114 = .ok (.iload 5, 2) := by decide +kernel
theorem d_E_unitCost_116 : decode c_E_unitCost 116 = .ok (.iload 6, 2) := by decide +kernel
theorem d_E_unitCost_118 : decode c_E_unitCost 118 = .ok (.invokevirtual 219, 3) := by decide +kernel
theorem d_E_unitCost_121 : decode c_E_unitCost 121 = .ok (.imul, 1) := by decide +kernel
theorem d_E_unitCost_122 : decode c_E_unitCost 122 = .ok (.iload 7, 2) := by decide +kernel
theorem d_E_unitCost_124 : decode c_E_unitCost 124 = .ok (.iadd, 1) := by decide +kernel
theorem d_E_unitCost_125 : decode c_E_unitCost 125 = .ok (.ireturn, 1) := by decide +kernel
set_option maxHeartbeats 4000000 in
set_option maxRecDepth 100000 in
theorem r_E_unitCost (l : Launch) (D : va_G) (cI cL cZ cS cY : ClassId) (ad : Nat → Nat) (n : Nat) (sh ra plv pco : Int) (ln cb la : Nat → Int) (cu cl fu fl : Nat → Nat) (ys yl yp : Nat → Int) (so si : Nat) (hso6 : so < 6) (hsi : si < 5) (hE : eh_ES n sh ra ln cb la cu cl fu fl ys yl yp) : eh_R l y_E_unitCost k_E_unitCost 3 62 D classes [(cI, .int), (cL, .long), (cZ, .boolean), (cS, .object "EarthHauls$Section"), (cY, .object "EarthHauls$Yard")] [.ref (ad 0), .int (eI ((so : Nat) : Int)), .int (eI ((si : Nat) : Int))] [((ad 0), .inr (4, [.ref (ad 1), .ref (ad 2), .ref (ad 3), .ref (ad 4), .ref (ad 5), .ref (ad 24), .int (eI ((n : Nat) : Int)), .int (eI sh), .int (eI ra), .int (eI plv), .long (eL pco)])), ((ad 1), .inl (cS, 5, .inr (.inr (.inr (.inr (eh_o5 (ad 6) (ad 7) (ad 8) (ad 9) (ad 10))))))), ((ad 2), aI cI 4 ln), ((ad 3), aI cZ 3 cb), ((ad 4), .inl (cY, 3, .inr (.inr (.inr (.inr (eh_o3 (ad 21) (ad 22) (ad 23))))))), ((ad 5), aI cI 30 la), ((ad 6), .inr (2, [.ref (ad 11), .ref (ad 16)])), ((ad 7), .inr (2, [.ref (ad 12), .ref (ad 17)])), ((ad 8), .inr (2, [.ref (ad 13), .ref (ad 18)])), ((ad 9), .inr (2, [.ref (ad 14), .ref (ad 19)])), ((ad 10), .inr (2, [.ref (ad 15), .ref (ad 20)])), ((ad 11), .inr (0, [.long (eL ((cu 0 : Nat) : Int)), .long (eL ((cl 0 : Nat) : Int))])), ((ad 12), .inr (0, [.long (eL ((cu 1 : Nat) : Int)), .long (eL ((cl 1 : Nat) : Int))])), ((ad 13), .inr (0, [.long (eL ((cu 2 : Nat) : Int)), .long (eL ((cl 2 : Nat) : Int))])), ((ad 14), .inr (0, [.long (eL ((cu 3 : Nat) : Int)), .long (eL ((cl 3 : Nat) : Int))])), ((ad 15), .inr (0, [.long (eL ((cu 4 : Nat) : Int)), .long (eL ((cl 4 : Nat) : Int))])), ((ad 16), .inr (0, [.long (eL ((fu 0 : Nat) : Int)), .long (eL ((fl 0 : Nat) : Int))])), ((ad 17), .inr (0, [.long (eL ((fu 1 : Nat) : Int)), .long (eL ((fl 1 : Nat) : Int))])), ((ad 18), .inr (0, [.long (eL ((fu 2 : Nat) : Int)), .long (eL ((fl 2 : Nat) : Int))])), ((ad 19), .inr (0, [.long (eL ((fu 3 : Nat) : Int)), .long (eL ((fl 3 : Nat) : Int))])), ((ad 20), .inr (0, [.long (eL ((fu 4 : Nat) : Int)), .long (eL ((fl 4 : Nat) : Int))])), ((ad 21), .inr (3, [.int (eI (ys 0)), .int (eI (yl 0)), .int (eI (yp 0))])), ((ad 22), .inr (3, [.int (eI (ys 1)), .int (eI (yl 1)), .int (eI (yp 1))])), ((ad 23), .inr (3, [.int (eI (ys 2)), .int (eI (yl 2)), .int (eI (yp 2))]))] (.int (eI (eh_ku n ra ln cb ys yp so si))) := by
  refine Met.ofW (cc := c_E_unitCost) (maxL := 8) (ret := (some .int)) (by decide) rfl ?_
  intro p e s m args below meth c s₁ B hml hv
  obtain ⟨hargs, hP, hK, hN⟩ := hv
  have hx := B.exec
  have hb := B.bytes
  have hrt := B.returns
  have hts := atoms_spec (ws := k_E_unitCost :: ew_t) B.pre
  have htb : ∀ w ∈ ew_t, w.before args s = true := fun w h => hts w (List.mem_cons_of_mem _ h)
  have hown : s.vm.findClass "EarthHauls" = some m.cls := findClass_of_methodNamed B.named
  have hlocks := B.notSynchronized
  have hE : entryFrame m args 8 = entryFrame m ([.ref (ad 0), .int (eI ((so : Nat) : Int)), .int (eI ((si : Nat) : Int))] : List Value).toArray 8 := by rw [hargs]
  rw [hE]
  clear hE hts B hargs
  generalize hRe : (headSpec _ _).room = R
  have hR1 : R.frames = 3 := by rw [← hRe]; rfl
  have hR2 : R.locals = 62 := by rw [← hRe]; rfl
  clear hRe
  generalize hQ : MQ below _ _ s 0 0 _ = Q
  have hP : va_P D classes [((ad 0), .inr (4, [.ref (ad 1), .ref (ad 2), .ref (ad 3), .ref (ad 4), .ref (ad 5), .ref (ad 24), .int (eI ((n : Nat) : Int)), .int (eI sh), .int (eI ra), .int (eI plv), .long (eL pco)])), ((ad 1), .inl (cS, 5, .inr (.inr (.inr (.inr (eh_o5 (ad 6) (ad 7) (ad 8) (ad 9) (ad 10))))))), ((ad 2), aI cI 4 ln), ((ad 3), aI cZ 3 cb), ((ad 4), .inl (cY, 3, .inr (.inr (.inr (.inr (eh_o3 (ad 21) (ad 22) (ad 23))))))), ((ad 5), aI cI 30 la), ((ad 6), .inr (2, [.ref (ad 11), .ref (ad 16)])), ((ad 7), .inr (2, [.ref (ad 12), .ref (ad 17)])), ((ad 8), .inr (2, [.ref (ad 13), .ref (ad 18)])), ((ad 9), .inr (2, [.ref (ad 14), .ref (ad 19)])), ((ad 10), .inr (2, [.ref (ad 15), .ref (ad 20)])), ((ad 11), .inr (0, [.long (eL ((cu 0 : Nat) : Int)), .long (eL ((cl 0 : Nat) : Int))])), ((ad 12), .inr (0, [.long (eL ((cu 1 : Nat) : Int)), .long (eL ((cl 1 : Nat) : Int))])), ((ad 13), .inr (0, [.long (eL ((cu 2 : Nat) : Int)), .long (eL ((cl 2 : Nat) : Int))])), ((ad 14), .inr (0, [.long (eL ((cu 3 : Nat) : Int)), .long (eL ((cl 3 : Nat) : Int))])), ((ad 15), .inr (0, [.long (eL ((cu 4 : Nat) : Int)), .long (eL ((cl 4 : Nat) : Int))])), ((ad 16), .inr (0, [.long (eL ((fu 0 : Nat) : Int)), .long (eL ((fl 0 : Nat) : Int))])), ((ad 17), .inr (0, [.long (eL ((fu 1 : Nat) : Int)), .long (eL ((fl 1 : Nat) : Int))])), ((ad 18), .inr (0, [.long (eL ((fu 2 : Nat) : Int)), .long (eL ((fl 2 : Nat) : Int))])), ((ad 19), .inr (0, [.long (eL ((fu 3 : Nat) : Int)), .long (eL ((fl 3 : Nat) : Int))])), ((ad 20), .inr (0, [.long (eL ((fu 4 : Nat) : Int)), .long (eL ((fl 4 : Nat) : Int))])), ((ad 21), .inr (3, [.int (eI (ys 0)), .int (eI (yl 0)), .int (eI (yp 0))])), ((ad 22), .inr (3, [.int (eI (ys 1)), .int (eI (yl 1)), .int (eI (yp 1))])), ((ad 23), .inr (3, [.int (eI (ys 2)), .int (eI (yl 2)), .int (eI (yp 2))]))] s.heap := hP
  have hl := lv_entry ([.ref (ad 0), .int (eI ((so : Nat) : Int)), .int (eI ((si : Nat) : Int))]) (n := 8) (Nat.le_of_ble_eq_true rfl)
  rw [lg_entry_eq]
  generalize (lg_sl ([.ref (ad 0), .int (eI ((so : Nat) : Int)), .int (eI ((si : Nat) : Int))]) ++ List.replicate (8 - (lg_sl ([.ref (ad 0), .int (eI ((so : Nat) : Int)), .int (eI ((si : Nat) : Int))])).length) Slot.unset).toArray = ls at hl ⊢
  have hl : lv_has ls 8 [(0, .ref (ad 0)), (1, .int (eI ((so : Nat) : Int))), (2, .int (eI ((si : Nat) : Int)))] := hl
  have hn5 := hE.1
  rcases (show so < 4 ∨ so = 4 ∨ so = 5 by omega) with hs4 | rfl | rfl
  ·
    have hl : lv_has ls 8 [(0, .ref (ad 0)), (1, .int (eI ((so : Nat) : Int))), (2, .int (eI ((si : Nat) : Int)))] := hl
    have hso := eh_so_b hE (show so < 6 by omega)
    have hsi9 := eh_si_b hE hsi
    refine lv_iload_n hx hb d_E_unitCost_0 rfl (lv_at hl 1 rfl) ?_
    refine lv_iconst (v := eI 4) hx hb d_E_unitCost_1 rfl ?_
    refine we_icmp_lt (tgt := 9) hx hb (by constructor <;> omega) (by constructor <;> omega) d_E_unitCost_2 rfl (fun hc2 => ?_) (fun hc2 => absurd hc2 (by omega))
    refine lv_iconst (v := eI 0) hx hb d_E_unitCost_9 rfl ?_
    refine lv_istore_n hx hb d_E_unitCost_10 rfl hl (by decide) rfl (fun ls hl => ?_)
    have hl : lv_has ls 8 [(3, .int (eI 0)), (0, .ref (ad 0)), (1, .int (eI ((so : Nat) : Int))), (2, .int (eI ((si : Nat) : Int)))] := hl
    refine lv_iload_n hx hb d_E_unitCost_11 rfl (lv_at hl 3 rfl) ?_
    refine lv_iconst (v := eI 4) hx hb d_E_unitCost_12 rfl ?_
    refine we_icmp_ne (tgt := 20) hx hb (by constructor <;> omega) (by constructor <;> omega) d_E_unitCost_13 rfl (fun hc13 => ?_) (fun hc13 => ?_)
    ·
      refine lv_iconst (v := eI 0) hx hb d_E_unitCost_20 rfl ?_
      refine lv_istore hx hb d_E_unitCost_21 hl (by decide) rfl (fun ls hl => ?_)
      have hl : lv_has ls 8 [(4, .int (eI 0)), (3, .int (eI 0)), (0, .ref (ad 0)), (1, .int (eI ((so : Nat) : Int))), (2, .int (eI ((si : Nat) : Int)))] := hl
      refine lv_aload_n hx hb d_E_unitCost_23 rfl (lv_at hl 2 rfl) ?_
      refine lv_iload_n hx hb d_E_unitCost_24 rfl (lv_at hl 3 rfl) ?_
      refine eh_cRV (As := [.int (eI ((so : Nat) : Int))]) (rest := []) (v := .int (eI (eh_so n ys so))) (q := (R_E, T_E, 11)) hx hb hml hown htb hN (r_E_spanOfSource l D cI cL cZ cS cY ad n sh ra plv pco ln cb la cu cl fu fl ys yl yp so (by omega) hE) 1 ⟨tb_211, tb_213, ts_8, tb_1, kin_E_spanOfSource⟩ dv_E_spanOfSource ⟨by rw [hR1]; decide, by rw [hR2]; decide⟩ hK hP 0 rfl rfl [0, 1, 2, 3, 4, 5, 6, 7, 8, 9, 10, 11, 12, 13, 14, 15, 16, 17, 18, 19, 20, 21, 22, 23] rfl [0, 1, 2, 3, 4] rfl rfl rfl hl.1 (Nat.le_of_ble_eq_true rfl) d_E_unitCost_25 ⟨Nat.zero_le _, Nat.zero_le _⟩ ?_
      refine lv_istore hx hb d_E_unitCost_28 hl (by decide) rfl (fun ls hl => ?_)
      have hl : lv_has ls 8 [(5, .int (eI (eh_so n ys so))), (4, .int (eI 0)), (3, .int (eI 0)), (0, .ref (ad 0)), (1, .int (eI ((so : Nat) : Int))), (2, .int (eI ((si : Nat) : Int)))] := hl
      refine lv_aload_n hx hb d_E_unitCost_30 rfl (lv_at hl 3 rfl) ?_
      refine lv_iload_n hx hb d_E_unitCost_31 rfl (lv_at hl 5 rfl) ?_
      refine eh_cRV (As := [.int (eI ((si : Nat) : Int))]) (rest := []) (v := .int (eI (eh_si n ys si))) (q := (R_E, T_E, 11)) hx hb hml hown htb hN (r_E_spanOfSink l D cI cL cZ cS cY ad n sh ra plv pco ln cb la cu cl fu fl ys yl yp si hsi hE) 1 ⟨tb_223, tb_225, ts_11, tb_1, kin_E_spanOfSink⟩ dv_E_spanOfSink ⟨by rw [hR1]; decide, by rw [hR2]; decide⟩ hK hP 0 rfl rfl [0, 1, 2, 3, 4, 5, 6, 7, 8, 9, 10, 11, 12, 13, 14, 15, 16, 17, 18, 19, 20, 21, 22, 23] rfl [0, 1, 2, 3, 4] rfl rfl rfl hl.1 (Nat.le_of_ble_eq_true rfl) d_E_unitCost_32 ⟨Nat.zero_le _, Nat.zero_le _⟩ ?_
      refine lv_istore hx hb d_E_unitCost_35 hl (by decide) rfl (fun ls hl => ?_)
      have hl : lv_has ls 8 [(6, .int (eI (eh_si n ys si))), (5, .int (eI (eh_so n ys so))), (4, .int (eI 0)), (3, .int (eI 0)), (0, .ref (ad 0)), (1, .int (eI ((so : Nat) : Int))), (2, .int (eI ((si : Nat) : Int)))] := hl
      refine lv_iload_n hx hb d_E_unitCost_37 rfl (lv_at hl 3 rfl) ?_
      refine we_if_eq (tgt := 46) hx hb (by constructor <;> omega) d_E_unitCost_38 rfl (fun hc38 => ?_) (fun hc38 => absurd hc38 (by omega))
      refine lv_iload hx hb d_E_unitCost_46 (lv_at hl 1 rfl) ?_
      refine lv_iconst (v := eI (-1)) hx hb d_E_unitCost_48 rfl ?_
      refine we_icmp_eq (tgt := 69) hx hb (by constructor <;> omega) (by constructor <;> omega) d_E_unitCost_49 rfl (fun hc49 => ?_) (fun hc49 => ?_)
      ·
        refine lv_iconst (v := eI (-1)) hx hb d_E_unitCost_69 rfl ?_
        have hres : ((-1) : Int) = (eh_ku n ra ln cb ys yp so si) := (eh_ku_1 (by omega)).symm
        rw [hres]
        subst hQ
        exact W.iret hx hb hrt (fun t9 ht hW => ⟨rfl, ht⟩) (fun q h => by cases h) d_E_unitCost_70
      ·
        refine lv_iload hx hb d_E_unitCost_52 (lv_at hl 0 rfl) ?_
        refine lv_iconst (v := eI (-1)) hx hb d_E_unitCost_54 rfl ?_
        refine we_icmp_eq (tgt := 69) hx hb (by constructor <;> omega) (by constructor <;> omega) d_E_unitCost_55 rfl (fun hc55 => ?_) (fun hc55 => ?_)
        ·
          refine lv_iconst (v := eI (-1)) hx hb d_E_unitCost_69 rfl ?_
          have hres : ((-1) : Int) = (eh_ku n ra ln cb ys yp so si) := (eh_ku_1 (by omega)).symm
          rw [hres]
          subst hQ
          exact W.iret hx hb hrt (fun t9 ht hW => ⟨rfl, ht⟩) (fun q h => by cases h) d_E_unitCost_70
        ·
          obtain ⟨f9, hf9⟩ : ∃ f : Nat, (eh_so n ys so) = (f : Int) := Int.eq_ofNat_of_zero_le (by omega)
          obtain ⟨g9, hg9⟩ : ∃ g : Nat, (eh_si n ys si) = (g : Int) := Int.eq_ofNat_of_zero_le (by omega)
          rw [hf9, hg9] at hl
          refine lv_aload_n hx hb d_E_unitCost_58 rfl (lv_at hl 4 rfl) ?_
          refine lv_iload hx hb d_E_unitCost_59 (lv_at hl 1 rfl) ?_
          refine lv_iload hx hb d_E_unitCost_61 (lv_at hl 0 rfl) ?_
          refine eh_cRV (As := [.int (eI ((f9 : Nat) : Int)), .int (eI ((g9 : Nat) : Int))]) (rest := []) (v := .int (eI (if eh_opb cb (min f9 g9) (max f9 g9 - min f9 g9) = true then 1 else 0))) (q := (R_E, T_E, 11)) hx hb hml hown htb hN (r_E_isOpenBetween l D cI cL cZ cS cY ad n sh ra plv pco ln cb la cu cl fu fl ys yl yp f9 g9 (by omega) (by omega) hE) 2 ⟨tb_227, tb_229, ts_12, tb_1, kin_E_isOpenBetween⟩ dv_E_isOpenBetween ⟨by rw [hR1]; decide, by rw [hR2]; decide⟩ hK hP 0 rfl rfl [0, 1, 2, 3, 4, 5, 6, 7, 8, 9, 10, 11, 12, 13, 14, 15, 16, 17, 18, 19, 20, 21, 22, 23] rfl [0, 1, 2, 3, 4] rfl rfl rfl hl.1 (Nat.le_of_ble_eq_true rfl) d_E_unitCost_63 ⟨Nat.zero_le _, Nat.zero_le _⟩ ?_
          refine we_if_ne (tgt := 71) hx hb (by constructor <;> split <;> omega) d_E_unitCost_66 rfl (fun hc66 => ?_) (fun hc66 => ?_)
          ·
            refine lv_iload_n hx hb d_E_unitCost_71 rfl (lv_at hl 3 rfl) ?_
            refine we_if_eq (tgt := 89) hx hb (by constructor <;> omega) d_E_unitCost_72 rfl (fun hc72 => ?_) (fun hc72 => absurd hc72 (by omega))
            refine lv_iload hx hb d_E_unitCost_89 (lv_at hl 2 rfl) ?_
            refine we_if_eq (tgt := 106) hx hb (by constructor <;> omega) d_E_unitCost_91 rfl (fun hc91 => ?_) (fun hc91 => absurd hc91 (by omega))
            refine lv_iconst (v := eI 0) hx hb d_E_unitCost_106 rfl ?_
            refine lv_istore hx hb d_E_unitCost_107 hl (by decide) rfl (fun ls hl => ?_)
            have hl : lv_has ls 8 [(7, .int (eI 0)), (6, .int (eI ((g9 : Nat) : Int))), (5, .int (eI ((f9 : Nat) : Int))), (4, .int (eI 0)), (3, .int (eI 0)), (0, .ref (ad 0)), (1, .int (eI ((so : Nat) : Int))), (2, .int (eI ((si : Nat) : Int)))] := hl
            refine lv_aload_n hx hb d_E_unitCost_109 rfl (lv_at hl 5 rfl) ?_
            refine va_get (D := D) (ci := 4) (v := .int (eI ra)) (C := R_E) (T := T_E) (N := 11) hx hb htb in_E hown hK hP 0 rfl rfl 8 (by decide) (htb _ tb_132) (fun _ h9 => h9) rfl d_E_unitCost_110 ?_
            refine lv_aload_n hx hb d_E_unitCost_113 rfl (lv_at hl 5 rfl) ?_
            refine lv_iload hx hb d_E_unitCost_114 (lv_at hl 2 rfl) ?_
            refine lv_iload hx hb d_E_unitCost_116 (lv_at hl 1 rfl) ?_
            refine eh_cRV (As := [.int (eI ((f9 : Nat) : Int)), .int (eI ((g9 : Nat) : Int))]) (rest := [.int (eI ra)]) (v := .int (eI (eh_wy2 ln (min f9 g9) (max f9 g9 - min f9 g9)))) (q := (R_E, T_E, 11)) hx hb hml hown htb hN (r_E_wayBetween l D cI cL cZ cS cY ad n sh ra plv pco ln cb la cu cl fu fl ys yl yp f9 g9 (by omega) (by omega) hE) 2 ⟨tb_237, tb_239, ts_13, tb_1, kin_E_wayBetween⟩ dv_E_wayBetween ⟨by rw [hR1]; decide, by rw [hR2]; decide⟩ hK hP 0 rfl rfl [0, 1, 2, 3, 4, 5, 6, 7, 8, 9, 10, 11, 12, 13, 14, 15, 16, 17, 18, 19, 20, 21, 22, 23] rfl [0, 1, 2, 3, 4] rfl rfl rfl hl.1 (Nat.le_of_ble_eq_true rfl) d_E_unitCost_118 ⟨Nat.zero_le _, Nat.zero_le _⟩ ?_
            refine we_imul hx hb d_E_unitCost_121 ?_
            refine lv_iload hx hb d_E_unitCost_122 (lv_at hl 0 rfl) ?_
            refine we_iadd hx hb d_E_unitCost_124 ?_
            have hres : (((ra * (eh_wy2 ln (min f9 g9) (max f9 g9 - min f9 g9))) + 0) : Int) = (eh_ku n ra ln cb ys yp so si) := by
              rw [eh_ku_2 hf9 hg9 (by omega)]
              have z : ¬ eh_opb cb (min f9 g9) (max f9 g9 - min f9 g9) = false := by
                intro z9
                rw [z9, if_neg (by decide)] at hc66
                omega
              rw [if_neg z]
              rw [if_neg (by omega)]
              rw [if_neg (by omega)]
            rw [hres]
            subst hQ
            exact W.iret hx hb hrt (fun t9 ht hW => ⟨rfl, ht⟩) (fun q h => by cases h) d_E_unitCost_125
          ·
            refine lv_iconst (v := eI (-1)) hx hb d_E_unitCost_69 rfl ?_
            have hres : ((-1) : Int) = (eh_ku n ra ln cb ys yp so si) := by
              rw [eh_ku_2 hf9 hg9 (by omega)]
              have z : eh_opb cb (min f9 g9) (max f9 g9 - min f9 g9) = false := by
                cases z9 : eh_opb cb (min f9 g9) (max f9 g9 - min f9 g9) with
                | false => rfl
                | true => rw [z9, if_pos rfl] at hc66; omega
              rw [if_pos z]
            rw [hres]
            subst hQ
            exact W.iret hx hb hrt (fun t9 ht hW => ⟨rfl, ht⟩) (fun q h => by cases h) d_E_unitCost_70
    ·
      refine lv_iconst (v := eI 1) hx hb d_E_unitCost_16 rfl ?_
      refine lv_goto (tgt := 21) hx hb d_E_unitCost_17 rfl ?_
      refine lv_istore hx hb d_E_unitCost_21 hl (by decide) rfl (fun ls hl => ?_)
      have hl : lv_has ls 8 [(4, .int (eI 1)), (3, .int (eI 0)), (0, .ref (ad 0)), (1, .int (eI ((so : Nat) : Int))), (2, .int (eI ((si : Nat) : Int)))] := hl
      refine lv_aload_n hx hb d_E_unitCost_23 rfl (lv_at hl 2 rfl) ?_
      refine lv_iload_n hx hb d_E_unitCost_24 rfl (lv_at hl 3 rfl) ?_
      refine eh_cRV (As := [.int (eI ((so : Nat) : Int))]) (rest := []) (v := .int (eI (eh_so n ys so))) (q := (R_E, T_E, 11)) hx hb hml hown htb hN (r_E_spanOfSource l D cI cL cZ cS cY ad n sh ra plv pco ln cb la cu cl fu fl ys yl yp so (by omega) hE) 1 ⟨tb_211, tb_213, ts_8, tb_1, kin_E_spanOfSource⟩ dv_E_spanOfSource ⟨by rw [hR1]; decide, by rw [hR2]; decide⟩ hK hP 0 rfl rfl [0, 1, 2, 3, 4, 5, 6, 7, 8, 9, 10, 11, 12, 13, 14, 15, 16, 17, 18, 19, 20, 21, 22, 23] rfl [0, 1, 2, 3, 4] rfl rfl rfl hl.1 (Nat.le_of_ble_eq_true rfl) d_E_unitCost_25 ⟨Nat.zero_le _, Nat.zero_le _⟩ ?_
      refine lv_istore hx hb d_E_unitCost_28 hl (by decide) rfl (fun ls hl => ?_)
      have hl : lv_has ls 8 [(5, .int (eI (eh_so n ys so))), (4, .int (eI 1)), (3, .int (eI 0)), (0, .ref (ad 0)), (1, .int (eI ((so : Nat) : Int))), (2, .int (eI ((si : Nat) : Int)))] := hl
      refine lv_aload_n hx hb d_E_unitCost_30 rfl (lv_at hl 3 rfl) ?_
      refine lv_iload_n hx hb d_E_unitCost_31 rfl (lv_at hl 5 rfl) ?_
      refine eh_cRV (As := [.int (eI ((si : Nat) : Int))]) (rest := []) (v := .int (eI (eh_si n ys si))) (q := (R_E, T_E, 11)) hx hb hml hown htb hN (r_E_spanOfSink l D cI cL cZ cS cY ad n sh ra plv pco ln cb la cu cl fu fl ys yl yp si hsi hE) 1 ⟨tb_223, tb_225, ts_11, tb_1, kin_E_spanOfSink⟩ dv_E_spanOfSink ⟨by rw [hR1]; decide, by rw [hR2]; decide⟩ hK hP 0 rfl rfl [0, 1, 2, 3, 4, 5, 6, 7, 8, 9, 10, 11, 12, 13, 14, 15, 16, 17, 18, 19, 20, 21, 22, 23] rfl [0, 1, 2, 3, 4] rfl rfl rfl hl.1 (Nat.le_of_ble_eq_true rfl) d_E_unitCost_32 ⟨Nat.zero_le _, Nat.zero_le _⟩ ?_
      refine lv_istore hx hb d_E_unitCost_35 hl (by decide) rfl (fun ls hl => ?_)
      have hl : lv_has ls 8 [(6, .int (eI (eh_si n ys si))), (5, .int (eI (eh_so n ys so))), (4, .int (eI 1)), (3, .int (eI 0)), (0, .ref (ad 0)), (1, .int (eI ((so : Nat) : Int))), (2, .int (eI ((si : Nat) : Int)))] := hl
      refine lv_iload_n hx hb d_E_unitCost_37 rfl (lv_at hl 3 rfl) ?_
      refine we_if_eq (tgt := 46) hx hb (by constructor <;> omega) d_E_unitCost_38 rfl (fun hc38 => ?_) (fun hc38 => absurd hc38 (by omega))
      refine lv_iload hx hb d_E_unitCost_46 (lv_at hl 1 rfl) ?_
      refine lv_iconst (v := eI (-1)) hx hb d_E_unitCost_48 rfl ?_
      refine we_icmp_eq (tgt := 69) hx hb (by constructor <;> omega) (by constructor <;> omega) d_E_unitCost_49 rfl (fun hc49 => ?_) (fun hc49 => ?_)
      ·
        refine lv_iconst (v := eI (-1)) hx hb d_E_unitCost_69 rfl ?_
        have hres : ((-1) : Int) = (eh_ku n ra ln cb ys yp so si) := (eh_ku_1 (by omega)).symm
        rw [hres]
        subst hQ
        exact W.iret hx hb hrt (fun t9 ht hW => ⟨rfl, ht⟩) (fun q h => by cases h) d_E_unitCost_70
      ·
        refine lv_iload hx hb d_E_unitCost_52 (lv_at hl 0 rfl) ?_
        refine lv_iconst (v := eI (-1)) hx hb d_E_unitCost_54 rfl ?_
        refine we_icmp_eq (tgt := 69) hx hb (by constructor <;> omega) (by constructor <;> omega) d_E_unitCost_55 rfl (fun hc55 => ?_) (fun hc55 => ?_)
        ·
          refine lv_iconst (v := eI (-1)) hx hb d_E_unitCost_69 rfl ?_
          have hres : ((-1) : Int) = (eh_ku n ra ln cb ys yp so si) := (eh_ku_1 (by omega)).symm
          rw [hres]
          subst hQ
          exact W.iret hx hb hrt (fun t9 ht hW => ⟨rfl, ht⟩) (fun q h => by cases h) d_E_unitCost_70
        ·
          obtain ⟨f9, hf9⟩ : ∃ f : Nat, (eh_so n ys so) = (f : Int) := Int.eq_ofNat_of_zero_le (by omega)
          obtain ⟨g9, hg9⟩ : ∃ g : Nat, (eh_si n ys si) = (g : Int) := Int.eq_ofNat_of_zero_le (by omega)
          rw [hf9, hg9] at hl
          refine lv_aload_n hx hb d_E_unitCost_58 rfl (lv_at hl 4 rfl) ?_
          refine lv_iload hx hb d_E_unitCost_59 (lv_at hl 1 rfl) ?_
          refine lv_iload hx hb d_E_unitCost_61 (lv_at hl 0 rfl) ?_
          refine eh_cRV (As := [.int (eI ((f9 : Nat) : Int)), .int (eI ((g9 : Nat) : Int))]) (rest := []) (v := .int (eI (if eh_opb cb (min f9 g9) (max f9 g9 - min f9 g9) = true then 1 else 0))) (q := (R_E, T_E, 11)) hx hb hml hown htb hN (r_E_isOpenBetween l D cI cL cZ cS cY ad n sh ra plv pco ln cb la cu cl fu fl ys yl yp f9 g9 (by omega) (by omega) hE) 2 ⟨tb_227, tb_229, ts_12, tb_1, kin_E_isOpenBetween⟩ dv_E_isOpenBetween ⟨by rw [hR1]; decide, by rw [hR2]; decide⟩ hK hP 0 rfl rfl [0, 1, 2, 3, 4, 5, 6, 7, 8, 9, 10, 11, 12, 13, 14, 15, 16, 17, 18, 19, 20, 21, 22, 23] rfl [0, 1, 2, 3, 4] rfl rfl rfl hl.1 (Nat.le_of_ble_eq_true rfl) d_E_unitCost_63 ⟨Nat.zero_le _, Nat.zero_le _⟩ ?_
          refine we_if_ne (tgt := 71) hx hb (by constructor <;> split <;> omega) d_E_unitCost_66 rfl (fun hc66 => ?_) (fun hc66 => ?_)
          ·
            refine lv_iload_n hx hb d_E_unitCost_71 rfl (lv_at hl 3 rfl) ?_
            refine we_if_eq (tgt := 89) hx hb (by constructor <;> omega) d_E_unitCost_72 rfl (fun hc72 => ?_) (fun hc72 => absurd hc72 (by omega))
            refine lv_iload hx hb d_E_unitCost_89 (lv_at hl 2 rfl) ?_
            refine we_if_eq (tgt := 106) hx hb (by constructor <;> omega) d_E_unitCost_91 rfl (fun hc91 => absurd hc91 (by omega)) (fun hc91 => ?_)
            refine lv_aload_n hx hb d_E_unitCost_94 rfl (lv_at hl 4 rfl) ?_
            refine va_get (D := D) (ci := 4) (v := .ref (ad 4)) (C := R_E) (T := T_E) (N := 11) hx hb htb in_E hown hK hP 0 rfl rfl 3 (by decide) (htb _ tb_127) (fun _ h9 => h9) rfl d_E_unitCost_95 ?_
            refine lv_iconst (v := eI 2) hx hb d_E_unitCost_98 rfl ?_
            refine we_aald (r := (ad 23)) hx hb hK hP 4 4 rfl rfl 2 rfl (by decide) (by decide) rfl d_E_unitCost_99 ?_
            refine va_get (D := D) (ci := 3) (v := .int (eI (yp 2))) (C := R_Y) (T := T_Y) (N := 3) hx hb htb in_Y hown hK hP 23 rfl rfl 2 (by decide) (htb _ tb_100) (fun _ h9 => h9) rfl d_E_unitCost_100 ?_
            refine lv_goto (tgt := 107) hx hb d_E_unitCost_103 rfl ?_
            refine lv_istore hx hb d_E_unitCost_107 hl (by decide) rfl (fun ls hl => ?_)
            have hl : lv_has ls 8 [(7, .int (eI (yp 2))), (6, .int (eI ((g9 : Nat) : Int))), (5, .int (eI ((f9 : Nat) : Int))), (4, .int (eI 1)), (3, .int (eI 0)), (0, .ref (ad 0)), (1, .int (eI ((so : Nat) : Int))), (2, .int (eI ((si : Nat) : Int)))] := hl
            refine lv_aload_n hx hb d_E_unitCost_109 rfl (lv_at hl 5 rfl) ?_
            refine va_get (D := D) (ci := 4) (v := .int (eI ra)) (C := R_E) (T := T_E) (N := 11) hx hb htb in_E hown hK hP 0 rfl rfl 8 (by decide) (htb _ tb_132) (fun _ h9 => h9) rfl d_E_unitCost_110 ?_
            refine lv_aload_n hx hb d_E_unitCost_113 rfl (lv_at hl 5 rfl) ?_
            refine lv_iload hx hb d_E_unitCost_114 (lv_at hl 2 rfl) ?_
            refine lv_iload hx hb d_E_unitCost_116 (lv_at hl 1 rfl) ?_
            refine eh_cRV (As := [.int (eI ((f9 : Nat) : Int)), .int (eI ((g9 : Nat) : Int))]) (rest := [.int (eI ra)]) (v := .int (eI (eh_wy2 ln (min f9 g9) (max f9 g9 - min f9 g9)))) (q := (R_E, T_E, 11)) hx hb hml hown htb hN (r_E_wayBetween l D cI cL cZ cS cY ad n sh ra plv pco ln cb la cu cl fu fl ys yl yp f9 g9 (by omega) (by omega) hE) 2 ⟨tb_237, tb_239, ts_13, tb_1, kin_E_wayBetween⟩ dv_E_wayBetween ⟨by rw [hR1]; decide, by rw [hR2]; decide⟩ hK hP 0 rfl rfl [0, 1, 2, 3, 4, 5, 6, 7, 8, 9, 10, 11, 12, 13, 14, 15, 16, 17, 18, 19, 20, 21, 22, 23] rfl [0, 1, 2, 3, 4] rfl rfl rfl hl.1 (Nat.le_of_ble_eq_true rfl) d_E_unitCost_118 ⟨Nat.zero_le _, Nat.zero_le _⟩ ?_
            refine we_imul hx hb d_E_unitCost_121 ?_
            refine lv_iload hx hb d_E_unitCost_122 (lv_at hl 0 rfl) ?_
            refine we_iadd hx hb d_E_unitCost_124 ?_
            have hres : (((ra * (eh_wy2 ln (min f9 g9) (max f9 g9 - min f9 g9))) + (yp 2)) : Int) = (eh_ku n ra ln cb ys yp so si) := by
              rw [eh_ku_2 hf9 hg9 (by omega)]
              have z : ¬ eh_opb cb (min f9 g9) (max f9 g9 - min f9 g9) = false := by
                intro z9
                rw [z9, if_neg (by decide)] at hc66
                omega
              rw [if_neg z]
              rw [if_neg (by omega)]
              rw [if_pos (by omega)]
            rw [hres]
            subst hQ
            exact W.iret hx hb hrt (fun t9 ht hW => ⟨rfl, ht⟩) (fun q h => by cases h) d_E_unitCost_125
          ·
            refine lv_iconst (v := eI (-1)) hx hb d_E_unitCost_69 rfl ?_
            have hres : ((-1) : Int) = (eh_ku n ra ln cb ys yp so si) := by
              rw [eh_ku_2 hf9 hg9 (by omega)]
              have z : eh_opb cb (min f9 g9) (max f9 g9 - min f9 g9) = false := by
                cases z9 : eh_opb cb (min f9 g9) (max f9 g9 - min f9 g9) with
                | false => rfl
                | true => rw [z9, if_pos rfl] at hc66; omega
              rw [if_pos z]
            rw [hres]
            subst hQ
            exact W.iret hx hb hrt (fun t9 ht hW => ⟨rfl, ht⟩) (fun q h => by cases h) d_E_unitCost_70
  ·
    have hl : lv_has ls 8 [(0, .ref (ad 0)), (1, .int (eI ((4 : Nat) : Int))), (2, .int (eI ((si : Nat) : Int)))] := hl
    have hso := eh_so_b hE (show 4 < 6 by omega)
    have hsi9 := eh_si_b hE hsi
    refine lv_iload_n hx hb d_E_unitCost_0 rfl (lv_at hl 1 rfl) ?_
    refine lv_iconst (v := eI 4) hx hb d_E_unitCost_1 rfl ?_
    refine we_icmp_lt (tgt := 9) hx hb (by constructor <;> omega) (by constructor <;> omega) d_E_unitCost_2 rfl (fun hc2 => absurd hc2 (by omega)) (fun hc2 => ?_)
    refine lv_iconst (v := eI 1) hx hb d_E_unitCost_5 rfl ?_
    refine lv_goto (tgt := 10) hx hb d_E_unitCost_6 rfl ?_
    refine lv_istore_n hx hb d_E_unitCost_10 rfl hl (by decide) rfl (fun ls hl => ?_)
    have hl : lv_has ls 8 [(3, .int (eI 1)), (0, .ref (ad 0)), (1, .int (eI ((4 : Nat) : Int))), (2, .int (eI ((si : Nat) : Int)))] := hl
    refine lv_iload_n hx hb d_E_unitCost_11 rfl (lv_at hl 3 rfl) ?_
    refine lv_iconst (v := eI 4) hx hb d_E_unitCost_12 rfl ?_
    refine we_icmp_ne (tgt := 20) hx hb (by constructor <;> omega) (by constructor <;> omega) d_E_unitCost_13 rfl (fun hc13 => ?_) (fun hc13 => ?_)
    ·
      refine lv_iconst (v := eI 0) hx hb d_E_unitCost_20 rfl ?_
      refine lv_istore hx hb d_E_unitCost_21 hl (by decide) rfl (fun ls hl => ?_)
      have hl : lv_has ls 8 [(4, .int (eI 0)), (3, .int (eI 1)), (0, .ref (ad 0)), (1, .int (eI ((4 : Nat) : Int))), (2, .int (eI ((si : Nat) : Int)))] := hl
      refine lv_aload_n hx hb d_E_unitCost_23 rfl (lv_at hl 2 rfl) ?_
      refine lv_iload_n hx hb d_E_unitCost_24 rfl (lv_at hl 3 rfl) ?_
      refine eh_cRV (As := [.int (eI ((4 : Nat) : Int))]) (rest := []) (v := .int (eI (eh_so n ys 4))) (q := (R_E, T_E, 11)) hx hb hml hown htb hN (r_E_spanOfSource l D cI cL cZ cS cY ad n sh ra plv pco ln cb la cu cl fu fl ys yl yp 4 (by omega) hE) 1 ⟨tb_211, tb_213, ts_8, tb_1, kin_E_spanOfSource⟩ dv_E_spanOfSource ⟨by rw [hR1]; decide, by rw [hR2]; decide⟩ hK hP 0 rfl rfl [0, 1, 2, 3, 4, 5, 6, 7, 8, 9, 10, 11, 12, 13, 14, 15, 16, 17, 18, 19, 20, 21, 22, 23] rfl [0, 1, 2, 3, 4] rfl rfl rfl hl.1 (Nat.le_of_ble_eq_true rfl) d_E_unitCost_25 ⟨Nat.zero_le _, Nat.zero_le _⟩ ?_
      refine lv_istore hx hb d_E_unitCost_28 hl (by decide) rfl (fun ls hl => ?_)
      have hl : lv_has ls 8 [(5, .int (eI (eh_so n ys 4))), (4, .int (eI 0)), (3, .int (eI 1)), (0, .ref (ad 0)), (1, .int (eI ((4 : Nat) : Int))), (2, .int (eI ((si : Nat) : Int)))] := hl
      refine lv_aload_n hx hb d_E_unitCost_30 rfl (lv_at hl 3 rfl) ?_
      refine lv_iload_n hx hb d_E_unitCost_31 rfl (lv_at hl 5 rfl) ?_
      refine eh_cRV (As := [.int (eI ((si : Nat) : Int))]) (rest := []) (v := .int (eI (eh_si n ys si))) (q := (R_E, T_E, 11)) hx hb hml hown htb hN (r_E_spanOfSink l D cI cL cZ cS cY ad n sh ra plv pco ln cb la cu cl fu fl ys yl yp si hsi hE) 1 ⟨tb_223, tb_225, ts_11, tb_1, kin_E_spanOfSink⟩ dv_E_spanOfSink ⟨by rw [hR1]; decide, by rw [hR2]; decide⟩ hK hP 0 rfl rfl [0, 1, 2, 3, 4, 5, 6, 7, 8, 9, 10, 11, 12, 13, 14, 15, 16, 17, 18, 19, 20, 21, 22, 23] rfl [0, 1, 2, 3, 4] rfl rfl rfl hl.1 (Nat.le_of_ble_eq_true rfl) d_E_unitCost_32 ⟨Nat.zero_le _, Nat.zero_le _⟩ ?_
      refine lv_istore hx hb d_E_unitCost_35 hl (by decide) rfl (fun ls hl => ?_)
      have hl : lv_has ls 8 [(6, .int (eI (eh_si n ys si))), (5, .int (eI (eh_so n ys 4))), (4, .int (eI 0)), (3, .int (eI 1)), (0, .ref (ad 0)), (1, .int (eI ((4 : Nat) : Int))), (2, .int (eI ((si : Nat) : Int)))] := hl
      refine lv_iload_n hx hb d_E_unitCost_37 rfl (lv_at hl 3 rfl) ?_
      refine we_if_eq (tgt := 46) hx hb (by constructor <;> omega) d_E_unitCost_38 rfl (fun hc38 => absurd hc38 (by omega)) (fun hc38 => ?_)
      refine lv_iload hx hb d_E_unitCost_41 (lv_at hl 2 rfl) ?_
      refine we_if_ne (tgt := 69) hx hb (by constructor <;> omega) d_E_unitCost_43 rfl (fun hc43 => absurd hc43 (by omega)) (fun hc43 => ?_)
      refine lv_iload hx hb d_E_unitCost_46 (lv_at hl 1 rfl) ?_
      refine lv_iconst (v := eI (-1)) hx hb d_E_unitCost_48 rfl ?_
      refine we_icmp_eq (tgt := 69) hx hb (by constructor <;> omega) (by constructor <;> omega) d_E_unitCost_49 rfl (fun hc49 => ?_) (fun hc49 => ?_)
      ·
        refine lv_iconst (v := eI (-1)) hx hb d_E_unitCost_69 rfl ?_
        have hres : ((-1) : Int) = (eh_ku n ra ln cb ys yp 4 si) := (eh_ku_1 (by omega)).symm
        rw [hres]
        subst hQ
        exact W.iret hx hb hrt (fun t9 ht hW => ⟨rfl, ht⟩) (fun q h => by cases h) d_E_unitCost_70
      ·
        refine lv_iload hx hb d_E_unitCost_52 (lv_at hl 0 rfl) ?_
        refine lv_iconst (v := eI (-1)) hx hb d_E_unitCost_54 rfl ?_
        refine we_icmp_eq (tgt := 69) hx hb (by constructor <;> omega) (by constructor <;> omega) d_E_unitCost_55 rfl (fun hc55 => ?_) (fun hc55 => ?_)
        ·
          refine lv_iconst (v := eI (-1)) hx hb d_E_unitCost_69 rfl ?_
          have hres : ((-1) : Int) = (eh_ku n ra ln cb ys yp 4 si) := (eh_ku_1 (by omega)).symm
          rw [hres]
          subst hQ
          exact W.iret hx hb hrt (fun t9 ht hW => ⟨rfl, ht⟩) (fun q h => by cases h) d_E_unitCost_70
        ·
          obtain ⟨f9, hf9⟩ : ∃ f : Nat, (eh_so n ys 4) = (f : Int) := Int.eq_ofNat_of_zero_le (by omega)
          obtain ⟨g9, hg9⟩ : ∃ g : Nat, (eh_si n ys si) = (g : Int) := Int.eq_ofNat_of_zero_le (by omega)
          rw [hf9, hg9] at hl
          refine lv_aload_n hx hb d_E_unitCost_58 rfl (lv_at hl 4 rfl) ?_
          refine lv_iload hx hb d_E_unitCost_59 (lv_at hl 1 rfl) ?_
          refine lv_iload hx hb d_E_unitCost_61 (lv_at hl 0 rfl) ?_
          refine eh_cRV (As := [.int (eI ((f9 : Nat) : Int)), .int (eI ((g9 : Nat) : Int))]) (rest := []) (v := .int (eI (if eh_opb cb (min f9 g9) (max f9 g9 - min f9 g9) = true then 1 else 0))) (q := (R_E, T_E, 11)) hx hb hml hown htb hN (r_E_isOpenBetween l D cI cL cZ cS cY ad n sh ra plv pco ln cb la cu cl fu fl ys yl yp f9 g9 (by omega) (by omega) hE) 2 ⟨tb_227, tb_229, ts_12, tb_1, kin_E_isOpenBetween⟩ dv_E_isOpenBetween ⟨by rw [hR1]; decide, by rw [hR2]; decide⟩ hK hP 0 rfl rfl [0, 1, 2, 3, 4, 5, 6, 7, 8, 9, 10, 11, 12, 13, 14, 15, 16, 17, 18, 19, 20, 21, 22, 23] rfl [0, 1, 2, 3, 4] rfl rfl rfl hl.1 (Nat.le_of_ble_eq_true rfl) d_E_unitCost_63 ⟨Nat.zero_le _, Nat.zero_le _⟩ ?_
          refine we_if_ne (tgt := 71) hx hb (by constructor <;> split <;> omega) d_E_unitCost_66 rfl (fun hc66 => ?_) (fun hc66 => ?_)
          ·
            refine lv_iload_n hx hb d_E_unitCost_71 rfl (lv_at hl 3 rfl) ?_
            refine we_if_eq (tgt := 89) hx hb (by constructor <;> omega) d_E_unitCost_72 rfl (fun hc72 => absurd hc72 (by omega)) (fun hc72 => ?_)
            refine lv_aload_n hx hb d_E_unitCost_75 rfl (lv_at hl 4 rfl) ?_
            refine va_get (D := D) (ci := 4) (v := .ref (ad 4)) (C := R_E) (T := T_E) (N := 11) hx hb htb in_E hown hK hP 0 rfl rfl 3 (by decide) (htb _ tb_127) (fun _ h9 => h9) rfl d_E_unitCost_76 ?_
            refine lv_iload_n hx hb d_E_unitCost_79 rfl (lv_at hl 5 rfl) ?_
            refine lv_iconst (v := eI 4) hx hb d_E_unitCost_80 rfl ?_
            refine we_isub hx hb d_E_unitCost_81 ?_
            refine we_aald (r := (ad 21)) hx hb hK hP 4 4 rfl rfl 0 rfl (by decide) (by decide) rfl d_E_unitCost_82 ?_
            refine va_get (D := D) (ci := 3) (v := .int (eI (yp 0))) (C := R_Y) (T := T_Y) (N := 3) hx hb htb in_Y hown hK hP 21 rfl rfl 2 (by decide) (htb _ tb_100) (fun _ h9 => h9) rfl d_E_unitCost_83 ?_
            refine lv_goto (tgt := 107) hx hb d_E_unitCost_86 rfl ?_
            refine lv_istore hx hb d_E_unitCost_107 hl (by decide) rfl (fun ls hl => ?_)
            have hl : lv_has ls 8 [(7, .int (eI (yp 0))), (6, .int (eI ((g9 : Nat) : Int))), (5, .int (eI ((f9 : Nat) : Int))), (4, .int (eI 0)), (3, .int (eI 1)), (0, .ref (ad 0)), (1, .int (eI ((4 : Nat) : Int))), (2, .int (eI ((si : Nat) : Int)))] := hl
            refine lv_aload_n hx hb d_E_unitCost_109 rfl (lv_at hl 5 rfl) ?_
            refine va_get (D := D) (ci := 4) (v := .int (eI ra)) (C := R_E) (T := T_E) (N := 11) hx hb htb in_E hown hK hP 0 rfl rfl 8 (by decide) (htb _ tb_132) (fun _ h9 => h9) rfl d_E_unitCost_110 ?_
            refine lv_aload_n hx hb d_E_unitCost_113 rfl (lv_at hl 5 rfl) ?_
            refine lv_iload hx hb d_E_unitCost_114 (lv_at hl 2 rfl) ?_
            refine lv_iload hx hb d_E_unitCost_116 (lv_at hl 1 rfl) ?_
            refine eh_cRV (As := [.int (eI ((f9 : Nat) : Int)), .int (eI ((g9 : Nat) : Int))]) (rest := [.int (eI ra)]) (v := .int (eI (eh_wy2 ln (min f9 g9) (max f9 g9 - min f9 g9)))) (q := (R_E, T_E, 11)) hx hb hml hown htb hN (r_E_wayBetween l D cI cL cZ cS cY ad n sh ra plv pco ln cb la cu cl fu fl ys yl yp f9 g9 (by omega) (by omega) hE) 2 ⟨tb_237, tb_239, ts_13, tb_1, kin_E_wayBetween⟩ dv_E_wayBetween ⟨by rw [hR1]; decide, by rw [hR2]; decide⟩ hK hP 0 rfl rfl [0, 1, 2, 3, 4, 5, 6, 7, 8, 9, 10, 11, 12, 13, 14, 15, 16, 17, 18, 19, 20, 21, 22, 23] rfl [0, 1, 2, 3, 4] rfl rfl rfl hl.1 (Nat.le_of_ble_eq_true rfl) d_E_unitCost_118 ⟨Nat.zero_le _, Nat.zero_le _⟩ ?_
            refine we_imul hx hb d_E_unitCost_121 ?_
            refine lv_iload hx hb d_E_unitCost_122 (lv_at hl 0 rfl) ?_
            refine we_iadd hx hb d_E_unitCost_124 ?_
            have hres : (((ra * (eh_wy2 ln (min f9 g9) (max f9 g9 - min f9 g9))) + (yp 0)) : Int) = (eh_ku n ra ln cb ys yp 4 si) := by
              rw [eh_ku_2 hf9 hg9 (by omega)]
              have z : ¬ eh_opb cb (min f9 g9) (max f9 g9 - min f9 g9) = false := by
                intro z9
                rw [z9, if_neg (by decide)] at hc66
                omega
              rw [if_neg z]
              rw [if_pos (by omega)]
            rw [hres]
            subst hQ
            exact W.iret hx hb hrt (fun t9 ht hW => ⟨rfl, ht⟩) (fun q h => by cases h) d_E_unitCost_125
          ·
            refine lv_iconst (v := eI (-1)) hx hb d_E_unitCost_69 rfl ?_
            have hres : ((-1) : Int) = (eh_ku n ra ln cb ys yp 4 si) := by
              rw [eh_ku_2 hf9 hg9 (by omega)]
              have z : eh_opb cb (min f9 g9) (max f9 g9 - min f9 g9) = false := by
                cases z9 : eh_opb cb (min f9 g9) (max f9 g9 - min f9 g9) with
                | false => rfl
                | true => rw [z9, if_pos rfl] at hc66; omega
              rw [if_pos z]
            rw [hres]
            subst hQ
            exact W.iret hx hb hrt (fun t9 ht hW => ⟨rfl, ht⟩) (fun q h => by cases h) d_E_unitCost_70
    ·
      refine lv_iconst (v := eI 1) hx hb d_E_unitCost_16 rfl ?_
      refine lv_goto (tgt := 21) hx hb d_E_unitCost_17 rfl ?_
      refine lv_istore hx hb d_E_unitCost_21 hl (by decide) rfl (fun ls hl => ?_)
      have hl : lv_has ls 8 [(4, .int (eI 1)), (3, .int (eI 1)), (0, .ref (ad 0)), (1, .int (eI ((4 : Nat) : Int))), (2, .int (eI ((si : Nat) : Int)))] := hl
      refine lv_aload_n hx hb d_E_unitCost_23 rfl (lv_at hl 2 rfl) ?_
      refine lv_iload_n hx hb d_E_unitCost_24 rfl (lv_at hl 3 rfl) ?_
      refine eh_cRV (As := [.int (eI ((4 : Nat) : Int))]) (rest := []) (v := .int (eI (eh_so n ys 4))) (q := (R_E, T_E, 11)) hx hb hml hown htb hN (r_E_spanOfSource l D cI cL cZ cS cY ad n sh ra plv pco ln cb la cu cl fu fl ys yl yp 4 (by omega) hE) 1 ⟨tb_211, tb_213, ts_8, tb_1, kin_E_spanOfSource⟩ dv_E_spanOfSource ⟨by rw [hR1]; decide, by rw [hR2]; decide⟩ hK hP 0 rfl rfl [0, 1, 2, 3, 4, 5, 6, 7, 8, 9, 10, 11, 12, 13, 14, 15, 16, 17, 18, 19, 20, 21, 22, 23] rfl [0, 1, 2, 3, 4] rfl rfl rfl hl.1 (Nat.le_of_ble_eq_true rfl) d_E_unitCost_25 ⟨Nat.zero_le _, Nat.zero_le _⟩ ?_
      refine lv_istore hx hb d_E_unitCost_28 hl (by decide) rfl (fun ls hl => ?_)
      have hl : lv_has ls 8 [(5, .int (eI (eh_so n ys 4))), (4, .int (eI 1)), (3, .int (eI 1)), (0, .ref (ad 0)), (1, .int (eI ((4 : Nat) : Int))), (2, .int (eI ((si : Nat) : Int)))] := hl
      refine lv_aload_n hx hb d_E_unitCost_30 rfl (lv_at hl 3 rfl) ?_
      refine lv_iload_n hx hb d_E_unitCost_31 rfl (lv_at hl 5 rfl) ?_
      refine eh_cRV (As := [.int (eI ((si : Nat) : Int))]) (rest := []) (v := .int (eI (eh_si n ys si))) (q := (R_E, T_E, 11)) hx hb hml hown htb hN (r_E_spanOfSink l D cI cL cZ cS cY ad n sh ra plv pco ln cb la cu cl fu fl ys yl yp si hsi hE) 1 ⟨tb_223, tb_225, ts_11, tb_1, kin_E_spanOfSink⟩ dv_E_spanOfSink ⟨by rw [hR1]; decide, by rw [hR2]; decide⟩ hK hP 0 rfl rfl [0, 1, 2, 3, 4, 5, 6, 7, 8, 9, 10, 11, 12, 13, 14, 15, 16, 17, 18, 19, 20, 21, 22, 23] rfl [0, 1, 2, 3, 4] rfl rfl rfl hl.1 (Nat.le_of_ble_eq_true rfl) d_E_unitCost_32 ⟨Nat.zero_le _, Nat.zero_le _⟩ ?_
      refine lv_istore hx hb d_E_unitCost_35 hl (by decide) rfl (fun ls hl => ?_)
      have hl : lv_has ls 8 [(6, .int (eI (eh_si n ys si))), (5, .int (eI (eh_so n ys 4))), (4, .int (eI 1)), (3, .int (eI 1)), (0, .ref (ad 0)), (1, .int (eI ((4 : Nat) : Int))), (2, .int (eI ((si : Nat) : Int)))] := hl
      refine lv_iload_n hx hb d_E_unitCost_37 rfl (lv_at hl 3 rfl) ?_
      refine we_if_eq (tgt := 46) hx hb (by constructor <;> omega) d_E_unitCost_38 rfl (fun hc38 => absurd hc38 (by omega)) (fun hc38 => ?_)
      refine lv_iload hx hb d_E_unitCost_41 (lv_at hl 2 rfl) ?_
      refine we_if_ne (tgt := 69) hx hb (by constructor <;> omega) d_E_unitCost_43 rfl (fun hc43 => ?_) (fun hc43 => absurd hc43 (by omega))
      refine lv_iconst (v := eI (-1)) hx hb d_E_unitCost_69 rfl ?_
      have hres : ((-1) : Int) = (eh_ku n ra ln cb ys yp 4 si) := (eh_ku_1 (by omega)).symm
      rw [hres]
      subst hQ
      exact W.iret hx hb hrt (fun t9 ht hW => ⟨rfl, ht⟩) (fun q h => by cases h) d_E_unitCost_70
  ·
    have hl : lv_has ls 8 [(0, .ref (ad 0)), (1, .int (eI ((5 : Nat) : Int))), (2, .int (eI ((si : Nat) : Int)))] := hl
    have hso := eh_so_b hE (show 5 < 6 by omega)
    have hsi9 := eh_si_b hE hsi
    refine lv_iload_n hx hb d_E_unitCost_0 rfl (lv_at hl 1 rfl) ?_
    refine lv_iconst (v := eI 4) hx hb d_E_unitCost_1 rfl ?_
    refine we_icmp_lt (tgt := 9) hx hb (by constructor <;> omega) (by constructor <;> omega) d_E_unitCost_2 rfl (fun hc2 => absurd hc2 (by omega)) (fun hc2 => ?_)
    refine lv_iconst (v := eI 1) hx hb d_E_unitCost_5 rfl ?_
    refine lv_goto (tgt := 10) hx hb d_E_unitCost_6 rfl ?_
    refine lv_istore_n hx hb d_E_unitCost_10 rfl hl (by decide) rfl (fun ls hl => ?_)
    have hl : lv_has ls 8 [(3, .int (eI 1)), (0, .ref (ad 0)), (1, .int (eI ((5 : Nat) : Int))), (2, .int (eI ((si : Nat) : Int)))] := hl
    refine lv_iload_n hx hb d_E_unitCost_11 rfl (lv_at hl 3 rfl) ?_
    refine lv_iconst (v := eI 4) hx hb d_E_unitCost_12 rfl ?_
    refine we_icmp_ne (tgt := 20) hx hb (by constructor <;> omega) (by constructor <;> omega) d_E_unitCost_13 rfl (fun hc13 => ?_) (fun hc13 => ?_)
    ·
      refine lv_iconst (v := eI 0) hx hb d_E_unitCost_20 rfl ?_
      refine lv_istore hx hb d_E_unitCost_21 hl (by decide) rfl (fun ls hl => ?_)
      have hl : lv_has ls 8 [(4, .int (eI 0)), (3, .int (eI 1)), (0, .ref (ad 0)), (1, .int (eI ((5 : Nat) : Int))), (2, .int (eI ((si : Nat) : Int)))] := hl
      refine lv_aload_n hx hb d_E_unitCost_23 rfl (lv_at hl 2 rfl) ?_
      refine lv_iload_n hx hb d_E_unitCost_24 rfl (lv_at hl 3 rfl) ?_
      refine eh_cRV (As := [.int (eI ((5 : Nat) : Int))]) (rest := []) (v := .int (eI (eh_so n ys 5))) (q := (R_E, T_E, 11)) hx hb hml hown htb hN (r_E_spanOfSource l D cI cL cZ cS cY ad n sh ra plv pco ln cb la cu cl fu fl ys yl yp 5 (by omega) hE) 1 ⟨tb_211, tb_213, ts_8, tb_1, kin_E_spanOfSource⟩ dv_E_spanOfSource ⟨by rw [hR1]; decide, by rw [hR2]; decide⟩ hK hP 0 rfl rfl [0, 1, 2, 3, 4, 5, 6, 7, 8, 9, 10, 11, 12, 13, 14, 15, 16, 17, 18, 19, 20, 21, 22, 23] rfl [0, 1, 2, 3, 4] rfl rfl rfl hl.1 (Nat.le_of_ble_eq_true rfl) d_E_unitCost_25 ⟨Nat.zero_le _, Nat.zero_le _⟩ ?_
      refine lv_istore hx hb d_E_unitCost_28 hl (by decide) rfl (fun ls hl => ?_)
      have hl : lv_has ls 8 [(5, .int (eI (eh_so n ys 5))), (4, .int (eI 0)), (3, .int (eI 1)), (0, .ref (ad 0)), (1, .int (eI ((5 : Nat) : Int))), (2, .int (eI ((si : Nat) : Int)))] := hl
      refine lv_aload_n hx hb d_E_unitCost_30 rfl (lv_at hl 3 rfl) ?_
      refine lv_iload_n hx hb d_E_unitCost_31 rfl (lv_at hl 5 rfl) ?_
      refine eh_cRV (As := [.int (eI ((si : Nat) : Int))]) (rest := []) (v := .int (eI (eh_si n ys si))) (q := (R_E, T_E, 11)) hx hb hml hown htb hN (r_E_spanOfSink l D cI cL cZ cS cY ad n sh ra plv pco ln cb la cu cl fu fl ys yl yp si hsi hE) 1 ⟨tb_223, tb_225, ts_11, tb_1, kin_E_spanOfSink⟩ dv_E_spanOfSink ⟨by rw [hR1]; decide, by rw [hR2]; decide⟩ hK hP 0 rfl rfl [0, 1, 2, 3, 4, 5, 6, 7, 8, 9, 10, 11, 12, 13, 14, 15, 16, 17, 18, 19, 20, 21, 22, 23] rfl [0, 1, 2, 3, 4] rfl rfl rfl hl.1 (Nat.le_of_ble_eq_true rfl) d_E_unitCost_32 ⟨Nat.zero_le _, Nat.zero_le _⟩ ?_
      refine lv_istore hx hb d_E_unitCost_35 hl (by decide) rfl (fun ls hl => ?_)
      have hl : lv_has ls 8 [(6, .int (eI (eh_si n ys si))), (5, .int (eI (eh_so n ys 5))), (4, .int (eI 0)), (3, .int (eI 1)), (0, .ref (ad 0)), (1, .int (eI ((5 : Nat) : Int))), (2, .int (eI ((si : Nat) : Int)))] := hl
      refine lv_iload_n hx hb d_E_unitCost_37 rfl (lv_at hl 3 rfl) ?_
      refine we_if_eq (tgt := 46) hx hb (by constructor <;> omega) d_E_unitCost_38 rfl (fun hc38 => absurd hc38 (by omega)) (fun hc38 => ?_)
      refine lv_iload hx hb d_E_unitCost_41 (lv_at hl 2 rfl) ?_
      refine we_if_ne (tgt := 69) hx hb (by constructor <;> omega) d_E_unitCost_43 rfl (fun hc43 => absurd hc43 (by omega)) (fun hc43 => ?_)
      refine lv_iload hx hb d_E_unitCost_46 (lv_at hl 1 rfl) ?_
      refine lv_iconst (v := eI (-1)) hx hb d_E_unitCost_48 rfl ?_
      refine we_icmp_eq (tgt := 69) hx hb (by constructor <;> omega) (by constructor <;> omega) d_E_unitCost_49 rfl (fun hc49 => ?_) (fun hc49 => ?_)
      ·
        refine lv_iconst (v := eI (-1)) hx hb d_E_unitCost_69 rfl ?_
        have hres : ((-1) : Int) = (eh_ku n ra ln cb ys yp 5 si) := (eh_ku_1 (by omega)).symm
        rw [hres]
        subst hQ
        exact W.iret hx hb hrt (fun t9 ht hW => ⟨rfl, ht⟩) (fun q h => by cases h) d_E_unitCost_70
      ·
        refine lv_iload hx hb d_E_unitCost_52 (lv_at hl 0 rfl) ?_
        refine lv_iconst (v := eI (-1)) hx hb d_E_unitCost_54 rfl ?_
        refine we_icmp_eq (tgt := 69) hx hb (by constructor <;> omega) (by constructor <;> omega) d_E_unitCost_55 rfl (fun hc55 => ?_) (fun hc55 => ?_)
        ·
          refine lv_iconst (v := eI (-1)) hx hb d_E_unitCost_69 rfl ?_
          have hres : ((-1) : Int) = (eh_ku n ra ln cb ys yp 5 si) := (eh_ku_1 (by omega)).symm
          rw [hres]
          subst hQ
          exact W.iret hx hb hrt (fun t9 ht hW => ⟨rfl, ht⟩) (fun q h => by cases h) d_E_unitCost_70
        ·
          obtain ⟨f9, hf9⟩ : ∃ f : Nat, (eh_so n ys 5) = (f : Int) := Int.eq_ofNat_of_zero_le (by omega)
          obtain ⟨g9, hg9⟩ : ∃ g : Nat, (eh_si n ys si) = (g : Int) := Int.eq_ofNat_of_zero_le (by omega)
          rw [hf9, hg9] at hl
          refine lv_aload_n hx hb d_E_unitCost_58 rfl (lv_at hl 4 rfl) ?_
          refine lv_iload hx hb d_E_unitCost_59 (lv_at hl 1 rfl) ?_
          refine lv_iload hx hb d_E_unitCost_61 (lv_at hl 0 rfl) ?_
          refine eh_cRV (As := [.int (eI ((f9 : Nat) : Int)), .int (eI ((g9 : Nat) : Int))]) (rest := []) (v := .int (eI (if eh_opb cb (min f9 g9) (max f9 g9 - min f9 g9) = true then 1 else 0))) (q := (R_E, T_E, 11)) hx hb hml hown htb hN (r_E_isOpenBetween l D cI cL cZ cS cY ad n sh ra plv pco ln cb la cu cl fu fl ys yl yp f9 g9 (by omega) (by omega) hE) 2 ⟨tb_227, tb_229, ts_12, tb_1, kin_E_isOpenBetween⟩ dv_E_isOpenBetween ⟨by rw [hR1]; decide, by rw [hR2]; decide⟩ hK hP 0 rfl rfl [0, 1, 2, 3, 4, 5, 6, 7, 8, 9, 10, 11, 12, 13, 14, 15, 16, 17, 18, 19, 20, 21, 22, 23] rfl [0, 1, 2, 3, 4] rfl rfl rfl hl.1 (Nat.le_of_ble_eq_true rfl) d_E_unitCost_63 ⟨Nat.zero_le _, Nat.zero_le _⟩ ?_
          refine we_if_ne (tgt := 71) hx hb (by constructor <;> split <;> omega) d_E_unitCost_66 rfl (fun hc66 => ?_) (fun hc66 => ?_)
          ·
            refine lv_iload_n hx hb d_E_unitCost_71 rfl (lv_at hl 3 rfl) ?_
            refine we_if_eq (tgt := 89) hx hb (by constructor <;> omega) d_E_unitCost_72 rfl (fun hc72 => absurd hc72 (by omega)) (fun hc72 => ?_)
            refine lv_aload_n hx hb d_E_unitCost_75 rfl (lv_at hl 4 rfl) ?_
            refine va_get (D := D) (ci := 4) (v := .ref (ad 4)) (C := R_E) (T := T_E) (N := 11) hx hb htb in_E hown hK hP 0 rfl rfl 3 (by decide) (htb _ tb_127) (fun _ h9 => h9) rfl d_E_unitCost_76 ?_
            refine lv_iload_n hx hb d_E_unitCost_79 rfl (lv_at hl 5 rfl) ?_
            refine lv_iconst (v := eI 4) hx hb d_E_unitCost_80 rfl ?_
            refine we_isub hx hb d_E_unitCost_81 ?_
            refine we_aald (r := (ad 22)) hx hb hK hP 4 4 rfl rfl 1 rfl (by decide) (by decide) rfl d_E_unitCost_82 ?_
            refine va_get (D := D) (ci := 3) (v := .int (eI (yp 1))) (C := R_Y) (T := T_Y) (N := 3) hx hb htb in_Y hown hK hP 22 rfl rfl 2 (by decide) (htb _ tb_100) (fun _ h9 => h9) rfl d_E_unitCost_83 ?_
            refine lv_goto (tgt := 107) hx hb d_E_unitCost_86 rfl ?_
            refine lv_istore hx hb d_E_unitCost_107 hl (by decide) rfl (fun ls hl => ?_)
            have hl : lv_has ls 8 [(7, .int (eI (yp 1))), (6, .int (eI ((g9 : Nat) : Int))), (5, .int (eI ((f9 : Nat) : Int))), (4, .int (eI 0)), (3, .int (eI 1)), (0, .ref (ad 0)), (1, .int (eI ((5 : Nat) : Int))), (2, .int (eI ((si : Nat) : Int)))] := hl
            refine lv_aload_n hx hb d_E_unitCost_109 rfl (lv_at hl 5 rfl) ?_
            refine va_get (D := D) (ci := 4) (v := .int (eI ra)) (C := R_E) (T := T_E) (N := 11) hx hb htb in_E hown hK hP 0 rfl rfl 8 (by decide) (htb _ tb_132) (fun _ h9 => h9) rfl d_E_unitCost_110 ?_
            refine lv_aload_n hx hb d_E_unitCost_113 rfl (lv_at hl 5 rfl) ?_
            refine lv_iload hx hb d_E_unitCost_114 (lv_at hl 2 rfl) ?_
            refine lv_iload hx hb d_E_unitCost_116 (lv_at hl 1 rfl) ?_
            refine eh_cRV (As := [.int (eI ((f9 : Nat) : Int)), .int (eI ((g9 : Nat) : Int))]) (rest := [.int (eI ra)]) (v := .int (eI (eh_wy2 ln (min f9 g9) (max f9 g9 - min f9 g9)))) (q := (R_E, T_E, 11)) hx hb hml hown htb hN (r_E_wayBetween l D cI cL cZ cS cY ad n sh ra plv pco ln cb la cu cl fu fl ys yl yp f9 g9 (by omega) (by omega) hE) 2 ⟨tb_237, tb_239, ts_13, tb_1, kin_E_wayBetween⟩ dv_E_wayBetween ⟨by rw [hR1]; decide, by rw [hR2]; decide⟩ hK hP 0 rfl rfl [0, 1, 2, 3, 4, 5, 6, 7, 8, 9, 10, 11, 12, 13, 14, 15, 16, 17, 18, 19, 20, 21, 22, 23] rfl [0, 1, 2, 3, 4] rfl rfl rfl hl.1 (Nat.le_of_ble_eq_true rfl) d_E_unitCost_118 ⟨Nat.zero_le _, Nat.zero_le _⟩ ?_
            refine we_imul hx hb d_E_unitCost_121 ?_
            refine lv_iload hx hb d_E_unitCost_122 (lv_at hl 0 rfl) ?_
            refine we_iadd hx hb d_E_unitCost_124 ?_
            have hres : (((ra * (eh_wy2 ln (min f9 g9) (max f9 g9 - min f9 g9))) + (yp 1)) : Int) = (eh_ku n ra ln cb ys yp 5 si) := by
              rw [eh_ku_2 hf9 hg9 (by omega)]
              have z : ¬ eh_opb cb (min f9 g9) (max f9 g9 - min f9 g9) = false := by
                intro z9
                rw [z9, if_neg (by decide)] at hc66
                omega
              rw [if_neg z]
              rw [if_pos (by omega)]
            rw [hres]
            subst hQ
            exact W.iret hx hb hrt (fun t9 ht hW => ⟨rfl, ht⟩) (fun q h => by cases h) d_E_unitCost_125
          ·
            refine lv_iconst (v := eI (-1)) hx hb d_E_unitCost_69 rfl ?_
            have hres : ((-1) : Int) = (eh_ku n ra ln cb ys yp 5 si) := by
              rw [eh_ku_2 hf9 hg9 (by omega)]
              have z : eh_opb cb (min f9 g9) (max f9 g9 - min f9 g9) = false := by
                cases z9 : eh_opb cb (min f9 g9) (max f9 g9 - min f9 g9) with
                | false => rfl
                | true => rw [z9, if_pos rfl] at hc66; omega
              rw [if_pos z]
            rw [hres]
            subst hQ
            exact W.iret hx hb hrt (fun t9 ht hW => ⟨rfl, ht⟩) (fun q h => by cases h) d_E_unitCost_70
    ·
      refine lv_iconst (v := eI 1) hx hb d_E_unitCost_16 rfl ?_
      refine lv_goto (tgt := 21) hx hb d_E_unitCost_17 rfl ?_
      refine lv_istore hx hb d_E_unitCost_21 hl (by decide) rfl (fun ls hl => ?_)
      have hl : lv_has ls 8 [(4, .int (eI 1)), (3, .int (eI 1)), (0, .ref (ad 0)), (1, .int (eI ((5 : Nat) : Int))), (2, .int (eI ((si : Nat) : Int)))] := hl
      refine lv_aload_n hx hb d_E_unitCost_23 rfl (lv_at hl 2 rfl) ?_
      refine lv_iload_n hx hb d_E_unitCost_24 rfl (lv_at hl 3 rfl) ?_
      refine eh_cRV (As := [.int (eI ((5 : Nat) : Int))]) (rest := []) (v := .int (eI (eh_so n ys 5))) (q := (R_E, T_E, 11)) hx hb hml hown htb hN (r_E_spanOfSource l D cI cL cZ cS cY ad n sh ra plv pco ln cb la cu cl fu fl ys yl yp 5 (by omega) hE) 1 ⟨tb_211, tb_213, ts_8, tb_1, kin_E_spanOfSource⟩ dv_E_spanOfSource ⟨by rw [hR1]; decide, by rw [hR2]; decide⟩ hK hP 0 rfl rfl [0, 1, 2, 3, 4, 5, 6, 7, 8, 9, 10, 11, 12, 13, 14, 15, 16, 17, 18, 19, 20, 21, 22, 23] rfl [0, 1, 2, 3, 4] rfl rfl rfl hl.1 (Nat.le_of_ble_eq_true rfl) d_E_unitCost_25 ⟨Nat.zero_le _, Nat.zero_le _⟩ ?_
      refine lv_istore hx hb d_E_unitCost_28 hl (by decide) rfl (fun ls hl => ?_)
      have hl : lv_has ls 8 [(5, .int (eI (eh_so n ys 5))), (4, .int (eI 1)), (3, .int (eI 1)), (0, .ref (ad 0)), (1, .int (eI ((5 : Nat) : Int))), (2, .int (eI ((si : Nat) : Int)))] := hl
      refine lv_aload_n hx hb d_E_unitCost_30 rfl (lv_at hl 3 rfl) ?_
      refine lv_iload_n hx hb d_E_unitCost_31 rfl (lv_at hl 5 rfl) ?_
      refine eh_cRV (As := [.int (eI ((si : Nat) : Int))]) (rest := []) (v := .int (eI (eh_si n ys si))) (q := (R_E, T_E, 11)) hx hb hml hown htb hN (r_E_spanOfSink l D cI cL cZ cS cY ad n sh ra plv pco ln cb la cu cl fu fl ys yl yp si hsi hE) 1 ⟨tb_223, tb_225, ts_11, tb_1, kin_E_spanOfSink⟩ dv_E_spanOfSink ⟨by rw [hR1]; decide, by rw [hR2]; decide⟩ hK hP 0 rfl rfl [0, 1, 2, 3, 4, 5, 6, 7, 8, 9, 10, 11, 12, 13, 14, 15, 16, 17, 18, 19, 20, 21, 22, 23] rfl [0, 1, 2, 3, 4] rfl rfl rfl hl.1 (Nat.le_of_ble_eq_true rfl) d_E_unitCost_32 ⟨Nat.zero_le _, Nat.zero_le _⟩ ?_
      refine lv_istore hx hb d_E_unitCost_35 hl (by decide) rfl (fun ls hl => ?_)
      have hl : lv_has ls 8 [(6, .int (eI (eh_si n ys si))), (5, .int (eI (eh_so n ys 5))), (4, .int (eI 1)), (3, .int (eI 1)), (0, .ref (ad 0)), (1, .int (eI ((5 : Nat) : Int))), (2, .int (eI ((si : Nat) : Int)))] := hl
      refine lv_iload_n hx hb d_E_unitCost_37 rfl (lv_at hl 3 rfl) ?_
      refine we_if_eq (tgt := 46) hx hb (by constructor <;> omega) d_E_unitCost_38 rfl (fun hc38 => absurd hc38 (by omega)) (fun hc38 => ?_)
      refine lv_iload hx hb d_E_unitCost_41 (lv_at hl 2 rfl) ?_
      refine we_if_ne (tgt := 69) hx hb (by constructor <;> omega) d_E_unitCost_43 rfl (fun hc43 => ?_) (fun hc43 => absurd hc43 (by omega))
      refine lv_iconst (v := eI (-1)) hx hb d_E_unitCost_69 rfl ?_
      have hres : ((-1) : Int) = (eh_ku n ra ln cb ys yp 5 si) := (eh_ku_1 (by omega)).symm
      rw [hres]
      subst hQ
      exact W.iret hx hb hrt (fun t9 ht hW => ⟨rfl, ht⟩) (fun q h => by cases h) d_E_unitCost_70
