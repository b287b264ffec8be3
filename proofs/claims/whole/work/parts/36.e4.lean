abbrev c_E_balance : ByteArray := prog_1_method_10_code
def y_E_balance : MethodName := ⟨"EarthHauls", "balance", "(I)I"⟩
abbrev k_E_balance : Cond := .code y_E_balance c_E_balance 6 (some .int)
theorem kin_E_balance : k_E_balance ∈ ew_t := tb_165
theorem dv_E_balance : eh_dV y_E_balance "EarthHauls" 1 := ⟨rfl, by decide, by decide, by decide +kernel⟩
theorem d_E_balance_0 : decode c_E_balance 0 = .ok (.iconst 0, 1) := by decide +kernel
theorem d_E_balance_1 : decode c_E_balance 1 = .ok (.istore_n 2, 1) := by decide +kernel
theorem d_E_balance_2 : decode c_E_balance 2 = .ok (.iconst 0, 1) := by decide +kernel
theorem d_E_balance_3 : decode c_E_balance 3 = .ok (.istore_n 3, 1) := by decide +kernel
theorem d_E_balance_4 : decode c_E_balance 4 = .ok (.iconst 0, 1) := by decide +kernel
theorem d_E_balance_5 : decode c_E_balance 5 = .ok (.istore 4, 2) := by decide +kernel
theorem d_E_balance_7 : decode c_E_balance 7 = .ok (.iload 4, 2) := by decide +kernel
theorem d_E_balance_9 : decode c_E_balance 9 = .ok (.aload_n 0, 1) := by decide +kernel
theorem d_E_balance_10 : decode c_E_balance 10 = .ok (.getfield 57, 3) := by decide +kernel
theorem d_E_balance_13 : decode c_E_balance 13 = .ok (.if_icmp .ge 76, 3) := by decide +kernel
theorem d_E_balance_16 : decode c_E_balance 16 = .ok (.iload 4, 2) := by decide +kernel
theorem d_E_balance_18 : decode c_E_balance 18 = .ok (.ifCond .ne 7, 3) := by decide +kernel
theorem d_E_balance_21 : decode c_E_balance 21 = .ok (.iconst 0, 1) := by decide +kernel
theorem d_E_balance_22 : decode c_E_balance 22 = .ok (.goto 22, 3) := by decide +kernel
theorem d_E_balance_25 : decode c_E_balance 25 = .ok (.iload_n 3, 1) := by decide +kernel
theorem d_E_balance_26 : decode c_E_balance 26 = .ok (.aload_n 0, 1) := by decide +kernel
theorem d_E_balance_27 : decode c_E_balance 27 = .ok (.iload 4, 2) := by decide +kernel
theorem d_E_balance_29 : decode c_E_balance 29 = .ok (.iconst 1, 1) := by decide +kernel
theorem d_E_balance_30 : decode c_E_balance 30 = .ok (.isub, 1) := by decide +kernel
theorem d_E_balance_31 : decode c_E_balance 31 = .ok (.invokevirtual 121, 3) := by decide +kernel
theorem d_E_balance_34 : decode c_E_balance 34 = .ok (.iadd, 1) := by decide +kernel
theorem d_E_balance_35 : decode c_E_balance 35 = .ok (.aload_n 0, 1) := by decide +kernel
theorem d_E_balance_36 : decode c_E_balance 36 = .ok (.iload 4, 2) := by decide +kernel
theorem d_E_balance_38 : decode c_E_balance 38 = .ok (.iconst 1, 1) := by decide +kernel
theorem d_E_balance_39 : decode c_E_balance 39 = .ok (.isub, 1) := by decide +kernel
theorem d_E_balance_40 : decode c_E_balance 40 = .ok (.invokevirtual 118, 3) := by decide +kernel
theorem d_E_balance_43 : decode c_E_balance 43 = .ok (.isub, 1) := by decide +kernel
theorem d_E_balance_44 : decode c_E_balance 44 = .ok (.istore 5, 2) := by decide +kernel
theorem d_E_balance_46 : decode c_E_balance 46 = .ok (.iload 5, 2) := by decide +kernel
theorem d_E_balance_48 : decode c_E_balance 48 = .ok (.ifCond .eq 21, 3) := by decide +kernel
theorem d_E_balance_51 : decode c_E_balance 51 = .ok (.iload 5, 2) := by decide +kernel
theorem d_E_balance_53 : decode c_E_balance 53 = .ok (.ifCond .ge 7, 3) := by decide +kernel
theorem d_E_balance_56 : decode c_E_balance 56 = .ok (.iload_n 3, 1) := by decide +kernel
theorem d_E_balance_57 : decode c_E_balance 57 = .ok (.ifCond .gt 12, 3) := by decide +kernel
theorem d_E_balance_60 : decode c_E_balance 60 = .ok (.iload 5, 2) := by decide +kernel
theorem d_E_balance_62 : decode c_E_balance 62 = .ok (.ifCond .le 18, 3) := by decide +kernel
theorem d_E_balance_65 : decode c_E_balance 65 = .ok (.iload_n 3, 1) := by decide +kernel
theorem d_E_balance_66 : decode c_E_balance 66 = .ok (.ifCond .ge 14, 3) := by decide +kernel
theorem d_E_balance_69 : decode c_E_balance 69 = .ok (.iload_n 2, 1) := by decide +kernel
theorem d_E_balance_70 : decode c_E_balance 70 = .ok (.iload_n 1, 1) := by decide +kernel
theorem d_E_balance_71 : decode c_E_balance 71 = .ok (.if_icmp .ne 6, 3) := by decide +kernel
theorem d_E_balance_74 : decode c_E_balance 74 = .ok (.iload 4, 2) := by decide +kernel
theorem d_E_balance_76 : decode c_E_balance 76 = .ok (.ireturn, 1) := by decide +kernel
theorem d_E_balance_77 : decode c_E_balance 77 = .ok (.iinc 2 1, 3) := by decide +kernel
theorem d_E_balance_80 : decode c_E_balance 80 = .ok (.iload 5, 2) := by decide +kernel
theorem d_E_balance_82 : decode c_E_balance 82 = .ok (.istore_n 3, 1) := by decide +kernel
theorem d_E_balance_83 : decode c_E_balance 83 = .ok (.iinc 4 1, 3) := by decide +kernel
theorem d_E_balance_86 : decode c_E_balance 86 = .ok (.goto (-79), 3) := by decide +kernel
theorem d_E_balance_89 : decode c_E_balance 89 = .ok (.iconst (-1), 1) := by decide +kernel
theorem d_E_balance_90 : decode c_E_balance 90 = .ok (.ireturn, 1) := by decide +kernel
set_option maxHeartbeats 1000000 in
set_option maxRecDepth 100000 in
theorem r_E_balance (l : Launch) (D : va_G) (cI cL cZ cS cY : ClassId) (ad : Nat → Nat) (n : Nat) (sh ra plv pco : Int) (ln cb la : Nat → Int) (cu cl fu fl : Nat → Nat) (ys yl yp : Nat → Int) (y : Int) (h1 : -2147483648 ≤ y ∧ y < 2147483648) (hE : eh_ES n sh ra ln cb la cu cl fu fl ys yl yp) : eh_R l y_E_balance k_E_balance 3 68 D classes [(cI, .int), (cL, .long), (cZ, .boolean), (cS, .object "EarthHauls$Section"), (cY, .object "EarthHauls$Yard")] [.ref (ad 0), .int (eI y)] [((ad 0), .inr (4, [.ref (ad 1), .ref (ad 2), .ref (ad 3), .ref (ad 4), .ref (ad 5), .ref (ad 24), .int (eI ((n : Nat) : Int)), .int (eI sh), .int (eI ra), .int (eI plv), .long (eL pco)])), ((ad 1), .inl (cS, 5, .inr (.inr (.inr (.inr (eh_o5 (ad 6) (ad 7) (ad 8) (ad 9) (ad 10))))))), ((ad 2), aI cI 4 ln), ((ad 3), aI cZ 3 cb), ((ad 4), .inl (cY, 3, .inr (.inr (.inr (.inr (eh_o3 (ad 21) (ad 22) (ad 23))))))), ((ad 5), aI cI 30 la), ((ad 6), .inr (2, [.ref (ad 11), .ref (ad 16)])), ((ad 7), .inr (2, [.ref (ad 12), .ref (ad 17)])), ((ad 8), .inr (2, [.ref (ad 13), .ref (ad 18)])), ((ad 9), .inr (2, [.ref (ad 14), .ref (ad 19)])), ((ad 10), .inr (2, [.ref (ad 15), .ref (ad 20)])), ((ad 11), .inr (0, [.long (eL ((cu 0 : Nat) : Int)), .long (eL ((cl 0 : Nat) : Int))])), ((ad 12), .inr (0, [.long (eL ((cu 1 : Nat) : Int)), .long (eL ((cl 1 : Nat) : Int))])), ((ad 13), .inr (0, [.long (eL ((cu 2 : Nat) : Int)), .long (eL ((cl 2 : Nat) : Int))])), ((ad 14), .inr (0, [.long (eL ((cu 3 : Nat) : Int)), .long (eL ((cl 3 : Nat) : Int))])), ((ad 15), .inr (0, [.long (eL ((cu 4 : Nat) : Int)), .long (eL ((cl 4 : Nat) : Int))])), ((ad 16), .inr (0, [.long (eL ((fu 0 : Nat) : Int)), .long (eL ((fl 0 : Nat) : Int))])), ((ad 17), .inr (0, [.long (eL ((fu 1 : Nat) : Int)), .long (eL ((fl 1 : Nat) : Int))])), ((ad 18), .inr (0, [.long (eL ((fu 2 : Nat) : Int)), .long (eL ((fl 2 : Nat) : Int))])), ((ad 19), .inr (0, [.long (eL ((fu 3 : Nat) : Int)), .long (eL ((fl 3 : Nat) : Int))])), ((ad 20), .inr (0, [.long (eL ((fu 4 : Nat) : Int)), .long (eL ((fl 4 : Nat) : Int))])), ((ad 21), .inr (3, [.int (eI (ys 0)), .int (eI (yl 0)), .int (eI (yp 0))])), ((ad 22), .inr (3, [.int (eI (ys 1)), .int (eI (yl 1)), .int (eI (yp 1))])), ((ad 23), .inr (3, [.int (eI (ys 2)), .int (eI (yl 2)), .int (eI (yp 2))]))] (.int (eI (eh_bl (eh_cv cu cl fu fl ln sh) n y))) := by
  refine Met.ofW (cc := c_E_balance) (maxL := 6) (ret := (some .int)) (by decide) rfl ?_
  intro p e s m args below meth c s₁ B hml hv
  obtain ⟨hargs, hP, hK, hN⟩ := hv
  have hx := B.exec
  have hb := B.bytes
  have hrt := B.returns
  have hts := atoms_spec (ws := k_E_balance :: ew_t) B.pre
  have htb : ∀ w ∈ ew_t, w.before args s = true := fun w h => hts w (List.mem_cons_of_mem _ h)
  have hown : s.vm.findClass "EarthHauls" = some m.cls := findClass_of_methodNamed B.named
  have hlocks := B.notSynchronized
  have hE : entryFrame m args 6 = entryFrame m ([.ref (ad 0), .int (eI y)] : List Value).toArray 6 := by rw [hargs]
  rw [hE]
  clear hE hts B hargs
  generalize hRe : (headSpec _ _).room = R
  have hR1 : R.frames = 3 := by rw [← hRe]; rfl
  have hR2 : R.locals = 68 := by rw [← hRe]; rfl
  clear hRe
  generalize hQ : MQ below _ _ s 0 0 _ = Q
  have hP : va_P D classes [((ad 0), .inr (4, [.ref (ad 1), .ref (ad 2), .ref (ad 3), .ref (ad 4), .ref (ad 5), .ref (ad 24), .int (eI ((n : Nat) : Int)), .int (eI sh), .int (eI ra), .int (eI plv), .long (eL pco)])), ((ad 1), .inl (cS, 5, .inr (.inr (.inr (.inr (eh_o5 (ad 6) (ad 7) (ad 8) (ad 9) (ad 10))))))), ((ad 2), aI cI 4 ln), ((ad 3), aI cZ 3 cb), ((ad 4), .inl (cY, 3, .inr (.inr (.inr (.inr (eh_o3 (ad 21) (ad 22) (ad 23))))))), ((ad 5), aI cI 30 la), ((ad 6), .inr (2, [.ref (ad 11), .ref (ad 16)])), ((ad 7), .inr (2, [.ref (ad 12), .ref (ad 17)])), ((ad 8), .inr (2, [.ref (ad 13), .ref (ad 18)])), ((ad 9), .inr (2, [.ref (ad 14), .ref (ad 19)])), ((ad 10), .inr (2, [.ref (ad 15), .ref (ad 20)])), ((ad 11), .inr (0, [.long (eL ((cu 0 : Nat) : Int)), .long (eL ((cl 0 : Nat) : Int))])), ((ad 12), .inr (0, [.long (eL ((cu 1 : Nat) : Int)), .long (eL ((cl 1 : Nat) : Int))])), ((ad 13), .inr (0, [.long (eL ((cu 2 : Nat) : Int)), .long (eL ((cl 2 : Nat) : Int))])), ((ad 14), .inr (0, [.long (eL ((cu 3 : Nat) : Int)), .long (eL ((cl 3 : Nat) : Int))])), ((ad 15), .inr (0, [.long (eL ((cu 4 : Nat) : Int)), .long (eL ((cl 4 : Nat) : Int))])), ((ad 16), .inr (0, [.long (eL ((fu 0 : Nat) : Int)), .long (eL ((fl 0 : Nat) : Int))])), ((ad 17), .inr (0, [.long (eL ((fu 1 : Nat) : Int)), .long (eL ((fl 1 : Nat) : Int))])), ((ad 18), .inr (0, [.long (eL ((fu 2 : Nat) : Int)), .long (eL ((fl 2 : Nat) : Int))])), ((ad 19), .inr (0, [.long (eL ((fu 3 : Nat) : Int)), .long (eL ((fl 3 : Nat) : Int))])), ((ad 20), .inr (0, [.long (eL ((fu 4 : Nat) : Int)), .long (eL ((fl 4 : Nat) : Int))])), ((ad 21), .inr (3, [.int (eI (ys 0)), .int (eI (yl 0)), .int (eI (yp 0))])), ((ad 22), .inr (3, [.int (eI (ys 1)), .int (eI (yl 1)), .int (eI (yp 1))])), ((ad 23), .inr (3, [.int (eI (ys 2)), .int (eI (yl 2)), .int (eI (yp 2))]))] s.heap := hP
  have hl := lv_entry ([.ref (ad 0), .int (eI y)]) (n := 6) (Nat.le_of_ble_eq_true rfl)
  rw [lg_entry_eq]
  generalize (lg_sl ([.ref (ad 0), .int (eI y)]) ++ List.replicate (6 - (lg_sl ([.ref (ad 0), .int (eI y)])).length) Slot.unset).toArray = ls at hl ⊢
  have hl : lv_has ls 6 [(0, .ref (ad 0)), (1, .int (eI y))] := hl
  have hn5 := hE.1
  refine lv_iconst (v := eI 0) hx hb d_E_balance_0 rfl ?_
  refine lv_istore_n hx hb d_E_balance_1 rfl hl (by decide) rfl (fun ls hl => ?_)
  have hl : lv_has ls 6 [(2, .int (eI 0)), (0, .ref (ad 0)), (1, .int (eI y))] := hl
  refine lv_iconst (v := eI 0) hx hb d_E_balance_2 rfl ?_
  refine lv_istore_n hx hb d_E_balance_3 rfl hl (by decide) rfl (fun ls hl => ?_)
  have hl : lv_has ls 6 [(3, .int (eI 0)), (2, .int (eI 0)), (0, .ref (ad 0)), (1, .int (eI y))] := hl
  refine lv_iconst (v := eI 0) hx hb d_E_balance_4 rfl ?_
  refine lv_istore hx hb d_E_balance_5 hl (by decide) rfl (fun ls hl => ?_)
  have hl : lv_has ls 6 [(4, .int (eI 0)), (3, .int (eI 0)), (2, .int (eI 0)), (0, .ref (ad 0)), (1, .int (eI y))] := hl
  have loop : ∀ (q k : Nat) (bf : Int) (ls : Array Slot), n - k = q → k ≤ n → bf = (if k = 0 then 0 else (eh_cv cu cl fu fl ln sh) (k - 1)) → eh_first (fun k => eh_isb (eh_cv cu cl fu fl ln sh) k && decide (eh_bc (eh_cv cu cl fu fl ln sh) k = y)) k = none → lv_has ls 6 [(4, .int (eI ((k : Nat) : Int))), (3, .int (eI bf)), (2, .int (eI (eh_bc (eh_cv cu cl fu fl ln sh) k))), (0, .ref (ad 0)), (1, .int (eI y))] → W p l e R s m args below meth c s.heap [] 0 0 Q (F0 m 7 ls []) := by
    intro q
    induction q with
    | zero =>
      intro k bf ls hq hk hbf hf hl
      have hkn : k = n := by omega
      subst hkn
      refine lv_iload hx hb d_E_balance_7 (lv_at hl 0 rfl) ?_
      refine lv_aload_n hx hb d_E_balance_9 rfl (lv_at hl 3 rfl) ?_
      refine va_get (D := D) (ci := 4) (v := .int (eI ((k : Nat) : Int))) (C := R_E) (T := T_E) (N := 11) hx hb htb in_E hown hK hP 0 rfl rfl 6 (by decide) (htb _ tb_130) (fun _ h9 => h9) rfl d_E_balance_10 ?_
      refine we_icmp_ge (tgt := 89) hx hb (by constructor <;> omega) (by constructor <;> omega) d_E_balance_13 rfl (fun hc13 => ?_) (fun hc13 => absurd hc13 (by omega))
      refine lv_iconst (v := eI (-1)) hx hb d_E_balance_89 rfl ?_
      have hres : (-1 : Int) = (eh_bl (eh_cv cu cl fu fl ln sh) k y) := by
        unfold eh_bl
        rw [hf]
        rfl
      rw [hres]
      subst hQ
      exact W.iret hx hb hrt (fun t9 ht hW => ⟨rfl, ht⟩) (fun q h => by cases h) d_E_balance_90
    | succ q ih =>
      intro k bf ls hq hk hbf hf hl
      have hcb := eh_bc_b (eh_cv cu cl fu fl ln sh) k
      have hck := eh_cv_b hE k (by omega)
      have hck1 := eh_cv_b hE (k - 1) (by omega)
      have hbb : -50000000 ≤ bf ∧ bf ≤ 50000000 := by rw [hbf]; split <;> omega
      refine lv_iload hx hb d_E_balance_7 (lv_at hl 0 rfl) ?_
      refine lv_aload_n hx hb d_E_balance_9 rfl (lv_at hl 3 rfl) ?_
      refine va_get (D := D) (ci := 4) (v := .int (eI ((n : Nat) : Int))) (C := R_E) (T := T_E) (N := 11) hx hb htb in_E hown hK hP 0 rfl rfl 6 (by decide) (htb _ tb_130) (fun _ h9 => h9) rfl d_E_balance_10 ?_
      refine we_icmp_ge (tgt := 89) hx hb (by constructor <;> omega) (by constructor <;> omega) d_E_balance_13 rfl (fun hc13 => absurd hc13 (by omega)) (fun hc13 => ?_)
      refine lv_iload hx hb d_E_balance_16 (lv_at hl 0 rfl) ?_
      refine we_if_ne (tgt := 25) hx hb (by constructor <;> omega) d_E_balance_18 rfl (fun hc18 => ?_) (fun hc18 => ?_)
      ·
        have hpl := eh_plc_b hE (show k - 1 + 1 < n by omega)
        have hfl := eh_fil_b hE (show k - 1 + 1 < n by omega)
        have hnow : ((bf + (eh_plc cu cl ln sh (k - 1))) - (eh_kut fu fl ln (k - 1))) = (eh_cv cu cl fu fl ln sh) k := by
          have z : k = k - 1 + 1 := by omega
          have z2 : (eh_cv cu cl fu fl ln sh) (k - 1 + 1) = (eh_cv cu cl fu fl ln sh) (k - 1) + (eh_plc cu cl ln sh (k - 1) - eh_kut fu fl ln (k - 1)) := rfl
          rw [← z] at z2
          rw [z2, hbf, if_neg (by omega)]
          omega
        refine lv_iload_n hx hb d_E_balance_25 rfl (lv_at hl 1 rfl) ?_
        refine lv_aload_n hx hb d_E_balance_26 rfl (lv_at hl 3 rfl) ?_
        refine lv_iload hx hb d_E_balance_27 (lv_at hl 0 rfl) ?_
        refine lv_iconst (v := eI 1) hx hb d_E_balance_29 rfl ?_
        refine we_isub hx hb d_E_balance_30 ?_
        rw [show (((k : Nat) : Int) - 1) = ((k - 1 : Nat) : Int) by omega]
        refine eh_cRV (As := [.int (eI ((k - 1 : Nat) : Int))]) (rest := [.int (eI bf)]) (v := .int (eI (eh_plc cu cl ln sh (k - 1)))) (q := (R_E, T_E, 11)) hx hb hml hown htb hN (r_E_placedOf l D cI cL cZ cS cY ad n sh ra plv pco ln cb la cu cl fu fl ys yl yp (k - 1) (by omega) hE) 1 ⟨tb_166, tb_168, ts_1, tb_1, kin_E_placedOf⟩ dv_E_placedOf ⟨by rw [hR1]; decide, by rw [hR2]; decide⟩ hK hP 0 rfl rfl [0, 1, 2, 3, 4, 5, 6, 7, 8, 9, 10, 11, 12, 13, 14, 15, 16, 17, 18, 19, 20, 21, 22, 23] rfl [0, 1, 2, 3, 4] rfl rfl rfl hl.1 (Nat.le_of_ble_eq_true rfl) d_E_balance_31 ⟨Nat.zero_le _, Nat.zero_le _⟩ ?_
        refine we_iadd hx hb d_E_balance_34 ?_
        refine lv_aload_n hx hb d_E_balance_35 rfl (lv_at hl 3 rfl) ?_
        refine lv_iload hx hb d_E_balance_36 (lv_at hl 0 rfl) ?_
        refine lv_iconst (v := eI 1) hx hb d_E_balance_38 rfl ?_
        refine we_isub hx hb d_E_balance_39 ?_
        rw [show (((k : Nat) : Int) - 1) = ((k - 1 : Nat) : Int) by omega]
        refine eh_cRV (As := [.int (eI ((k - 1 : Nat) : Int))]) (rest := [.int (eI (bf + (eh_plc cu cl ln sh (k - 1))))]) (v := .int (eI (eh_kut fu fl ln (k - 1)))) (q := (R_E, T_E, 11)) hx hb hml hown htb hN (r_E_fillOf l D cI cL cZ cS cY ad n sh ra plv pco ln cb la cu cl fu fl ys yl yp (k - 1) (by omega) hE) 1 ⟨tb_180, tb_182, ts_3, tb_1, kin_E_fillOf⟩ dv_E_fillOf ⟨by rw [hR1]; decide, by rw [hR2]; decide⟩ hK hP 0 rfl rfl [0, 1, 2, 3, 4, 5, 6, 7, 8, 9, 10, 11, 12, 13, 14, 15, 16, 17, 18, 19, 20, 21, 22, 23] rfl [0, 1, 2, 3, 4] rfl rfl rfl hl.1 (Nat.le_of_ble_eq_true rfl) d_E_balance_40 ⟨Nat.zero_le _, Nat.zero_le _⟩ ?_
        refine we_isub hx hb d_E_balance_43 ?_
        refine lv_istore hx hb d_E_balance_44 hl (by decide) rfl (fun ls hl => ?_)
        have hl : lv_has ls 6 [(5, .int (eI ((bf + (eh_plc cu cl ln sh (k - 1))) - (eh_kut fu fl ln (k - 1))))), (4, .int (eI ((k : Nat) : Int))), (3, .int (eI bf)), (2, .int (eI (eh_bc (eh_cv cu cl fu fl ln sh) k))), (0, .ref (ad 0)), (1, .int (eI y))] := hl
        refine lv_iload hx hb d_E_balance_46 (lv_at hl 0 rfl) ?_
        refine we_if_eq (tgt := 69) hx hb (by constructor <;> omega) d_E_balance_48 rfl (fun hc48 => ?_) (fun hc48 => ?_)
        ·
          refine lv_iload_n hx hb d_E_balance_69 rfl (lv_at hl 3 rfl) ?_
          refine lv_iload_n hx hb d_E_balance_70 rfl (lv_at hl 5 rfl) ?_
          refine we_icmp_ne (tgt := 77) hx hb (by constructor <;> omega) (by constructor <;> omega) d_E_balance_71 rfl (fun hc71 => ?_) (fun hc71 => ?_)
          ·
            refine lv_iinc (v := eI ((eh_bc (eh_cv cu cl fu fl ln sh) k) + 1)) hx hb d_E_balance_77 hl (k := 3) rfl (eI_add _ _) (by decide) rfl (fun ls hl => ?_)
            have hl : lv_has ls 6 [(2, .int (eI ((eh_bc (eh_cv cu cl fu fl ln sh) k) + 1))), (5, .int (eI ((bf + (eh_plc cu cl ln sh (k - 1))) - (eh_kut fu fl ln (k - 1))))), (4, .int (eI ((k : Nat) : Int))), (3, .int (eI bf)), (0, .ref (ad 0)), (1, .int (eI y))] := hl
            refine lv_iload hx hb d_E_balance_80 (lv_at hl 1 rfl) ?_
            refine lv_istore_n hx hb d_E_balance_82 rfl hl (by decide) rfl (fun ls hl => ?_)
            have hl : lv_has ls 6 [(3, .int (eI ((bf + (eh_plc cu cl ln sh (k - 1))) - (eh_kut fu fl ln (k - 1))))), (2, .int (eI ((eh_bc (eh_cv cu cl fu fl ln sh) k) + 1))), (5, .int (eI ((bf + (eh_plc cu cl ln sh (k - 1))) - (eh_kut fu fl ln (k - 1))))), (4, .int (eI ((k : Nat) : Int))), (0, .ref (ad 0)), (1, .int (eI y))] := hl
            refine lv_iinc (v := eI (((k : Nat) : Int) + 1)) hx hb d_E_balance_83 hl (k := 3) rfl (eI_add _ _) (by decide) rfl (fun ls hl => ?_)
            have hl : lv_has ls 6 [(4, .int (eI (((k : Nat) : Int) + 1))), (3, .int (eI ((bf + (eh_plc cu cl ln sh (k - 1))) - (eh_kut fu fl ln (k - 1))))), (2, .int (eI ((eh_bc (eh_cv cu cl fu fl ln sh) k) + 1))), (5, .int (eI ((bf + (eh_plc cu cl ln sh (k - 1))) - (eh_kut fu fl ln (k - 1))))), (0, .ref (ad 0)), (1, .int (eI y))] := hl
            refine lv_goto (tgt := 7) hx hb d_E_balance_86 rfl ?_
            have hib : eh_isb (eh_cv cu cl fu fl ln sh) k = true := by
              unfold eh_isb
              rw [← hbf, ← hnow]
              exact decide_eq_true (by omega)
            have hp9 : (fun k => eh_isb (eh_cv cu cl fu fl ln sh) k && decide (eh_bc (eh_cv cu cl fu fl ln sh) k = y)) k = false := by
              show (eh_isb (eh_cv cu cl fu fl ln sh) k && decide (eh_bc (eh_cv cu cl fu fl ln sh) k = y)) = false
              rw [hib]
              exact decide_eq_false (by omega)
            have hs9 : ((eh_bc (eh_cv cu cl fu fl ln sh) k) + 1) = eh_bc (eh_cv cu cl fu fl ln sh) (k + 1) := by
              show _ = eh_bc (eh_cv cu cl fu fl ln sh) k + (if eh_isb (eh_cv cu cl fu fl ln sh) k then 1 else 0)
              rw [hib]
              simp
            rw [hs9] at hl
            exact ih (k + 1) _ ls (by omega) (by omega) (by rw [if_neg (by omega), Nat.add_sub_cancel]; exact hnow) (eh_first_s hf hp9) (lv_sub hl [0, 1, 2, 4, 5] rfl)
          ·
            refine lv_iload hx hb d_E_balance_74 (lv_at hl 1 rfl) ?_
            have hib : eh_isb (eh_cv cu cl fu fl ln sh) k = true := by
              unfold eh_isb
              rw [← hbf, ← hnow]
              exact decide_eq_true (by omega)
            have hp9 : (fun k => eh_isb (eh_cv cu cl fu fl ln sh) k && decide (eh_bc (eh_cv cu cl fu fl ln sh) k = y)) k = true := by
              show (eh_isb (eh_cv cu cl fu fl ln sh) k && decide (eh_bc (eh_cv cu cl fu fl ln sh) k = y)) = true
              rw [hib]
              exact decide_eq_true (by omega)
            have hres : ((k : Nat) : Int) = (eh_bl (eh_cv cu cl fu fl ln sh) n y) := by
              unfold eh_bl
              rw [eh_first_at hf hp9 n (by omega)]
              show _ = (0 : Int) + (k : Int)
              omega
            rw [hres]
            subst hQ
            exact W.iret hx hb hrt (fun t9 ht hW => ⟨rfl, ht⟩) (fun q h => by cases h) d_E_balance_76
        ·
          refine lv_iload hx hb d_E_balance_51 (lv_at hl 0 rfl) ?_
          refine we_if_ge (tgt := 60) hx hb (by constructor <;> omega) d_E_balance_53 rfl (fun hc53 => ?_) (fun hc53 => ?_)
          ·
            refine lv_iload hx hb d_E_balance_60 (lv_at hl 0 rfl) ?_
            refine we_if_le (tgt := 80) hx hb (by constructor <;> omega) d_E_balance_62 rfl (fun hc62 => ?_) (fun hc62 => ?_)
            ·
              refine lv_iload hx hb d_E_balance_80 (lv_at hl 0 rfl) ?_
              refine lv_istore_n hx hb d_E_balance_82 rfl hl (by decide) rfl (fun ls hl => ?_)
              have hl : lv_has ls 6 [(3, .int (eI ((bf + (eh_plc cu cl ln sh (k - 1))) - (eh_kut fu fl ln (k - 1))))), (5, .int (eI ((bf + (eh_plc cu cl ln sh (k - 1))) - (eh_kut fu fl ln (k - 1))))), (4, .int (eI ((k : Nat) : Int))), (2, .int (eI (eh_bc (eh_cv cu cl fu fl ln sh) k))), (0, .ref (ad 0)), (1, .int (eI y))] := hl
              refine lv_iinc (v := eI (((k : Nat) : Int) + 1)) hx hb d_E_balance_83 hl (k := 2) rfl (eI_add _ _) (by decide) rfl (fun ls hl => ?_)
              have hl : lv_has ls 6 [(4, .int (eI (((k : Nat) : Int) + 1))), (3, .int (eI ((bf + (eh_plc cu cl ln sh (k - 1))) - (eh_kut fu fl ln (k - 1))))), (5, .int (eI ((bf + (eh_plc cu cl ln sh (k - 1))) - (eh_kut fu fl ln (k - 1))))), (2, .int (eI (eh_bc (eh_cv cu cl fu fl ln sh) k))), (0, .ref (ad 0)), (1, .int (eI y))] := hl
              refine lv_goto (tgt := 7) hx hb d_E_balance_86 rfl ?_
              have hib : eh_isb (eh_cv cu cl fu fl ln sh) k = false := by
                unfold eh_isb
                rw [← hbf, ← hnow]
                exact decide_eq_false (by omega)
              have hp9 : (fun k => eh_isb (eh_cv cu cl fu fl ln sh) k && decide (eh_bc (eh_cv cu cl fu fl ln sh) k = y)) k = false := by
                show (eh_isb (eh_cv cu cl fu fl ln sh) k && decide (eh_bc (eh_cv cu cl fu fl ln sh) k = y)) = false
                rw [hib]
                rfl
              have hs9 : (eh_bc (eh_cv cu cl fu fl ln sh) k) = eh_bc (eh_cv cu cl fu fl ln sh) (k + 1) := by
                show _ = eh_bc (eh_cv cu cl fu fl ln sh) k + (if eh_isb (eh_cv cu cl fu fl ln sh) k then 1 else 0)
                rw [hib]
                simp
              rw [hs9] at hl
              exact ih (k + 1) _ ls (by omega) (by omega) (by rw [if_neg (by omega), Nat.add_sub_cancel]; exact hnow) (eh_first_s hf hp9) (lv_sub hl [0, 1, 3, 4, 5] rfl)
            ·
              refine lv_iload_n hx hb d_E_balance_65 rfl (lv_at hl 2 rfl) ?_
              refine we_if_ge (tgt := 80) hx hb (by constructor <;> omega) d_E_balance_66 rfl (fun hc66 => ?_) (fun hc66 => ?_)
              ·
                refine lv_iload hx hb d_E_balance_80 (lv_at hl 0 rfl) ?_
                refine lv_istore_n hx hb d_E_balance_82 rfl hl (by decide) rfl (fun ls hl => ?_)
                have hl : lv_has ls 6 [(3, .int (eI ((bf + (eh_plc cu cl ln sh (k - 1))) - (eh_kut fu fl ln (k - 1))))), (5, .int (eI ((bf + (eh_plc cu cl ln sh (k - 1))) - (eh_kut fu fl ln (k - 1))))), (4, .int (eI ((k : Nat) : Int))), (2, .int (eI (eh_bc (eh_cv cu cl fu fl ln sh) k))), (0, .ref (ad 0)), (1, .int (eI y))] := hl
                refine lv_iinc (v := eI (((k : Nat) : Int) + 1)) hx hb d_E_balance_83 hl (k := 2) rfl (eI_add _ _) (by decide) rfl (fun ls hl => ?_)
                have hl : lv_has ls 6 [(4, .int (eI (((k : Nat) : Int) + 1))), (3, .int (eI ((bf + (eh_plc cu cl ln sh (k - 1))) - (eh_kut fu fl ln (k - 1))))), (5, .int (eI ((bf + (eh_plc cu cl ln sh (k - 1))) - (eh_kut fu fl ln (k - 1))))), (2, .int (eI (eh_bc (eh_cv cu cl fu fl ln sh) k))), (0, .ref (ad 0)), (1, .int (eI y))] := hl
                refine lv_goto (tgt := 7) hx hb d_E_balance_86 rfl ?_
                have hib : eh_isb (eh_cv cu cl fu fl ln sh) k = false := by
                  unfold eh_isb
                  rw [← hbf, ← hnow]
                  exact decide_eq_false (by omega)
                have hp9 : (fun k => eh_isb (eh_cv cu cl fu fl ln sh) k && decide (eh_bc (eh_cv cu cl fu fl ln sh) k = y)) k = false := by
                  show (eh_isb (eh_cv cu cl fu fl ln sh) k && decide (eh_bc (eh_cv cu cl fu fl ln sh) k = y)) = false
                  rw [hib]
                  rfl
                have hs9 : (eh_bc (eh_cv cu cl fu fl ln sh) k) = eh_bc (eh_cv cu cl fu fl ln sh) (k + 1) := by
                  show _ = eh_bc (eh_cv cu cl fu fl ln sh) k + (if eh_isb (eh_cv cu cl fu fl ln sh) k then 1 else 0)
                  rw [hib]
                  simp
                rw [hs9] at hl
                exact ih (k + 1) _ ls (by omega) (by omega) (by rw [if_neg (by omega), Nat.add_sub_cancel]; exact hnow) (eh_first_s hf hp9) (lv_sub hl [0, 1, 3, 4, 5] rfl)
              ·
                refine lv_iload_n hx hb d_E_balance_69 rfl (lv_at hl 3 rfl) ?_
                refine lv_iload_n hx hb d_E_balance_70 rfl (lv_at hl 5 rfl) ?_
                refine we_icmp_ne (tgt := 77) hx hb (by constructor <;> omega) (by constructor <;> omega) d_E_balance_71 rfl (fun hc71 => ?_) (fun hc71 => ?_)
                ·
                  refine lv_iinc (v := eI ((eh_bc (eh_cv cu cl fu fl ln sh) k) + 1)) hx hb d_E_balance_77 hl (k := 3) rfl (eI_add _ _) (by decide) rfl (fun ls hl => ?_)
                  have hl : lv_has ls 6 [(2, .int (eI ((eh_bc (eh_cv cu cl fu fl ln sh) k) + 1))), (5, .int (eI ((bf + (eh_plc cu cl ln sh (k - 1))) - (eh_kut fu fl ln (k - 1))))), (4, .int (eI ((k : Nat) : Int))), (3, .int (eI bf)), (0, .ref (ad 0)), (1, .int (eI y))] := hl
                  refine lv_iload hx hb d_E_balance_80 (lv_at hl 1 rfl) ?_
                  refine lv_istore_n hx hb d_E_balance_82 rfl hl (by decide) rfl (fun ls hl => ?_)
                  have hl : lv_has ls 6 [(3, .int (eI ((bf + (eh_plc cu cl ln sh (k - 1))) - (eh_kut fu fl ln (k - 1))))), (2, .int (eI ((eh_bc (eh_cv cu cl fu fl ln sh) k) + 1))), (5, .int (eI ((bf + (eh_plc cu cl ln sh (k - 1))) - (eh_kut fu fl ln (k - 1))))), (4, .int (eI ((k : Nat) : Int))), (0, .ref (ad 0)), (1, .int (eI y))] := hl
                  refine lv_iinc (v := eI (((k : Nat) : Int) + 1)) hx hb d_E_balance_83 hl (k := 3) rfl (eI_add _ _) (by decide) rfl (fun ls hl => ?_)
                  have hl : lv_has ls 6 [(4, .int (eI (((k : Nat) : Int) + 1))), (3, .int (eI ((bf + (eh_plc cu cl ln sh (k - 1))) - (eh_kut fu fl ln (k - 1))))), (2, .int (eI ((eh_bc (eh_cv cu cl fu fl ln sh) k) + 1))), (5, .int (eI ((bf + (eh_plc cu cl ln sh (k - 1))) - (eh_kut fu fl ln (k - 1))))), (0, .ref (ad 0)), (1, .int (eI y))] := hl
                  refine lv_goto (tgt := 7) hx hb d_E_balance_86 rfl ?_
                  have hib : eh_isb (eh_cv cu cl fu fl ln sh) k = true := by
                    unfold eh_isb
                    rw [← hbf, ← hnow]
                    exact decide_eq_true (by omega)
                  have hp9 : (fun k => eh_isb (eh_cv cu cl fu fl ln sh) k && decide (eh_bc (eh_cv cu cl fu fl ln sh) k = y)) k = false := by
                    show (eh_isb (eh_cv cu cl fu fl ln sh) k && decide (eh_bc (eh_cv cu cl fu fl ln sh) k = y)) = false
                    rw [hib]
                    exact decide_eq_false (by omega)
                  have hs9 : ((eh_bc (eh_cv cu cl fu fl ln sh) k) + 1) = eh_bc (eh_cv cu cl fu fl ln sh) (k + 1) := by
                    show _ = eh_bc (eh_cv cu cl fu fl ln sh) k + (if eh_isb (eh_cv cu cl fu fl ln sh) k then 1 else 0)
                    rw [hib]
                    simp
                  rw [hs9] at hl
                  exact ih (k + 1) _ ls (by omega) (by omega) (by rw [if_neg (by omega), Nat.add_sub_cancel]; exact hnow) (eh_first_s hf hp9) (lv_sub hl [0, 1, 2, 4, 5] rfl)
                ·
                  refine lv_iload hx hb d_E_balance_74 (lv_at hl 1 rfl) ?_
                  have hib : eh_isb (eh_cv cu cl fu fl ln sh) k = true := by
                    unfold eh_isb
                    rw [← hbf, ← hnow]
                    exact decide_eq_true (by omega)
                  have hp9 : (fun k => eh_isb (eh_cv cu cl fu fl ln sh) k && decide (eh_bc (eh_cv cu cl fu fl ln sh) k = y)) k = true := by
                    show (eh_isb (eh_cv cu cl fu fl ln sh) k && decide (eh_bc (eh_cv cu cl fu fl ln sh) k = y)) = true
                    rw [hib]
                    exact decide_eq_true (by omega)
                  have hres : ((k : Nat) : Int) = (eh_bl (eh_cv cu cl fu fl ln sh) n y) := by
                    unfold eh_bl
                    rw [eh_first_at hf hp9 n (by omega)]
                    show _ = (0 : Int) + (k : Int)
                    omega
                  rw [hres]
                  subst hQ
                  exact W.iret hx hb hrt (fun t9 ht hW => ⟨rfl, ht⟩) (fun q h => by cases h) d_E_balance_76
          ·
            refine lv_iload_n hx hb d_E_balance_56 rfl (lv_at hl 2 rfl) ?_
            refine we_if_gt (tgt := 69) hx hb (by constructor <;> omega) d_E_balance_57 rfl (fun hc57 => ?_) (fun hc57 => ?_)
            ·
              refine lv_iload_n hx hb d_E_balance_69 rfl (lv_at hl 3 rfl) ?_
              refine lv_iload_n hx hb d_E_balance_70 rfl (lv_at hl 5 rfl) ?_
              refine we_icmp_ne (tgt := 77) hx hb (by constructor <;> omega) (by constructor <;> omega) d_E_balance_71 rfl (fun hc71 => ?_) (fun hc71 => ?_)
              ·
                refine lv_iinc (v := eI ((eh_bc (eh_cv cu cl fu fl ln sh) k) + 1)) hx hb d_E_balance_77 hl (k := 3) rfl (eI_add _ _) (by decide) rfl (fun ls hl => ?_)
                have hl : lv_has ls 6 [(2, .int (eI ((eh_bc (eh_cv cu cl fu fl ln sh) k) + 1))), (5, .int (eI ((bf + (eh_plc cu cl ln sh (k - 1))) - (eh_kut fu fl ln (k - 1))))), (4, .int (eI ((k : Nat) : Int))), (3, .int (eI bf)), (0, .ref (ad 0)), (1, .int (eI y))] := hl
                refine lv_iload hx hb d_E_balance_80 (lv_at hl 1 rfl) ?_
                refine lv_istore_n hx hb d_E_balance_82 rfl hl (by decide) rfl (fun ls hl => ?_)
                have hl : lv_has ls 6 [(3, .int (eI ((bf + (eh_plc cu cl ln sh (k - 1))) - (eh_kut fu fl ln (k - 1))))), (2, .int (eI ((eh_bc (eh_cv cu cl fu fl ln sh) k) + 1))), (5, .int (eI ((bf + (eh_plc cu cl ln sh (k - 1))) - (eh_kut fu fl ln (k - 1))))), (4, .int (eI ((k : Nat) : Int))), (0, .ref (ad 0)), (1, .int (eI y))] := hl
                refine lv_iinc (v := eI (((k : Nat) : Int) + 1)) hx hb d_E_balance_83 hl (k := 3) rfl (eI_add _ _) (by decide) rfl (fun ls hl => ?_)
                have hl : lv_has ls 6 [(4, .int (eI (((k : Nat) : Int) + 1))), (3, .int (eI ((bf + (eh_plc cu cl ln sh (k - 1))) - (eh_kut fu fl ln (k - 1))))), (2, .int (eI ((eh_bc (eh_cv cu cl fu fl ln sh) k) + 1))), (5, .int (eI ((bf + (eh_plc cu cl ln sh (k - 1))) - (eh_kut fu fl ln (k - 1))))), (0, .ref (ad 0)), (1, .int (eI y))] := hl
                refine lv_goto (tgt := 7) hx hb d_E_balance_86 rfl ?_
                have hib : eh_isb (eh_cv cu cl fu fl ln sh) k = true := by
                  unfold eh_isb
                  rw [← hbf, ← hnow]
                  exact decide_eq_true (by omega)
                have hp9 : (fun k => eh_isb (eh_cv cu cl fu fl ln sh) k && decide (eh_bc (eh_cv cu cl fu fl ln sh) k = y)) k = false := by
                  show (eh_isb (eh_cv cu cl fu fl ln sh) k && decide (eh_bc (eh_cv cu cl fu fl ln sh) k = y)) = false
                  rw [hib]
                  exact decide_eq_false (by omega)
                have hs9 : ((eh_bc (eh_cv cu cl fu fl ln sh) k) + 1) = eh_bc (eh_cv cu cl fu fl ln sh) (k + 1) := by
                  show _ = eh_bc (eh_cv cu cl fu fl ln sh) k + (if eh_isb (eh_cv cu cl fu fl ln sh) k then 1 else 0)
                  rw [hib]
                  simp
                rw [hs9] at hl
                exact ih (k + 1) _ ls (by omega) (by omega) (by rw [if_neg (by omega), Nat.add_sub_cancel]; exact hnow) (eh_first_s hf hp9) (lv_sub hl [0, 1, 2, 4, 5] rfl)
              ·
                refine lv_iload hx hb d_E_balance_74 (lv_at hl 1 rfl) ?_
                have hib : eh_isb (eh_cv cu cl fu fl ln sh) k = true := by
                  unfold eh_isb
                  rw [← hbf, ← hnow]
                  exact decide_eq_true (by omega)
                have hp9 : (fun k => eh_isb (eh_cv cu cl fu fl ln sh) k && decide (eh_bc (eh_cv cu cl fu fl ln sh) k = y)) k = true := by
                  show (eh_isb (eh_cv cu cl fu fl ln sh) k && decide (eh_bc (eh_cv cu cl fu fl ln sh) k = y)) = true
                  rw [hib]
                  exact decide_eq_true (by omega)
                have hres : ((k : Nat) : Int) = (eh_bl (eh_cv cu cl fu fl ln sh) n y) := by
                  unfold eh_bl
                  rw [eh_first_at hf hp9 n (by omega)]
                  show _ = (0 : Int) + (k : Int)
                  omega
                rw [hres]
                subst hQ
                exact W.iret hx hb hrt (fun t9 ht hW => ⟨rfl, ht⟩) (fun q h => by cases h) d_E_balance_76
            ·
              refine lv_iload hx hb d_E_balance_60 (lv_at hl 0 rfl) ?_
              refine we_if_le (tgt := 80) hx hb (by constructor <;> omega) d_E_balance_62 rfl (fun hc62 => ?_) (fun hc62 => ?_)
              ·
                refine lv_iload hx hb d_E_balance_80 (lv_at hl 0 rfl) ?_
                refine lv_istore_n hx hb d_E_balance_82 rfl hl (by decide) rfl (fun ls hl => ?_)
                have hl : lv_has ls 6 [(3, .int (eI ((bf + (eh_plc cu cl ln sh (k - 1))) - (eh_kut fu fl ln (k - 1))))), (5, .int (eI ((bf + (eh_plc cu cl ln sh (k - 1))) - (eh_kut fu fl ln (k - 1))))), (4, .int (eI ((k : Nat) : Int))), (2, .int (eI (eh_bc (eh_cv cu cl fu fl ln sh) k))), (0, .ref (ad 0)), (1, .int (eI y))] := hl
                refine lv_iinc (v := eI (((k : Nat) : Int) + 1)) hx hb d_E_balance_83 hl (k := 2) rfl (eI_add _ _) (by decide) rfl (fun ls hl => ?_)
                have hl : lv_has ls 6 [(4, .int (eI (((k : Nat) : Int) + 1))), (3, .int (eI ((bf + (eh_plc cu cl ln sh (k - 1))) - (eh_kut fu fl ln (k - 1))))), (5, .int (eI ((bf + (eh_plc cu cl ln sh (k - 1))) - (eh_kut fu fl ln (k - 1))))), (2, .int (eI (eh_bc (eh_cv cu cl fu fl ln sh) k))), (0, .ref (ad 0)), (1, .int (eI y))] := hl
                refine lv_goto (tgt := 7) hx hb d_E_balance_86 rfl ?_
                have hib : eh_isb (eh_cv cu cl fu fl ln sh) k = false := by
                  unfold eh_isb
                  rw [← hbf, ← hnow]
                  exact decide_eq_false (by omega)
                have hp9 : (fun k => eh_isb (eh_cv cu cl fu fl ln sh) k && decide (eh_bc (eh_cv cu cl fu fl ln sh) k = y)) k = false := by
                  show (eh_isb (eh_cv cu cl fu fl ln sh) k && decide (eh_bc (eh_cv cu cl fu fl ln sh) k = y)) = false
                  rw [hib]
                  rfl
                have hs9 : (eh_bc (eh_cv cu cl fu fl ln sh) k) = eh_bc (eh_cv cu cl fu fl ln sh) (k + 1) := by
                  show _ = eh_bc (eh_cv cu cl fu fl ln sh) k + (if eh_isb (eh_cv cu cl fu fl ln sh) k then 1 else 0)
                  rw [hib]
                  simp
                rw [hs9] at hl
                exact ih (k + 1) _ ls (by omega) (by omega) (by rw [if_neg (by omega), Nat.add_sub_cancel]; exact hnow) (eh_first_s hf hp9) (lv_sub hl [0, 1, 3, 4, 5] rfl)
              ·
                refine lv_iload_n hx hb d_E_balance_65 rfl (lv_at hl 2 rfl) ?_
                refine we_if_ge (tgt := 80) hx hb (by constructor <;> omega) d_E_balance_66 rfl (fun hc66 => ?_) (fun hc66 => ?_)
                ·
                  refine lv_iload hx hb d_E_balance_80 (lv_at hl 0 rfl) ?_
                  refine lv_istore_n hx hb d_E_balance_82 rfl hl (by decide) rfl (fun ls hl => ?_)
                  have hl : lv_has ls 6 [(3, .int (eI ((bf + (eh_plc cu cl ln sh (k - 1))) - (eh_kut fu fl ln (k - 1))))), (5, .int (eI ((bf + (eh_plc cu cl ln sh (k - 1))) - (eh_kut fu fl ln (k - 1))))), (4, .int (eI ((k : Nat) : Int))), (2, .int (eI (eh_bc (eh_cv cu cl fu fl ln sh) k))), (0, .ref (ad 0)), (1, .int (eI y))] := hl
                  refine lv_iinc (v := eI (((k : Nat) : Int) + 1)) hx hb d_E_balance_83 hl (k := 2) rfl (eI_add _ _) (by decide) rfl (fun ls hl => ?_)
                  have hl : lv_has ls 6 [(4, .int (eI (((k : Nat) : Int) + 1))), (3, .int (eI ((bf + (eh_plc cu cl ln sh (k - 1))) - (eh_kut fu fl ln (k - 1))))), (5, .int (eI ((bf + (eh_plc cu cl ln sh (k - 1))) - (eh_kut fu fl ln (k - 1))))), (2, .int (eI (eh_bc (eh_cv cu cl fu fl ln sh) k))), (0, .ref (ad 0)), (1, .int (eI y))] := hl
                  refine lv_goto (tgt := 7) hx hb d_E_balance_86 rfl ?_
                  have hib : eh_isb (eh_cv cu cl fu fl ln sh) k = false := by
                    unfold eh_isb
                    rw [← hbf, ← hnow]
                    exact decide_eq_false (by omega)
                  have hp9 : (fun k => eh_isb (eh_cv cu cl fu fl ln sh) k && decide (eh_bc (eh_cv cu cl fu fl ln sh) k = y)) k = false := by
                    show (eh_isb (eh_cv cu cl fu fl ln sh) k && decide (eh_bc (eh_cv cu cl fu fl ln sh) k = y)) = false
                    rw [hib]
                    rfl
                  have hs9 : (eh_bc (eh_cv cu cl fu fl ln sh) k) = eh_bc (eh_cv cu cl fu fl ln sh) (k + 1) := by
                    show _ = eh_bc (eh_cv cu cl fu fl ln sh) k + (if eh_isb (eh_cv cu cl fu fl ln sh) k then 1 else 0)
                    rw [hib]
                    simp
                  rw [hs9] at hl
                  exact ih (k + 1) _ ls (by omega) (by omega) (by rw [if_neg (by omega), Nat.add_sub_cancel]; exact hnow) (eh_first_s hf hp9) (lv_sub hl [0, 1, 3, 4, 5] rfl)
                ·
                  refine lv_iload_n hx hb d_E_balance_69 rfl (lv_at hl 3 rfl) ?_
                  refine lv_iload_n hx hb d_E_balance_70 rfl (lv_at hl 5 rfl) ?_
                  refine we_icmp_ne (tgt := 77) hx hb (by constructor <;> omega) (by constructor <;> omega) d_E_balance_71 rfl (fun hc71 => ?_) (fun hc71 => ?_)
                  ·
                    refine lv_iinc (v := eI ((eh_bc (eh_cv cu cl fu fl ln sh) k) + 1)) hx hb d_E_balance_77 hl (k := 3) rfl (eI_add _ _) (by decide) rfl (fun ls hl => ?_)
                    have hl : lv_has ls 6 [(2, .int (eI ((eh_bc (eh_cv cu cl fu fl ln sh) k) + 1))), (5, .int (eI ((bf + (eh_plc cu cl ln sh (k - 1))) - (eh_kut fu fl ln (k - 1))))), (4, .int (eI ((k : Nat) : Int))), (3, .int (eI bf)), (0, .ref (ad 0)), (1, .int (eI y))] := hl
                    refine lv_iload hx hb d_E_balance_80 (lv_at hl 1 rfl) ?_
                    refine lv_istore_n hx hb d_E_balance_82 rfl hl (by decide) rfl (fun ls hl => ?_)
                    have hl : lv_has ls 6 [(3, .int (eI ((bf + (eh_plc cu cl ln sh (k - 1))) - (eh_kut fu fl ln (k - 1))))), (2, .int (eI ((eh_bc (eh_cv cu cl fu fl ln sh) k) + 1))), (5, .int (eI ((bf + (eh_plc cu cl ln sh (k - 1))) - (eh_kut fu fl ln (k - 1))))), (4, .int (eI ((k : Nat) : Int))), (0, .ref (ad 0)), (1, .int (eI y))] := hl
                    refine lv_iinc (v := eI (((k : Nat) : Int) + 1)) hx hb d_E_balance_83 hl (k := 3) rfl (eI_add _ _) (by decide) rfl (fun ls hl => ?_)
                    have hl : lv_has ls 6 [(4, .int (eI (((k : Nat) : Int) + 1))), (3, .int (eI ((bf + (eh_plc cu cl ln sh (k - 1))) - (eh_kut fu fl ln (k - 1))))), (2, .int (eI ((eh_bc (eh_cv cu cl fu fl ln sh) k) + 1))), (5, .int (eI ((bf + (eh_plc cu cl ln sh (k - 1))) - (eh_kut fu fl ln (k - 1))))), (0, .ref (ad 0)), (1, .int (eI y))] := hl
                    refine lv_goto (tgt := 7) hx hb d_E_balance_86 rfl ?_
                    have hib : eh_isb (eh_cv cu cl fu fl ln sh) k = true := by
                      unfold eh_isb
                      rw [← hbf, ← hnow]
                      exact decide_eq_true (by omega)
                    have hp9 : (fun k => eh_isb (eh_cv cu cl fu fl ln sh) k && decide (eh_bc (eh_cv cu cl fu fl ln sh) k = y)) k = false := by
                      show (eh_isb (eh_cv cu cl fu fl ln sh) k && decide (eh_bc (eh_cv cu cl fu fl ln sh) k = y)) = false
                      rw [hib]
                      exact decide_eq_false (by omega)
                    have hs9 : ((eh_bc (eh_cv cu cl fu fl ln sh) k) + 1) = eh_bc (eh_cv cu cl fu fl ln sh) (k + 1) := by
                      show _ = eh_bc (eh_cv cu cl fu fl ln sh) k + (if eh_isb (eh_cv cu cl fu fl ln sh) k then 1 else 0)
                      rw [hib]
                      simp
                    rw [hs9] at hl
                    exact ih (k + 1) _ ls (by omega) (by omega) (by rw [if_neg (by omega), Nat.add_sub_cancel]; exact hnow) (eh_first_s hf hp9) (lv_sub hl [0, 1, 2, 4, 5] rfl)
                  ·
                    refine lv_iload hx hb d_E_balance_74 (lv_at hl 1 rfl) ?_
                    have hib : eh_isb (eh_cv cu cl fu fl ln sh) k = true := by
                      unfold eh_isb
                      rw [← hbf, ← hnow]
                      exact decide_eq_true (by omega)
                    have hp9 : (fun k => eh_isb (eh_cv cu cl fu fl ln sh) k && decide (eh_bc (eh_cv cu cl fu fl ln sh) k = y)) k = true := by
                      show (eh_isb (eh_cv cu cl fu fl ln sh) k && decide (eh_bc (eh_cv cu cl fu fl ln sh) k = y)) = true
                      rw [hib]
                      exact decide_eq_true (by omega)
                    have hres : ((k : Nat) : Int) = (eh_bl (eh_cv cu cl fu fl ln sh) n y) := by
                      unfold eh_bl
                      rw [eh_first_at hf hp9 n (by omega)]
                      show _ = (0 : Int) + (k : Int)
                      omega
                    rw [hres]
                    subst hQ
                    exact W.iret hx hb hrt (fun t9 ht hW => ⟨rfl, ht⟩) (fun q h => by cases h) d_E_balance_76
      ·
        have hnow : (0 : Int) = (eh_cv cu cl fu fl ln sh) k := by
          rw [show k = 0 by omega]
          rfl
        refine lv_iconst (v := eI 0) hx hb d_E_balance_21 rfl ?_
        refine lv_goto (tgt := 44) hx hb d_E_balance_22 rfl ?_
        refine lv_istore hx hb d_E_balance_44 hl (by decide) rfl (fun ls hl => ?_)
        have hl : lv_has ls 6 [(5, .int (eI 0)), (4, .int (eI ((k : Nat) : Int))), (3, .int (eI bf)), (2, .int (eI (eh_bc (eh_cv cu cl fu fl ln sh) k))), (0, .ref (ad 0)), (1, .int (eI y))] := hl
        refine lv_iload hx hb d_E_balance_46 (lv_at hl 0 rfl) ?_
        refine we_if_eq (tgt := 69) hx hb (by constructor <;> omega) d_E_balance_48 rfl (fun hc48 => ?_) (fun hc48 => absurd hc48 (by omega))
        refine lv_iload_n hx hb d_E_balance_69 rfl (lv_at hl 3 rfl) ?_
        refine lv_iload_n hx hb d_E_balance_70 rfl (lv_at hl 5 rfl) ?_
        refine we_icmp_ne (tgt := 77) hx hb (by constructor <;> omega) (by constructor <;> omega) d_E_balance_71 rfl (fun hc71 => ?_) (fun hc71 => ?_)
        ·
          refine lv_iinc (v := eI ((eh_bc (eh_cv cu cl fu fl ln sh) k) + 1)) hx hb d_E_balance_77 hl (k := 3) rfl (eI_add _ _) (by decide) rfl (fun ls hl => ?_)
          have hl : lv_has ls 6 [(2, .int (eI ((eh_bc (eh_cv cu cl fu fl ln sh) k) + 1))), (5, .int (eI 0)), (4, .int (eI ((k : Nat) : Int))), (3, .int (eI bf)), (0, .ref (ad 0)), (1, .int (eI y))] := hl
          refine lv_iload hx hb d_E_balance_80 (lv_at hl 1 rfl) ?_
          refine lv_istore_n hx hb d_E_balance_82 rfl hl (by decide) rfl (fun ls hl => ?_)
          have hl : lv_has ls 6 [(3, .int (eI 0)), (2, .int (eI ((eh_bc (eh_cv cu cl fu fl ln sh) k) + 1))), (5, .int (eI 0)), (4, .int (eI ((k : Nat) : Int))), (0, .ref (ad 0)), (1, .int (eI y))] := hl
          refine lv_iinc (v := eI (((k : Nat) : Int) + 1)) hx hb d_E_balance_83 hl (k := 3) rfl (eI_add _ _) (by decide) rfl (fun ls hl => ?_)
          have hl : lv_has ls 6 [(4, .int (eI (((k : Nat) : Int) + 1))), (3, .int (eI 0)), (2, .int (eI ((eh_bc (eh_cv cu cl fu fl ln sh) k) + 1))), (5, .int (eI 0)), (0, .ref (ad 0)), (1, .int (eI y))] := hl
          refine lv_goto (tgt := 7) hx hb d_E_balance_86 rfl ?_
          have hib : eh_isb (eh_cv cu cl fu fl ln sh) k = true := by
            unfold eh_isb
            rw [← hbf, ← hnow]
            exact decide_eq_true (by omega)
          have hp9 : (fun k => eh_isb (eh_cv cu cl fu fl ln sh) k && decide (eh_bc (eh_cv cu cl fu fl ln sh) k = y)) k = false := by
            show (eh_isb (eh_cv cu cl fu fl ln sh) k && decide (eh_bc (eh_cv cu cl fu fl ln sh) k = y)) = false
            rw [hib]
            exact decide_eq_false (by omega)
          have hs9 : ((eh_bc (eh_cv cu cl fu fl ln sh) k) + 1) = eh_bc (eh_cv cu cl fu fl ln sh) (k + 1) := by
            show _ = eh_bc (eh_cv cu cl fu fl ln sh) k + (if eh_isb (eh_cv cu cl fu fl ln sh) k then 1 else 0)
            rw [hib]
            simp
          rw [hs9] at hl
          exact ih (k + 1) _ ls (by omega) (by omega) (by rw [if_neg (by omega), Nat.add_sub_cancel]; exact hnow) (eh_first_s hf hp9) (lv_sub hl [0, 1, 2, 4, 5] rfl)
        ·
          refine lv_iload hx hb d_E_balance_74 (lv_at hl 1 rfl) ?_
          have hib : eh_isb (eh_cv cu cl fu fl ln sh) k = true := by
            unfold eh_isb
            rw [← hbf, ← hnow]
            exact decide_eq_true (by omega)
          have hp9 : (fun k => eh_isb (eh_cv cu cl fu fl ln sh) k && decide (eh_bc (eh_cv cu cl fu fl ln sh) k = y)) k = true := by
            show (eh_isb (eh_cv cu cl fu fl ln sh) k && decide (eh_bc (eh_cv cu cl fu fl ln sh) k = y)) = true
            rw [hib]
            exact decide_eq_true (by omega)
          have hres : ((k : Nat) : Int) = (eh_bl (eh_cv cu cl fu fl ln sh) n y) := by
            unfold eh_bl
            rw [eh_first_at hf hp9 n (by omega)]
            show _ = (0 : Int) + (k : Int)
            omega
          rw [hres]
          subst hQ
          exact W.iret hx hb hrt (fun t9 ht hW => ⟨rfl, ht⟩) (fun q h => by cases h) d_E_balance_76
  exact loop n 0 0 ls (by omega) (by omega) rfl rfl (lv_sub hl [0, 1, 2, 3, 4] rfl)
abbrev c_E_yardsThere : ByteArray := prog_1_method_32_code
def y_E_yardsThere : MethodName := ⟨"EarthHauls", "yardsThere", "(II)I"⟩
abbrev k_E_yardsThere : Cond := .code y_E_yardsThere c_E_yardsThere 5 (some .int)
theorem kin_E_yardsThere : k_E_yardsThere ∈ ew_t := tb_573
theorem dv_E_yardsThere : eh_dV y_E_yardsThere "EarthHauls" 2 := ⟨rfl, by decide, by decide, by decide +kernel⟩
theorem d_E_yardsThere_0 : decode c_E_yardsThere 0 = .ok (.iconst 0, 1) := by decide +kernel
theorem d_E_yardsThere_1 : decode c_E_yardsThere 1 = .ok (.istore_n 3, 1) := by decide +kernel
theorem d_E_yardsThere_2 : decode c_E_yardsThere 2 = .ok (.iload_n 1, 1) := by decide +kernel
theorem d_E_yardsThere_3 : decode c_E_yardsThere 3 = .ok (.istore 4, 2) := by decide +kernel
theorem d_E_yardsThere_5 : decode c_E_yardsThere 5 = .ok (.iload 4, 2) := by decide +kernel
theorem d_E_yardsThere_7 : decode c_E_yardsThere 7 = .ok (.iload_n 2, 1) := by decide +kernel
theorem d_E_yardsThere_8 : decode c_E_yardsThere 8 = .ok (.if_icmp .ge 25, 3) := by decide +kernel
theorem d_E_yardsThere_11 : decode c_E_yardsThere 11 = .ok (.aload_n 0, 1) := by decide +kernel
theorem d_E_yardsThere_12 : decode c_E_yardsThere 12 = .ok (.getfield 25, 3) := by decide +kernel
theorem d_E_yardsThere_15 : decode c_E_yardsThere 15 = .ok (.iload 4, 2) := by decide +kernel
theorem d_E_yardsThere_17 : decode c_E_yardsThere 17 = .ok (.aaload, 1) := by decide +kernel
theorem d_E_yardsThere_18 : decode c_E_yardsThere 18 = .ok (.invokevirtual 190, 3) := by decide +kernel
theorem d_E_yardsThere_21 : decode c_E_yardsThere 21 = .ok (.ifCond .eq 6, 3) := by decide +kernel
theorem d_E_yardsThere_24 : decode c_E_yardsThere 24 = .ok (.iinc 3 1, 3) := by decide +kernel
theorem d_E_yardsThere_27 : decode c_E_yardsThere 27 = .ok (.iinc 4 1, 3) := by decide +kernel
theorem d_E_yardsThere_30 : decode c_E_yardsThere 30 = .ok (.goto (-25), 3) := by decide +kernel
theorem d_E_yardsThere_33 : decode c_E_yardsThere 33 = .ok (.iload_n 3, 1) := by decide +kernel
theorem d_E_yardsThere_34 : decode c_E_yardsThere 34 = .ok (.ireturn, 1) := by decide +kernel
set_option maxHeartbeats 1000000 in
set_option maxRecDepth 100000 in
theorem r_E_yardsThere_0 (l : Launch) (D : va_G) (cI cL cZ cS cY : ClassId) (ad : Nat → Nat) (n : Nat) (sh ra plv pco : Int) (ln cb la : Nat → Int) (cu cl fu fl : Nat → Nat) (ys yl yp : Nat → Int) (hE : eh_ES n sh ra ln cb la cu cl fu fl ys yl yp) : eh_R l y_E_yardsThere k_E_yardsThere 1 20 D classes [(cI, .int), (cL, .long), (cZ, .boolean), (cS, .object "EarthHauls$Section"), (cY, .object "EarthHauls$Yard")] [.ref (ad 0), .int (eI 0), .int (eI 2)] [((ad 0), .inr (4, [.ref (ad 1), .ref (ad 2), .ref (ad 3), .ref (ad 4), .ref (ad 5), .ref (ad 24), .int (eI ((n : Nat) : Int)), .int (eI sh), .int (eI ra), .int (eI plv), .long (eL pco)])), ((ad 1), .inl (cS, 5, .inr (.inr (.inr (.inr (eh_o5 (ad 6) (ad 7) (ad 8) (ad 9) (ad 10))))))), ((ad 2), aI cI 4 ln), ((ad 3), aI cZ 3 cb), ((ad 4), .inl (cY, 3, .inr (.inr (.inr (.inr (eh_o3 (ad 21) (ad 22) (ad 23))))))), ((ad 5), aI cI 30 la), ((ad 6), .inr (2, [.ref (ad 11), .ref (ad 16)])), ((ad 7), .inr (2, [.ref (ad 12), .ref (ad 17)])), ((ad 8), .inr (2, [.ref (ad 13), .ref (ad 18)])), ((ad 9), .inr (2, [.ref (ad 14), .ref (ad 19)])), ((ad 10), .inr (2, [.ref (ad 15), .ref (ad 20)])), ((ad 11), .inr (0, [.long (eL ((cu 0 : Nat) : Int)), .long (eL ((cl 0 : Nat) : Int))])), ((ad 12), .inr (0, [.long (eL ((cu 1 : Nat) : Int)), .long (eL ((cl 1 : Nat) : Int))])), ((ad 13), .inr (0, [.long (eL ((cu 2 : Nat) : Int)), .long (eL ((cl 2 : Nat) : Int))])), ((ad 14), .inr (0, [.long (eL ((cu 3 : Nat) : Int)), .long (eL ((cl 3 : Nat) : Int))])), ((ad 15), .inr (0, [.long (eL ((cu 4 : Nat) : Int)), .long (eL ((cl 4 : Nat) : Int))])), ((ad 16), .inr (0, [.long (eL ((fu 0 : Nat) : Int)), .long (eL ((fl 0 : Nat) : Int))])), ((ad 17), .inr (0, [.long (eL ((fu 1 : Nat) : Int)), .long (eL ((fl 1 : Nat) : Int))])), ((ad 18), .inr (0, [.long (eL ((fu 2 : Nat) : Int)), .long (eL ((fl 2 : Nat) : Int))])), ((ad 19), .inr (0, [.long (eL ((fu 3 : Nat) : Int)), .long (eL ((fl 3 : Nat) : Int))])), ((ad 20), .inr (0, [.long (eL ((fu 4 : Nat) : Int)), .long (eL ((fl 4 : Nat) : Int))])), ((ad 21), .inr (3, [.int (eI (ys 0)), .int (eI (yl 0)), .int (eI (yp 0))])), ((ad 22), .inr (3, [.int (eI (ys 1)), .int (eI (yl 1)), .int (eI (yp 1))])), ((ad 23), .inr (3, [.int (eI (ys 2)), .int (eI (yl 2)), .int (eI (yp 2))]))] (.int (eI ((if ys 0 = -1 then 0 else 1) + (if ys 1 = -1 then 0 else 1)))) := by
  refine Met.ofW (cc := c_E_yardsThere) (maxL := 5) (ret := (some .int)) (by decide) rfl ?_
  intro p e s m args below meth c s₁ B hml hv
  obtain ⟨hargs, hP, hK, hN⟩ := hv
  have hx := B.exec
  have hb := B.bytes
  have hrt := B.returns
  have hts := atoms_spec (ws := k_E_yardsThere :: ew_t) B.pre
  have htb : ∀ w ∈ ew_t, w.before args s = true := fun w h => hts w (List.mem_cons_of_mem _ h)
  have hown : s.vm.findClass "EarthHauls" = some m.cls := findClass_of_methodNamed B.named
  have hlocks := B.notSynchronized
  have hE : entryFrame m args 5 = entryFrame m ([.ref (ad 0), .int (eI 0), .int (eI 2)] : List Value).toArray 5 := by rw [hargs]
  rw [hE]
  clear hE hts B hargs
  generalize hRe : (headSpec _ _).room = R
  have hR1 : R.frames = 1 := by rw [← hRe]; rfl
  have hR2 : R.locals = 20 := by rw [← hRe]; rfl
  clear hRe
  generalize hQ : MQ below _ _ s 0 0 _ = Q
  have hP : va_P D classes [((ad 0), .inr (4, [.ref (ad 1), .ref (ad 2), .ref (ad 3), .ref (ad 4), .ref (ad 5), .ref (ad 24), .int (eI ((n : Nat) : Int)), .int (eI sh), .int (eI ra), .int (eI plv), .long (eL pco)])), ((ad 1), .inl (cS, 5, .inr (.inr (.inr (.inr (eh_o5 (ad 6) (ad 7) (ad 8) (ad 9) (ad 10))))))), ((ad 2), aI cI 4 ln), ((ad 3), aI cZ 3 cb), ((ad 4), .inl (cY, 3, .inr (.inr (.inr (.inr (eh_o3 (ad 21) (ad 22) (ad 23))))))), ((ad 5), aI cI 30 la), ((ad 6), .inr (2, [.ref (ad 11), .ref (ad 16)])), ((ad 7), .inr (2, [.ref (ad 12), .ref (ad 17)])), ((ad 8), .inr (2, [.ref (ad 13), .ref (ad 18)])), ((ad 9), .inr (2, [.ref (ad 14), .ref (ad 19)])), ((ad 10), .inr (2, [.ref (ad 15), .ref (ad 20)])), ((ad 11), .inr (0, [.long (eL ((cu 0 : Nat) : Int)), .long (eL ((cl 0 : Nat) : Int))])), ((ad 12), .inr (0, [.long (eL ((cu 1 : Nat) : Int)), .long (eL ((cl 1 : Nat) : Int))])), ((ad 13), .inr (0, [.long (eL ((cu 2 : Nat) : Int)), .long (eL ((cl 2 : Nat) : Int))])), ((ad 14), .inr (0, [.long (eL ((cu 3 : Nat) : Int)), .long (eL ((cl 3 : Nat) : Int))])), ((ad 15), .inr (0, [.long (eL ((cu 4 : Nat) : Int)), .long (eL ((cl 4 : Nat) : Int))])), ((ad 16), .inr (0, [.long (eL ((fu 0 : Nat) : Int)), .long (eL ((fl 0 : Nat) : Int))])), ((ad 17), .inr (0, [.long (eL ((fu 1 : Nat) : Int)), .long (eL ((fl 1 : Nat) : Int))])), ((ad 18), .inr (0, [.long (eL ((fu 2 : Nat) : Int)), .long (eL ((fl 2 : Nat) : Int))])), ((ad 19), .inr (0, [.long (eL ((fu 3 : Nat) : Int)), .long (eL ((fl 3 : Nat) : Int))])), ((ad 20), .inr (0, [.long (eL ((fu 4 : Nat) : Int)), .long (eL ((fl 4 : Nat) : Int))])), ((ad 21), .inr (3, [.int (eI (ys 0)), .int (eI (yl 0)), .int (eI (yp 0))])), ((ad 22), .inr (3, [.int (eI (ys 1)), .int (eI (yl 1)), .int (eI (yp 1))])), ((ad 23), .inr (3, [.int (eI (ys 2)), .int (eI (yl 2)), .int (eI (yp 2))]))] s.heap := hP
  have hl := lv_entry ([.ref (ad 0), .int (eI 0), .int (eI 2)]) (n := 5) (Nat.le_of_ble_eq_true rfl)
  rw [lg_entry_eq]
  generalize (lg_sl ([.ref (ad 0), .int (eI 0), .int (eI 2)]) ++ List.replicate (5 - (lg_sl ([.ref (ad 0), .int (eI 0), .int (eI 2)])).length) Slot.unset).toArray = ls at hl ⊢
  have hl : lv_has ls 5 [(0, .ref (ad 0)), (1, .int (eI 0)), (2, .int (eI 2))] := hl
  have hn5 := hE.1
  have hy0 := hE.2.2.2.2.2.2.2 0 (by omega)
  have hy1 := hE.2.2.2.2.2.2.2 1 (by omega)
  have hy2 := hE.2.2.2.2.2.2.2 2 (by omega)
  refine lv_iconst (v := eI 0) hx hb d_E_yardsThere_0 rfl ?_
  refine lv_istore_n hx hb d_E_yardsThere_1 rfl hl (by decide) rfl (fun ls hl => ?_)
  have hl : lv_has ls 5 [(3, .int (eI 0)), (0, .ref (ad 0)), (1, .int (eI 0)), (2, .int (eI 2))] := hl
  refine lv_iload_n hx hb d_E_yardsThere_2 rfl (lv_at hl 2 rfl) ?_
  refine lv_istore hx hb d_E_yardsThere_3 hl (by decide) rfl (fun ls hl => ?_)
  have hl : lv_has ls 5 [(4, .int (eI 0)), (3, .int (eI 0)), (0, .ref (ad 0)), (1, .int (eI 0)), (2, .int (eI 2))] := hl
  refine lv_iload hx hb d_E_yardsThere_5 (lv_at hl 0 rfl) ?_
  refine lv_iload_n hx hb d_E_yardsThere_7 rfl (lv_at hl 4 rfl) ?_
  refine we_icmp_ge (tgt := 33) hx hb (by constructor <;> omega) (by constructor <;> omega) d_E_yardsThere_8 rfl (fun hc8 => absurd hc8 (by omega)) (fun hc8 => ?_)
  refine lv_aload_n hx hb d_E_yardsThere_11 rfl (lv_at hl 2 rfl) ?_
  refine va_get (D := D) (ci := 4) (v := .ref (ad 4)) (C := R_E) (T := T_E) (N := 11) hx hb htb in_E hown hK hP 0 rfl rfl 3 (by decide) (htb _ tb_127) (fun _ h9 => h9) rfl d_E_yardsThere_12 ?_
  refine lv_iload hx hb d_E_yardsThere_15 (lv_at hl 0 rfl) ?_
  refine we_aald (r := (ad 21)) hx hb hK hP 4 4 rfl rfl 0 rfl (by decide) (by decide) rfl d_E_yardsThere_17 ?_
  refine eh_cRV (As := []) (rest := []) (v := .int (eI (if ys 0 = -1 then 0 else 1))) (q := (R_Y, T_Y, 3)) hx hb hml hown htb hN (r_Y_isThere l D (ad 21) (ys 0) (yl 0) (yp 0) (by constructor <;> omega)) 0 ⟨tb_574, tb_575, tb_576, tb_5, kin_Y_isThere⟩ dv_Y_isThere ⟨by rw [hR1]; decide, by rw [hR2]; decide⟩ hK hP 21 rfl rfl [21] rfl [] rfl rfl rfl hl.1 (Nat.le_of_ble_eq_true rfl) d_E_yardsThere_18 ⟨Nat.zero_le _, Nat.zero_le _⟩ ?_
  refine we_if_eq (tgt := 27) hx hb (by constructor <;> split <;> omega) d_E_yardsThere_21 rfl (fun hc21 => ?_) (fun hc21 => ?_)
  ·
    have hyy0 : ys 0 = -1 := by
      apply Classical.byContradiction
      intro z
      rw [if_neg z] at hc21
      omega
    refine lv_iinc (v := eI 1) hx hb d_E_yardsThere_27 hl (k := 0) rfl (eI_add _ _) (by decide) rfl (fun ls hl => ?_)
    have hl : lv_has ls 5 [(4, .int (eI 1)), (3, .int (eI 0)), (0, .ref (ad 0)), (1, .int (eI 0)), (2, .int (eI 2))] := hl
    refine lv_goto (tgt := 5) hx hb d_E_yardsThere_30 rfl ?_
    refine lv_iload hx hb d_E_yardsThere_5 (lv_at hl 0 rfl) ?_
    refine lv_iload_n hx hb d_E_yardsThere_7 rfl (lv_at hl 4 rfl) ?_
    refine we_icmp_ge (tgt := 33) hx hb (by constructor <;> omega) (by constructor <;> omega) d_E_yardsThere_8 rfl (fun hc8 => absurd hc8 (by omega)) (fun hc8 => ?_)
    refine lv_aload_n hx hb d_E_yardsThere_11 rfl (lv_at hl 2 rfl) ?_
    refine va_get (D := D) (ci := 4) (v := .ref (ad 4)) (C := R_E) (T := T_E) (N := 11) hx hb htb in_E hown hK hP 0 rfl rfl 3 (by decide) (htb _ tb_127) (fun _ h9 => h9) rfl d_E_yardsThere_12 ?_
    refine lv_iload hx hb d_E_yardsThere_15 (lv_at hl 0 rfl) ?_
    refine we_aald (r := (ad 22)) hx hb hK hP 4 4 rfl rfl 1 rfl (by decide) (by decide) rfl d_E_yardsThere_17 ?_
    refine eh_cRV (As := []) (rest := []) (v := .int (eI (if ys 1 = -1 then 0 else 1))) (q := (R_Y, T_Y, 3)) hx hb hml hown htb hN (r_Y_isThere l D (ad 22) (ys 1) (yl 1) (yp 1) (by constructor <;> omega)) 0 ⟨tb_574, tb_575, tb_576, tb_5, kin_Y_isThere⟩ dv_Y_isThere ⟨by rw [hR1]; decide, by rw [hR2]; decide⟩ hK hP 22 rfl rfl [22] rfl [] rfl rfl rfl hl.1 (Nat.le_of_ble_eq_true rfl) d_E_yardsThere_18 ⟨Nat.zero_le _, Nat.zero_le _⟩ ?_
    refine we_if_eq (tgt := 27) hx hb (by constructor <;> split <;> omega) d_E_yardsThere_21 rfl (fun hc21 => ?_) (fun hc21 => ?_)
    ·
      have hyy1 : ys 1 = -1 := by
        apply Classical.byContradiction
        intro z
        rw [if_neg z] at hc21
        omega
      refine lv_iinc (v := eI 2) hx hb d_E_yardsThere_27 hl (k := 0) rfl (eI_add _ _) (by decide) rfl (fun ls hl => ?_)
      have hl : lv_has ls 5 [(4, .int (eI 2)), (3, .int (eI 0)), (0, .ref (ad 0)), (1, .int (eI 0)), (2, .int (eI 2))] := hl
      refine lv_goto (tgt := 5) hx hb d_E_yardsThere_30 rfl ?_
      refine lv_iload hx hb d_E_yardsThere_5 (lv_at hl 0 rfl) ?_
      refine lv_iload_n hx hb d_E_yardsThere_7 rfl (lv_at hl 4 rfl) ?_
      refine we_icmp_ge (tgt := 33) hx hb (by constructor <;> omega) (by constructor <;> omega) d_E_yardsThere_8 rfl (fun hc8 => ?_) (fun hc8 => absurd hc8 (by omega))
      refine lv_iload_n hx hb d_E_yardsThere_33 rfl (lv_at hl 1 rfl) ?_
      have hres : (0 : Int) = ((if ys 0 = -1 then 0 else 1) + (if ys 1 = -1 then 0 else 1)) := by
        repeat' split
        all_goals omega
      rw [hres]
      subst hQ
      exact W.iret hx hb hrt (fun t9 ht hW => ⟨rfl, ht⟩) (fun q h => by cases h) d_E_yardsThere_34
    ·
      have hyy1 : ys 1 ≠ -1 := by intro z; rw [if_pos z] at hc21; exact hc21 rfl
      refine lv_iinc (v := eI 1) hx hb d_E_yardsThere_24 hl (k := 1) rfl (eI_add _ _) (by decide) rfl (fun ls hl => ?_)
      have hl : lv_has ls 5 [(3, .int (eI 1)), (4, .int (eI 1)), (0, .ref (ad 0)), (1, .int (eI 0)), (2, .int (eI 2))] := hl
      skip
      refine lv_iinc (v := eI 2) hx hb d_E_yardsThere_27 hl (k := 1) rfl (eI_add _ _) (by decide) rfl (fun ls hl => ?_)
      have hl : lv_has ls 5 [(4, .int (eI 2)), (3, .int (eI 1)), (0, .ref (ad 0)), (1, .int (eI 0)), (2, .int (eI 2))] := hl
      refine lv_goto (tgt := 5) hx hb d_E_yardsThere_30 rfl ?_
      refine lv_iload hx hb d_E_yardsThere_5 (lv_at hl 0 rfl) ?_
      refine lv_iload_n hx hb d_E_yardsThere_7 rfl (lv_at hl 4 rfl) ?_
      refine we_icmp_ge (tgt := 33) hx hb (by constructor <;> omega) (by constructor <;> omega) d_E_yardsThere_8 rfl (fun hc8 => ?_) (fun hc8 => absurd hc8 (by omega))
      refine lv_iload_n hx hb d_E_yardsThere_33 rfl (lv_at hl 1 rfl) ?_
      have hres : (1 : Int) = ((if ys 0 = -1 then 0 else 1) + (if ys 1 = -1 then 0 else 1)) := by
        repeat' split
        all_goals omega
      rw [hres]
      subst hQ
      exact W.iret hx hb hrt (fun t9 ht hW => ⟨rfl, ht⟩) (fun q h => by cases h) d_E_yardsThere_34
  ·
    have hyy0 : ys 0 ≠ -1 := by intro z; rw [if_pos z] at hc21; exact hc21 rfl
    refine lv_iinc (v := eI 1) hx hb d_E_yardsThere_24 hl (k := 1) rfl (eI_add _ _) (by decide) rfl (fun ls hl => ?_)
    have hl : lv_has ls 5 [(3, .int (eI 1)), (4, .int (eI 0)), (0, .ref (ad 0)), (1, .int (eI 0)), (2, .int (eI 2))] := hl
    skip
    refine lv_iinc (v := eI 1) hx hb d_E_yardsThere_27 hl (k := 1) rfl (eI_add _ _) (by decide) rfl (fun ls hl => ?_)
    have hl : lv_has ls 5 [(4, .int (eI 1)), (3, .int (eI 1)), (0, .ref (ad 0)), (1, .int (eI 0)), (2, .int (eI 2))] := hl
    refine lv_goto (tgt := 5) hx hb d_E_yardsThere_30 rfl ?_
    refine lv_iload hx hb d_E_yardsThere_5 (lv_at hl 0 rfl) ?_
    refine lv_iload_n hx hb d_E_yardsThere_7 rfl (lv_at hl 4 rfl) ?_
    refine we_icmp_ge (tgt := 33) hx hb (by constructor <;> omega) (by constructor <;> omega) d_E_yardsThere_8 rfl (fun hc8 => absurd hc8 (by omega)) (fun hc8 => ?_)
    refine lv_aload_n hx hb d_E_yardsThere_11 rfl (lv_at hl 2 rfl) ?_
    refine va_get (D := D) (ci := 4) (v := .ref (ad 4)) (C := R_E) (T := T_E) (N := 11) hx hb htb in_E hown hK hP 0 rfl rfl 3 (by decide) (htb _ tb_127) (fun _ h9 => h9) rfl d_E_yardsThere_12 ?_
    refine lv_iload hx hb d_E_yardsThere_15 (lv_at hl 0 rfl) ?_
    refine we_aald (r := (ad 22)) hx hb hK hP 4 4 rfl rfl 1 rfl (by decide) (by decide) rfl d_E_yardsThere_17 ?_
    refine eh_cRV (As := []) (rest := []) (v := .int (eI (if ys 1 = -1 then 0 else 1))) (q := (R_Y, T_Y, 3)) hx hb hml hown htb hN (r_Y_isThere l D (ad 22) (ys 1) (yl 1) (yp 1) (by constructor <;> omega)) 0 ⟨tb_574, tb_575, tb_576, tb_5, kin_Y_isThere⟩ dv_Y_isThere ⟨by rw [hR1]; decide, by rw [hR2]; decide⟩ hK hP 22 rfl rfl [22] rfl [] rfl rfl rfl hl.1 (Nat.le_of_ble_eq_true rfl) d_E_yardsThere_18 ⟨Nat.zero_le _, Nat.zero_le _⟩ ?_
    refine we_if_eq (tgt := 27) hx hb (by constructor <;> split <;> omega) d_E_yardsThere_21 rfl (fun hc21 => ?_) (fun hc21 => ?_)
    ·
      have hyy1 : ys 1 = -1 := by
        apply Classical.byContradiction
        intro z
        rw [if_neg z] at hc21
        omega
      refine lv_iinc (v := eI 2) hx hb d_E_yardsThere_27 hl (k := 0) rfl (eI_add _ _) (by decide) rfl (fun ls hl => ?_)
      have hl : lv_has ls 5 [(4, .int (eI 2)), (3, .int (eI 1)), (0, .ref (ad 0)), (1, .int (eI 0)), (2, .int (eI 2))] := hl
      refine lv_goto (tgt := 5) hx hb d_E_yardsThere_30 rfl ?_
      refine lv_iload hx hb d_E_yardsThere_5 (lv_at hl 0 rfl) ?_
      refine lv_iload_n hx hb d_E_yardsThere_7 rfl (lv_at hl 4 rfl) ?_
      refine we_icmp_ge (tgt := 33) hx hb (by constructor <;> omega) (by constructor <;> omega) d_E_yardsThere_8 rfl (fun hc8 => ?_) (fun hc8 => absurd hc8 (by omega))
      refine lv_iload_n hx hb d_E_yardsThere_33 rfl (lv_at hl 1 rfl) ?_
      have hres : (1 : Int) = ((if ys 0 = -1 then 0 else 1) + (if ys 1 = -1 then 0 else 1)) := by
        repeat' split
        all_goals omega
      rw [hres]
      subst hQ
      exact W.iret hx hb hrt (fun t9 ht hW => ⟨rfl, ht⟩) (fun q h => by cases h) d_E_yardsThere_34
    ·
      have hyy1 : ys 1 ≠ -1 := by intro z; rw [if_pos z] at hc21; exact hc21 rfl
      refine lv_iinc (v := eI 2) hx hb d_E_yardsThere_24 hl (k := 1) rfl (eI_add _ _) (by decide) rfl (fun ls hl => ?_)
      have hl : lv_has ls 5 [(3, .int (eI 2)), (4, .int (eI 1)), (0, .ref (ad 0)), (1, .int (eI 0)), (2, .int (eI 2))] := hl
      skip
      refine lv_iinc (v := eI 2) hx hb d_E_yardsThere_27 hl (k := 1) rfl (eI_add _ _) (by decide) rfl (fun ls hl => ?_)
      have hl : lv_has ls 5 [(4, .int (eI 2)), (3, .int (eI 2)), (0, .ref (ad 0)), (1, .int (eI 0)), (2, .int (eI 2))] := hl
      refine lv_goto (tgt := 5) hx hb d_E_yardsThere_30 rfl ?_
      refine lv_iload hx hb d_E_yardsThere_5 (lv_at hl 0 rfl) ?_
      refine lv_iload_n hx hb d_E_yardsThere_7 rfl (lv_at hl 4 rfl) ?_
      refine we_icmp_ge (tgt := 33) hx hb (by constructor <;> omega) (by constructor <;> omega) d_E_yardsThere_8 rfl (fun hc8 => ?_) (fun hc8 => absurd hc8 (by omega))
      refine lv_iload_n hx hb d_E_yardsThere_33 rfl (lv_at hl 1 rfl) ?_
      have hres : (2 : Int) = ((if ys 0 = -1 then 0 else 1) + (if ys 1 = -1 then 0 else 1)) := by
        repeat' split
        all_goals omega
      rw [hres]
      subst hQ
      exact W.iret hx hb hrt (fun t9 ht hW => ⟨rfl, ht⟩) (fun q h => by cases h) d_E_yardsThere_34
set_option maxHeartbeats 1000000 in
set_option maxRecDepth 100000 in
theorem r_E_yardsThere_2 (l : Launch) (D : va_G) (cI cL cZ cS cY : ClassId) (ad : Nat → Nat) (n : Nat) (sh ra plv pco : Int) (ln cb la : Nat → Int) (cu cl fu fl : Nat → Nat) (ys yl yp : Nat → Int) (hE : eh_ES n sh ra ln cb la cu cl fu fl ys yl yp) : eh_R l y_E_yardsThere k_E_yardsThere 1 20 D classes [(cI, .int), (cL, .long), (cZ, .boolean), (cS, .object "EarthHauls$Section"), (cY, .object "EarthHauls$Yard")] [.ref (ad 0), .int (eI 2), .int (eI 3)] [((ad 0), .inr (4, [.ref (ad 1), .ref (ad 2), .ref (ad 3), .ref (ad 4), .ref (ad 5), .ref (ad 24), .int (eI ((n : Nat) : Int)), .int (eI sh), .int (eI ra), .int (eI plv), .long (eL pco)])), ((ad 1), .inl (cS, 5, .inr (.inr (.inr (.inr (eh_o5 (ad 6) (ad 7) (ad 8) (ad 9) (ad 10))))))), ((ad 2), aI cI 4 ln), ((ad 3), aI cZ 3 cb), ((ad 4), .inl (cY, 3, .inr (.inr (.inr (.inr (eh_o3 (ad 21) (ad 22) (ad 23))))))), ((ad 5), aI cI 30 la), ((ad 6), .inr (2, [.ref (ad 11), .ref (ad 16)])), ((ad 7), .inr (2, [.ref (ad 12), .ref (ad 17)])), ((ad 8), .inr (2, [.ref (ad 13), .ref (ad 18)])), ((ad 9), .inr (2, [.ref (ad 14), .ref (ad 19)])), ((ad 10), .inr (2, [.ref (ad 15), .ref (ad 20)])), ((ad 11), .inr (0, [.long (eL ((cu 0 : Nat) : Int)), .long (eL ((cl 0 : Nat) : Int))])), ((ad 12), .inr (0, [.long (eL ((cu 1 : Nat) : Int)), .long (eL ((cl 1 : Nat) : Int))])), ((ad 13), .inr (0, [.long (eL ((cu 2 : Nat) : Int)), .long (eL ((cl 2 : Nat) : Int))])), ((ad 14), .inr (0, [.long (eL ((cu 3 : Nat) : Int)), .long (eL ((cl 3 : Nat) : Int))])), ((ad 15), .inr (0, [.long (eL ((cu 4 : Nat) : Int)), .long (eL ((cl 4 : Nat) : Int))])), ((ad 16), .inr (0, [.long (eL ((fu 0 : Nat) : Int)), .long (eL ((fl 0 : Nat) : Int))])), ((ad 17), .inr (0, [.long (eL ((fu 1 : Nat) : Int)), .long (eL ((fl 1 : Nat) : Int))])), ((ad 18), .inr (0, [.long (eL ((fu 2 : Nat) : Int)), .long (eL ((fl 2 : Nat) : Int))])), ((ad 19), .inr (0, [.long (eL ((fu 3 : Nat) : Int)), .long (eL ((fl 3 : Nat) : Int))])), ((ad 20), .inr (0, [.long (eL ((fu 4 : Nat) : Int)), .long (eL ((fl 4 : Nat) : Int))])), ((ad 21), .inr (3, [.int (eI (ys 0)), .int (eI (yl 0)), .int (eI (yp 0))])), ((ad 22), .inr (3, [.int (eI (ys 1)), .int (eI (yl 1)), .int (eI (yp 1))])), ((ad 23), .inr (3, [.int (eI (ys 2)), .int (eI (yl 2)), .int (eI (yp 2))]))] (.int (eI (if ys 2 = -1 then 0 else 1))) := by
  refine Met.ofW (cc := c_E_yardsThere) (maxL := 5) (ret := (some .int)) (by decide) rfl ?_
  intro p e s m args below meth c s₁ B hml hv
  obtain ⟨hargs, hP, hK, hN⟩ := hv
  have hx := B.exec
  have hb := B.bytes
  have hrt := B.returns
  have hts := atoms_spec (ws := k_E_yardsThere :: ew_t) B.pre
  have htb : ∀ w ∈ ew_t, w.before args s = true := fun w h => hts w (List.mem_cons_of_mem _ h)
  have hown : s.vm.findClass "EarthHauls" = some m.cls := findClass_of_methodNamed B.named
  have hlocks := B.notSynchronized
  have hE : entryFrame m args 5 = entryFrame m ([.ref (ad 0), .int (eI 2), .int (eI 3)] : List Value).toArray 5 := by rw [hargs]
  rw [hE]
  clear hE hts B hargs
  generalize hRe : (headSpec _ _).room = R
  have hR1 : R.frames = 1 := by rw [← hRe]; rfl
  have hR2 : R.locals = 20 := by rw [← hRe]; rfl
  clear hRe
  generalize hQ : MQ below _ _ s 0 0 _ = Q
  have hP : va_P D classes [((ad 0), .inr (4, [.ref (ad 1), .ref (ad 2), .ref (ad 3), .ref (ad 4), .ref (ad 5), .ref (ad 24), .int (eI ((n : Nat) : Int)), .int (eI sh), .int (eI ra), .int (eI plv), .long (eL pco)])), ((ad 1), .inl (cS, 5, .inr (.inr (.inr (.inr (eh_o5 (ad 6) (ad 7) (ad 8) (ad 9) (ad 10))))))), ((ad 2), aI cI 4 ln), ((ad 3), aI cZ 3 cb), ((ad 4), .inl (cY, 3, .inr (.inr (.inr (.inr (eh_o3 (ad 21) (ad 22) (ad 23))))))), ((ad 5), aI cI 30 la), ((ad 6), .inr (2, [.ref (ad 11), .ref (ad 16)])), ((ad 7), .inr (2, [.ref (ad 12), .ref (ad 17)])), ((ad 8), .inr (2, [.ref (ad 13), .ref (ad 18)])), ((ad 9), .inr (2, [.ref (ad 14), .ref (ad 19)])), ((ad 10), .inr (2, [.ref (ad 15), .ref (ad 20)])), ((ad 11), .inr (0, [.long (eL ((cu 0 : Nat) : Int)), .long (eL ((cl 0 : Nat) : Int))])), ((ad 12), .inr (0, [.long (eL ((cu 1 : Nat) : Int)), .long (eL ((cl 1 : Nat) : Int))])), ((ad 13), .inr (0, [.long (eL ((cu 2 : Nat) : Int)), .long (eL ((cl 2 : Nat) : Int))])), ((ad 14), .inr (0, [.long (eL ((cu 3 : Nat) : Int)), .long (eL ((cl 3 : Nat) : Int))])), ((ad 15), .inr (0, [.long (eL ((cu 4 : Nat) : Int)), .long (eL ((cl 4 : Nat) : Int))])), ((ad 16), .inr (0, [.long (eL ((fu 0 : Nat) : Int)), .long (eL ((fl 0 : Nat) : Int))])), ((ad 17), .inr (0, [.long (eL ((fu 1 : Nat) : Int)), .long (eL ((fl 1 : Nat) : Int))])), ((ad 18), .inr (0, [.long (eL ((fu 2 : Nat) : Int)), .long (eL ((fl 2 : Nat) : Int))])), ((ad 19), .inr (0, [.long (eL ((fu 3 : Nat) : Int)), .long (eL ((fl 3 : Nat) : Int))])), ((ad 20), .inr (0, [.long (eL ((fu 4 : Nat) : Int)), .long (eL ((fl 4 : Nat) : Int))])), ((ad 21), .inr (3, [.int (eI (ys 0)), .int (eI (yl 0)), .int (eI (yp 0))])), ((ad 22), .inr (3, [.int (eI (ys 1)), .int (eI (yl 1)), .int (eI (yp 1))])), ((ad 23), .inr (3, [.int (eI (ys 2)), .int (eI (yl 2)), .int (eI (yp 2))]))] s.heap := hP
  have hl := lv_entry ([.ref (ad 0), .int (eI 2), .int (eI 3)]) (n := 5) (Nat.le_of_ble_eq_true rfl)
  rw [lg_entry_eq]
  generalize (lg_sl ([.ref (ad 0), .int (eI 2), .int (eI 3)]) ++ List.replicate (5 - (lg_sl ([.ref (ad 0), .int (eI 2), .int (eI 3)])).length) Slot.unset).toArray = ls at hl ⊢
  have hl : lv_has ls 5 [(0, .ref (ad 0)), (1, .int (eI 2)), (2, .int (eI 3))] := hl
  have hn5 := hE.1
  have hy0 := hE.2.2.2.2.2.2.2 0 (by omega)
  have hy1 := hE.2.2.2.2.2.2.2 1 (by omega)
  have hy2 := hE.2.2.2.2.2.2.2 2 (by omega)
  refine lv_iconst (v := eI 0) hx hb d_E_yardsThere_0 rfl ?_
  refine lv_istore_n hx hb d_E_yardsThere_1 rfl hl (by decide) rfl (fun ls hl => ?_)
  have hl : lv_has ls 5 [(3, .int (eI 0)), (0, .ref (ad 0)), (1, .int (eI 2)), (2, .int (eI 3))] := hl
  refine lv_iload_n hx hb d_E_yardsThere_2 rfl (lv_at hl 2 rfl) ?_
  refine lv_istore hx hb d_E_yardsThere_3 hl (by decide) rfl (fun ls hl => ?_)
  have hl : lv_has ls 5 [(4, .int (eI 2)), (3, .int (eI 0)), (0, .ref (ad 0)), (1, .int (eI 2)), (2, .int (eI 3))] := hl
  refine lv_iload hx hb d_E_yardsThere_5 (lv_at hl 0 rfl) ?_
  refine lv_iload_n hx hb d_E_yardsThere_7 rfl (lv_at hl 4 rfl) ?_
  refine we_icmp_ge (tgt := 33) hx hb (by constructor <;> omega) (by constructor <;> omega) d_E_yardsThere_8 rfl (fun hc8 => absurd hc8 (by omega)) (fun hc8 => ?_)
  refine lv_aload_n hx hb d_E_yardsThere_11 rfl (lv_at hl 2 rfl) ?_
  refine va_get (D := D) (ci := 4) (v := .ref (ad 4)) (C := R_E) (T := T_E) (N := 11) hx hb htb in_E hown hK hP 0 rfl rfl 3 (by decide) (htb _ tb_127) (fun _ h9 => h9) rfl d_E_yardsThere_12 ?_
  refine lv_iload hx hb d_E_yardsThere_15 (lv_at hl 0 rfl) ?_
  refine we_aald (r := (ad 23)) hx hb hK hP 4 4 rfl rfl 2 rfl (by decide) (by decide) rfl d_E_yardsThere_17 ?_
  refine eh_cRV (As := []) (rest := []) (v := .int (eI (if ys 2 = -1 then 0 else 1))) (q := (R_Y, T_Y, 3)) hx hb hml hown htb hN (r_Y_isThere l D (ad 23) (ys 2) (yl 2) (yp 2) (by constructor <;> omega)) 0 ⟨tb_574, tb_575, tb_576, tb_5, kin_Y_isThere⟩ dv_Y_isThere ⟨by rw [hR1]; decide, by rw [hR2]; decide⟩ hK hP 23 rfl rfl [23] rfl [] rfl rfl rfl hl.1 (Nat.le_of_ble_eq_true rfl) d_E_yardsThere_18 ⟨Nat.zero_le _, Nat.zero_le _⟩ ?_
  refine we_if_eq (tgt := 27) hx hb (by constructor <;> split <;> omega) d_E_yardsThere_21 rfl (fun hc21 => ?_) (fun hc21 => ?_)
  ·
    have hyy2 : ys 2 = -1 := by
      apply Classical.byContradiction
      intro z
      rw [if_neg z] at hc21
      omega
    refine lv_iinc (v := eI 3) hx hb d_E_yardsThere_27 hl (k := 0) rfl (eI_add _ _) (by decide) rfl (fun ls hl => ?_)
    have hl : lv_has ls 5 [(4, .int (eI 3)), (3, .int (eI 0)), (0, .ref (ad 0)), (1, .int (eI 2)), (2, .int (eI 3))] := hl
    refine lv_goto (tgt := 5) hx hb d_E_yardsThere_30 rfl ?_
    refine lv_iload hx hb d_E_yardsThere_5 (lv_at hl 0 rfl) ?_
    refine lv_iload_n hx hb d_E_yardsThere_7 rfl (lv_at hl 4 rfl) ?_
    refine we_icmp_ge (tgt := 33) hx hb (by constructor <;> omega) (by constructor <;> omega) d_E_yardsThere_8 rfl (fun hc8 => ?_) (fun hc8 => absurd hc8 (by omega))
    refine lv_iload_n hx hb d_E_yardsThere_33 rfl (lv_at hl 1 rfl) ?_
    have hres : (0 : Int) = (if ys 2 = -1 then 0 else 1) := by
      repeat' split
      all_goals omega
    rw [hres]
    subst hQ
    exact W.iret hx hb hrt (fun t9 ht hW => ⟨rfl, ht⟩) (fun q h => by cases h) d_E_yardsThere_34
  ·
    have hyy2 : ys 2 ≠ -1 := by intro z; rw [if_pos z] at hc21; exact hc21 rfl
    refine lv_iinc (v := eI 1) hx hb d_E_yardsThere_24 hl (k := 1) rfl (eI_add _ _) (by decide) rfl (fun ls hl => ?_)
    have hl : lv_has ls 5 [(3, .int (eI 1)), (4, .int (eI 2)), (0, .ref (ad 0)), (1, .int (eI 2)), (2, .int (eI 3))] := hl
    skip
    refine lv_iinc (v := eI 3) hx hb d_E_yardsThere_27 hl (k := 1) rfl (eI_add _ _) (by decide) rfl (fun ls hl => ?_)
    have hl : lv_has ls 5 [(4, .int (eI 3)), (3, .int (eI 1)), (0, .ref (ad 0)), (1, .int (eI 2)), (2, .int (eI 3))] := hl
    refine lv_goto (tgt := 5) hx hb d_E_yardsThere_30 rfl ?_
    refine lv_iload hx hb d_E_yardsThere_5 (lv_at hl 0 rfl) ?_
    refine lv_iload_n hx hb d_E_yardsThere_7 rfl (lv_at hl 4 rfl) ?_
    refine we_icmp_ge (tgt := 33) hx hb (by constructor <;> omega) (by constructor <;> omega) d_E_yardsThere_8 rfl (fun hc8 => ?_) (fun hc8 => absurd hc8 (by omega))
    refine lv_iload_n hx hb d_E_yardsThere_33 rfl (lv_at hl 1 rfl) ?_
    have hres : (1 : Int) = (if ys 2 = -1 then 0 else 1) := by
      repeat' split
      all_goals omega
    rw [hres]
    subst hQ
    exact W.iret hx hb hrt (fun t9 ht hW => ⟨rfl, ht⟩) (fun q h => by cases h) d_E_yardsThere_34
abbrev c_E_begin : ByteArray := prog_1_method_20_code
def y_E_begin : MethodName := ⟨"EarthHauls", "begin", "()V"⟩
abbrev k_E_begin : Cond := .code y_E_begin c_E_begin 2 none
theorem kin_E_begin : k_E_begin ∈ ew_t := tb_111
theorem dv_E_begin : eh_dV y_E_begin "EarthHauls" 0 := ⟨rfl, by decide, by decide, by decide +kernel⟩
theorem d_E_begin_0 : decode c_E_begin 0 = .ok (.aload_n 0, 1) := by decide +kernel
theorem d_E_begin_1 : decode c_E_begin 1 = .ok (.iconst 0, 1) := by decide +kernel
theorem d_E_begin_2 : decode c_E_begin 2 = .ok (.putfield 57, 3) := by decide +kernel
theorem d_E_begin_5 : decode c_E_begin 5 = .ok (.aload_n 0, 1) := by decide +kernel
theorem d_E_begin_6 : decode c_E_begin 6 = .ok (.sipush 1000, 3) := by decide +kernel
theorem d_E_begin_9 : decode c_E_begin 9 = .ok (.putfield 72, 3) := by decide +kernel
theorem d_E_begin_12 : decode c_E_begin 12 = .ok (.aload_n 0, 1) := by decide +kernel
theorem d_E_begin_13 : decode c_E_begin 13 = .ok (.iconst 1, 1) := by decide +kernel
theorem d_E_begin_14 : decode c_E_begin 14 = .ok (.putfield 75, 3) := by decide +kernel
theorem d_E_begin_17 : decode c_E_begin 17 = .ok (.aload_n 0, 1) := by decide +kernel
theorem d_E_begin_18 : decode c_E_begin 18 = .ok (.iconst 0, 1) := by decide +kernel
theorem d_E_begin_19 : decode c_E_begin 19 = .ok (.putfield 68, 3) := by decide +kernel
theorem d_E_begin_22 : decode c_E_begin 22 = .ok (.aload_n 0, 1) := by decide +kernel
theorem d_E_begin_23 : decode c_E_begin 23 = .ok (.ldc2_w 138, 3) := by decide +kernel
theorem d_E_begin_26 : decode c_E_begin 26 = .ok (.putfield 135, 3) := by decide +kernel
theorem d_E_begin_29 : decode c_E_begin 29 = .ok (.iconst 0, 1) := by decide +kernel
theorem d_E_begin_30 : decode c_E_begin 30 = .ok (.istore_n 1, 1) := by decide +kernel
theorem d_E_begin_31 : decode c_E_begin 31 = .ok (.iload_n 1, 1) := by decide +kernel
theorem d_E_begin_32 : decode c_E_begin 32 = .ok (.aload_n 0, 1) := by decide +kernel
theorem d_E_begin_33 : decode c_E_begin 33 = .ok (.getfield 19, 3) := by decide +kernel
theorem d_E_begin_36 : decode c_E_begin 36 = .ok (.arraylength, 1) := by decide +kernel
theorem d_E_begin_37 : decode c_E_begin 37 = .ok (.if_icmp .ge 16, 3) := by decide +kernel
theorem d_E_begin_40 : decode c_E_begin 40 = .ok (.aload_n 0, 1) := by decide +kernel
theorem d_E_begin_41 : decode c_E_begin 41 = .ok (.getfield 19, 3) := by decide +kernel
theorem d_E_begin_44 : decode c_E_begin 44 = .ok (.iload_n 1, 1) := by decide +kernel
theorem d_E_begin_45 : decode c_E_begin 45 = .ok (.iconst 0, 1) := by decide +kernel
theorem d_E_begin_46 : decode c_E_begin 46 = .ok (.bastore, 1) := by decide +kernel
theorem d_E_begin_47 : decode c_E_begin 47 = .ok (.iinc 1 1, 3) := by decide +kernel
theorem d_E_begin_50 : decode c_E_begin 50 = .ok (.goto (-19), 3) := by decide +kernel
theorem d_E_begin_53 : decode c_E_begin 53 = .ok (.iconst 0, 1) := by decide +kernel
theorem d_E_begin_54 : decode c_E_begin 54 = .ok (.istore_n 1, 1) := by decide +kernel
theorem d_E_begin_55 : decode c_E_begin 55 = .ok (.iload_n 1, 1) := by decide +kernel
theorem d_E_begin_56 : decode c_E_begin 56 = .ok (.iconst 3, 1) := by decide +kernel
theorem d_E_begin_57 : decode c_E_begin 57 = .ok (.if_icmp .ge 18, 3) := by decide +kernel
theorem d_E_begin_60 : decode c_E_begin 60 = .ok (.aload_n 0, 1) := by decide +kernel
theorem d_E_begin_61 : decode c_E_begin 61 = .ok (.getfield 25, 3) := by decide +kernel
theorem d_E_begin_64 : decode c_E_begin 64 = .ok (.iload_n 1, 1) := by decide +kernel
theorem d_E_begin_65 : decode c_E_begin 65 = .ok (.aaload, 1) := by decide +kernel
theorem d_E_begin_66 : decode c_E_begin 66 = .ok (.invokevirtual 178, 3) := by decide +kernel
theorem d_E_begin_69 : decode c_E_begin 69 = .ok (.iinc 1 1, 3) := by decide +kernel
theorem d_E_begin_72 : decode c_E_begin 72 = .ok (.goto (-17), 3) := by decide +kernel
theorem d_E_begin_75 : decode c_E_begin 75 = .ok (.aload_n 0, 1) := by decide +kernel
theorem d_E_begin_76 : decode c_E_begin 76 = .ok (.getfield 29, 3) := by decide +kernel
theorem d_E_begin_79 : decode c_E_begin 79 = .ok (.iconst 0, 1) := by decide +kernel
theorem d_E_begin_80 : decode c_E_begin 80 = .ok (.invokestatic 181, 3) := by decide +kernel
theorem d_E_begin_83 : decode c_E_begin 83 = .ok (.return_, 1) := by decide +kernel
set_option maxHeartbeats 1000000 in
set_option maxRecDepth 100000 in
theorem m_E_begin (l : Launch) (D : va_G) (cI cL cZ cS cY : ClassId) (ad : Nat → Nat) (n : Nat) (sh ra plv pco : Int) (ln cb la : Nat → Int) (cu cl fu fl : Nat → Nat) (ys yl yp : Nat → Int) : eh_M (S := (Nat → Int) × (Nat → Int)) l y_E_begin k_E_begin 2 43 D classes [(cI, .int), (cL, .long), (cZ, .boolean), (cS, .object "EarthHauls$Section"), (cY, .object "EarthHauls$Yard")] [.ref (ad 0)] [((ad 0), .inr (4, [.ref (ad 1), .ref (ad 2), .ref (ad 3), .ref (ad 4), .ref (ad 5), .ref (ad 24), .int (eI ((n : Nat) : Int)), .int (eI sh), .int (eI ra), .int (eI plv), .long (eL pco)])), ((ad 1), .inl (cS, 5, .inr (.inr (.inr (.inr (eh_o5 (ad 6) (ad 7) (ad 8) (ad 9) (ad 10))))))), ((ad 2), aI cI 4 ln), ((ad 3), aI cZ 3 cb), ((ad 4), .inl (cY, 3, .inr (.inr (.inr (.inr (eh_o3 (ad 21) (ad 22) (ad 23))))))), ((ad 5), aI cI 30 la), ((ad 6), .inr (2, [.ref (ad 11), .ref (ad 16)])), ((ad 7), .inr (2, [.ref (ad 12), .ref (ad 17)])), ((ad 8), .inr (2, [.ref (ad 13), .ref (ad 18)])), ((ad 9), .inr (2, [.ref (ad 14), .ref (ad 19)])), ((ad 10), .inr (2, [.ref (ad 15), .ref (ad 20)])), ((ad 11), .inr (0, [.long (eL ((cu 0 : Nat) : Int)), .long (eL ((cl 0 : Nat) : Int))])), ((ad 12), .inr (0, [.long (eL ((cu 1 : Nat) : Int)), .long (eL ((cl 1 : Nat) : Int))])), ((ad 13), .inr (0, [.long (eL ((cu 2 : Nat) : Int)), .long (eL ((cl 2 : Nat) : Int))])), ((ad 14), .inr (0, [.long (eL ((cu 3 : Nat) : Int)), .long (eL ((cl 3 : Nat) : Int))])), ((ad 15), .inr (0, [.long (eL ((cu 4 : Nat) : Int)), .long (eL ((cl 4 : Nat) : Int))])), ((ad 16), .inr (0, [.long (eL ((fu 0 : Nat) : Int)), .long (eL ((fl 0 : Nat) : Int))])), ((ad 17), .inr (0, [.long (eL ((fu 1 : Nat) : Int)), .long (eL ((fl 1 : Nat) : Int))])), ((ad 18), .inr (0, [.long (eL ((fu 2 : Nat) : Int)), .long (eL ((fl 2 : Nat) : Int))])), ((ad 19), .inr (0, [.long (eL ((fu 3 : Nat) : Int)), .long (eL ((fl 3 : Nat) : Int))])), ((ad 20), .inr (0, [.long (eL ((fu 4 : Nat) : Int)), .long (eL ((fl 4 : Nat) : Int))])), ((ad 21), .inr (3, [.int (eI (ys 0)), .int (eI (yl 0)), .int (eI (yp 0))])), ((ad 22), .inr (3, [.int (eI (ys 1)), .int (eI (yl 1)), .int (eI (yp 1))])), ((ad 23), .inr (3, [.int (eI (ys 2)), .int (eI (yl 2)), .int (eI (yp 2))]))] (fun q : (Nat → Int) × (Nat → Int) => (∀ k, k < 3 → q.1 k = 0) ∧ ∀ k, k < 30 → q.2 k = 0) (fun _ => none) (fun q => [((ad 0), .inr (4, [.ref (ad 1), .ref (ad 2), .ref (ad 3), .ref (ad 4), .ref (ad 5), .ref (ad 24), .int (eI ((0 : Nat) : Int)), .int (eI 1000), .int (eI 1), .int (eI 0), .long (eL (-1))])), ((ad 1), .inl (cS, 5, .inr (.inr (.inr (.inr (eh_o5 (ad 6) (ad 7) (ad 8) (ad 9) (ad 10))))))), ((ad 2), aI cI 4 ln), ((ad 3), aI cZ 3 q.1), ((ad 4), .inl (cY, 3, .inr (.inr (.inr (.inr (eh_o3 (ad 21) (ad 22) (ad 23))))))), ((ad 5), aI cI 30 q.2), ((ad 6), .inr (2, [.ref (ad 11), .ref (ad 16)])), ((ad 7), .inr (2, [.ref (ad 12), .ref (ad 17)])), ((ad 8), .inr (2, [.ref (ad 13), .ref (ad 18)])), ((ad 9), .inr (2, [.ref (ad 14), .ref (ad 19)])), ((ad 10), .inr (2, [.ref (ad 15), .ref (ad 20)])), ((ad 11), .inr (0, [.long (eL ((cu 0 : Nat) : Int)), .long (eL ((cl 0 : Nat) : Int))])), ((ad 12), .inr (0, [.long (eL ((cu 1 : Nat) : Int)), .long (eL ((cl 1 : Nat) : Int))])), ((ad 13), .inr (0, [.long (eL ((cu 2 : Nat) : Int)), .long (eL ((cl 2 : Nat) : Int))])), ((ad 14), .inr (0, [.long (eL ((cu 3 : Nat) : Int)), .long (eL ((cl 3 : Nat) : Int))])), ((ad 15), .inr (0, [.long (eL ((cu 4 : Nat) : Int)), .long (eL ((cl 4 : Nat) : Int))])), ((ad 16), .inr (0, [.long (eL ((fu 0 : Nat) : Int)), .long (eL ((fl 0 : Nat) : Int))])), ((ad 17), .inr (0, [.long (eL ((fu 1 : Nat) : Int)), .long (eL ((fl 1 : Nat) : Int))])), ((ad 18), .inr (0, [.long (eL ((fu 2 : Nat) : Int)), .long (eL ((fl 2 : Nat) : Int))])), ((ad 19), .inr (0, [.long (eL ((fu 3 : Nat) : Int)), .long (eL ((fl 3 : Nat) : Int))])), ((ad 20), .inr (0, [.long (eL ((fu 4 : Nat) : Int)), .long (eL ((fl 4 : Nat) : Int))])), ((ad 21), .inr (3, [.int (eI (-1)), .int (eI 0), .int (eI 0)])), ((ad 22), .inr (3, [.int (eI (-1)), .int (eI 0), .int (eI 0)])), ((ad 23), .inr (3, [.int (eI (-1)), .int (eI 0), .int (eI 0)]))]) := by
  intro sz
  refine Met.ofW (cc := c_E_begin) (maxL := 2) (ret := none) (by decide) rfl ?_
  intro p e s m args below meth c s₁ B hml hv
  obtain ⟨hargs, hsz, hP, hK, hD0, hN⟩ := hv
  have hx := B.exec
  have hb := B.bytes
  have hrt := B.returns
  have hts := atoms_spec (ws := k_E_begin :: ew_t) B.pre
  have htb : ∀ w ∈ ew_t, w.before args s = true := fun w h => hts w (List.mem_cons_of_mem _ h)
  have hown : s.vm.findClass "EarthHauls" = some m.cls := findClass_of_methodNamed B.named
  have hlocks := B.notSynchronized
  have hE : entryFrame m args 2 = entryFrame m ([.ref (ad 0)] : List Value).toArray 2 := by rw [hargs]
  rw [hE]
  clear hE hts B hargs
  generalize hRe : (headSpec _ _).room = R
  have hR1 : R.frames = 2 := by rw [← hRe]; rfl
  have hR2 : R.locals = 43 := by rw [← hRe]; rfl
  clear hRe
  generalize hQ : MQ below _ _ s 0 0 _ = Q
  subst hsz
  have hD := hD0.self (sz := s.heap.size)
  generalize hAe : va_A [((ad 0), .inr (4, [.ref (ad 1), .ref (ad 2), .ref (ad 3), .ref (ad 4), .ref (ad 5), .ref (ad 24), .int (eI ((n : Nat) : Int)), .int (eI sh), .int (eI ra), .int (eI plv), .long (eL pco)])), ((ad 1), .inl (cS, 5, .inr (.inr (.inr (.inr (eh_o5 (ad 6) (ad 7) (ad 8) (ad 9) (ad 10))))))), ((ad 2), aI cI 4 ln), ((ad 3), aI cZ 3 cb), ((ad 4), .inl (cY, 3, .inr (.inr (.inr (.inr (eh_o3 (ad 21) (ad 22) (ad 23))))))), ((ad 5), aI cI 30 la), ((ad 6), .inr (2, [.ref (ad 11), .ref (ad 16)])), ((ad 7), .inr (2, [.ref (ad 12), .ref (ad 17)])), ((ad 8), .inr (2, [.ref (ad 13), .ref (ad 18)])), ((ad 9), .inr (2, [.ref (ad 14), .ref (ad 19)])), ((ad 10), .inr (2, [.ref (ad 15), .ref (ad 20)])), ((ad 11), .inr (0, [.long (eL ((cu 0 : Nat) : Int)), .long (eL ((cl 0 : Nat) : Int))])), ((ad 12), .inr (0, [.long (eL ((cu 1 : Nat) : Int)), .long (eL ((cl 1 : Nat) : Int))])), ((ad 13), .inr (0, [.long (eL ((cu 2 : Nat) : Int)), .long (eL ((cl 2 : Nat) : Int))])), ((ad 14), .inr (0, [.long (eL ((cu 3 : Nat) : Int)), .long (eL ((cl 3 : Nat) : Int))])), ((ad 15), .inr (0, [.long (eL ((cu 4 : Nat) : Int)), .long (eL ((cl 4 : Nat) : Int))])), ((ad 16), .inr (0, [.long (eL ((fu 0 : Nat) : Int)), .long (eL ((fl 0 : Nat) : Int))])), ((ad 17), .inr (0, [.long (eL ((fu 1 : Nat) : Int)), .long (eL ((fl 1 : Nat) : Int))])), ((ad 18), .inr (0, [.long (eL ((fu 2 : Nat) : Int)), .long (eL ((fl 2 : Nat) : Int))])), ((ad 19), .inr (0, [.long (eL ((fu 3 : Nat) : Int)), .long (eL ((fl 3 : Nat) : Int))])), ((ad 20), .inr (0, [.long (eL ((fu 4 : Nat) : Int)), .long (eL ((fl 4 : Nat) : Int))])), ((ad 21), .inr (3, [.int (eI (ys 0)), .int (eI (yl 0)), .int (eI (yp 0))])), ((ad 22), .inr (3, [.int (eI (ys 1)), .int (eI (yl 1)), .int (eI (yp 1))])), ((ad 23), .inr (3, [.int (eI (ys 2)), .int (eI (yl 2)), .int (eI (yp 2))]))] s.heap.size = A at hD hQ
  have hA : ∀ q : Nat, s.heap.size ≤ q → A q := fun q h => by rw [← hAe]; exact Or.inr h
  have hS : va_S A s.heap s.heap [] := va_S.rf
  have hP : va_P D classes [((ad 0), .inr (4, [.ref (ad 1), .ref (ad 2), .ref (ad 3), .ref (ad 4), .ref (ad 5), .ref (ad 24), .int (eI ((n : Nat) : Int)), .int (eI sh), .int (eI ra), .int (eI plv), .long (eL pco)])), ((ad 1), .inl (cS, 5, .inr (.inr (.inr (.inr (eh_o5 (ad 6) (ad 7) (ad 8) (ad 9) (ad 10))))))), ((ad 2), aI cI 4 ln), ((ad 3), aI cZ 3 cb), ((ad 4), .inl (cY, 3, .inr (.inr (.inr (.inr (eh_o3 (ad 21) (ad 22) (ad 23))))))), ((ad 5), aI cI 30 la), ((ad 6), .inr (2, [.ref (ad 11), .ref (ad 16)])), ((ad 7), .inr (2, [.ref (ad 12), .ref (ad 17)])), ((ad 8), .inr (2, [.ref (ad 13), .ref (ad 18)])), ((ad 9), .inr (2, [.ref (ad 14), .ref (ad 19)])), ((ad 10), .inr (2, [.ref (ad 15), .ref (ad 20)])), ((ad 11), .inr (0, [.long (eL ((cu 0 : Nat) : Int)), .long (eL ((cl 0 : Nat) : Int))])), ((ad 12), .inr (0, [.long (eL ((cu 1 : Nat) : Int)), .long (eL ((cl 1 : Nat) : Int))])), ((ad 13), .inr (0, [.long (eL ((cu 2 : Nat) : Int)), .long (eL ((cl 2 : Nat) : Int))])), ((ad 14), .inr (0, [.long (eL ((cu 3 : Nat) : Int)), .long (eL ((cl 3 : Nat) : Int))])), ((ad 15), .inr (0, [.long (eL ((cu 4 : Nat) : Int)), .long (eL ((cl 4 : Nat) : Int))])), ((ad 16), .inr (0, [.long (eL ((fu 0 : Nat) : Int)), .long (eL ((fl 0 : Nat) : Int))])), ((ad 17), .inr (0, [.long (eL ((fu 1 : Nat) : Int)), .long (eL ((fl 1 : Nat) : Int))])), ((ad 18), .inr (0, [.long (eL ((fu 2 : Nat) : Int)), .long (eL ((fl 2 : Nat) : Int))])), ((ad 19), .inr (0, [.long (eL ((fu 3 : Nat) : Int)), .long (eL ((fl 3 : Nat) : Int))])), ((ad 20), .inr (0, [.long (eL ((fu 4 : Nat) : Int)), .long (eL ((fl 4 : Nat) : Int))])), ((ad 21), .inr (3, [.int (eI (ys 0)), .int (eI (yl 0)), .int (eI (yp 0))])), ((ad 22), .inr (3, [.int (eI (ys 1)), .int (eI (yl 1)), .int (eI (yp 1))])), ((ad 23), .inr (3, [.int (eI (ys 2)), .int (eI (yl 2)), .int (eI (yp 2))]))] s.heap := hP
  have hl := lv_entry ([.ref (ad 0)]) (n := 2) (Nat.le_of_ble_eq_true rfl)
  rw [lg_entry_eq]
  generalize (lg_sl ([.ref (ad 0)]) ++ List.replicate (2 - (lg_sl ([.ref (ad 0)])).length) Slot.unset).toArray = ls at hl ⊢
  have hl : lv_has ls 2 [(0, .ref (ad 0))] := hl
  refine lv_aload_n hx hb d_E_begin_0 rfl (lv_at hl 0 rfl) ?_
  refine lv_iconst (v := eI 0) hx hb d_E_begin_1 rfl ?_
  refine va_put (D := D) (ci := 4) (v := .int (eI 0)) (ty := .int) (C := R_E) (T := T_E) (N := 11) hx hb htb in_E t_E t_E_ok n_E hown hK hP hD hS 0 rfl rfl 6 (by decide) (htb _ tb_130) (fun _ h9 => h9) rfl (by decide +kernel) rfl rfl (Nat.le_of_ble_eq_true rfl) d_E_begin_2 (fun H locs hP hD hS => ?_)
  have hP : va_P D classes [((ad 0), .inr (4, [.ref (ad 1), .ref (ad 2), .ref (ad 3), .ref (ad 4), .ref (ad 5), .ref (ad 24), .int (eI 0), .int (eI sh), .int (eI ra), .int (eI plv), .long (eL pco)])), ((ad 1), .inl (cS, 5, .inr (.inr (.inr (.inr (eh_o5 (ad 6) (ad 7) (ad 8) (ad 9) (ad 10))))))), ((ad 2), aI cI 4 ln), ((ad 3), aI cZ 3 cb), ((ad 4), .inl (cY, 3, .inr (.inr (.inr (.inr (eh_o3 (ad 21) (ad 22) (ad 23))))))), ((ad 5), aI cI 30 la), ((ad 6), .inr (2, [.ref (ad 11), .ref (ad 16)])), ((ad 7), .inr (2, [.ref (ad 12), .ref (ad 17)])), ((ad 8), .inr (2, [.ref (ad 13), .ref (ad 18)])), ((ad 9), .inr (2, [.ref (ad 14), .ref (ad 19)])), ((ad 10), .inr (2, [.ref (ad 15), .ref (ad 20)])), ((ad 11), .inr (0, [.long (eL ((cu 0 : Nat) : Int)), .long (eL ((cl 0 : Nat) : Int))])), ((ad 12), .inr (0, [.long (eL ((cu 1 : Nat) : Int)), .long (eL ((cl 1 : Nat) : Int))])), ((ad 13), .inr (0, [.long (eL ((cu 2 : Nat) : Int)), .long (eL ((cl 2 : Nat) : Int))])), ((ad 14), .inr (0, [.long (eL ((cu 3 : Nat) : Int)), .long (eL ((cl 3 : Nat) : Int))])), ((ad 15), .inr (0, [.long (eL ((cu 4 : Nat) : Int)), .long (eL ((cl 4 : Nat) : Int))])), ((ad 16), .inr (0, [.long (eL ((fu 0 : Nat) : Int)), .long (eL ((fl 0 : Nat) : Int))])), ((ad 17), .inr (0, [.long (eL ((fu 1 : Nat) : Int)), .long (eL ((fl 1 : Nat) : Int))])), ((ad 18), .inr (0, [.long (eL ((fu 2 : Nat) : Int)), .long (eL ((fl 2 : Nat) : Int))])), ((ad 19), .inr (0, [.long (eL ((fu 3 : Nat) : Int)), .long (eL ((fl 3 : Nat) : Int))])), ((ad 20), .inr (0, [.long (eL ((fu 4 : Nat) : Int)), .long (eL ((fl 4 : Nat) : Int))])), ((ad 21), .inr (3, [.int (eI (ys 0)), .int (eI (yl 0)), .int (eI (yp 0))])), ((ad 22), .inr (3, [.int (eI (ys 1)), .int (eI (yl 1)), .int (eI (yp 1))])), ((ad 23), .inr (3, [.int (eI (ys 2)), .int (eI (yl 2)), .int (eI (yp 2))]))] H := hP
  have hD : va_D A [((ad 0), .inr (4, [.ref (ad 1), .ref (ad 2), .ref (ad 3), .ref (ad 4), .ref (ad 5), .ref (ad 24), .int (eI 0), .int (eI sh), .int (eI ra), .int (eI plv), .long (eL pco)])), ((ad 1), .inl (cS, 5, .inr (.inr (.inr (.inr (eh_o5 (ad 6) (ad 7) (ad 8) (ad 9) (ad 10))))))), ((ad 2), aI cI 4 ln), ((ad 3), aI cZ 3 cb), ((ad 4), .inl (cY, 3, .inr (.inr (.inr (.inr (eh_o3 (ad 21) (ad 22) (ad 23))))))), ((ad 5), aI cI 30 la), ((ad 6), .inr (2, [.ref (ad 11), .ref (ad 16)])), ((ad 7), .inr (2, [.ref (ad 12), .ref (ad 17)])), ((ad 8), .inr (2, [.ref (ad 13), .ref (ad 18)])), ((ad 9), .inr (2, [.ref (ad 14), .ref (ad 19)])), ((ad 10), .inr (2, [.ref (ad 15), .ref (ad 20)])), ((ad 11), .inr (0, [.long (eL ((cu 0 : Nat) : Int)), .long (eL ((cl 0 : Nat) : Int))])), ((ad 12), .inr (0, [.long (eL ((cu 1 : Nat) : Int)), .long (eL ((cl 1 : Nat) : Int))])), ((ad 13), .inr (0, [.long (eL ((cu 2 : Nat) : Int)), .long (eL ((cl 2 : Nat) : Int))])), ((ad 14), .inr (0, [.long (eL ((cu 3 : Nat) : Int)), .long (eL ((cl 3 : Nat) : Int))])), ((ad 15), .inr (0, [.long (eL ((cu 4 : Nat) : Int)), .long (eL ((cl 4 : Nat) : Int))])), ((ad 16), .inr (0, [.long (eL ((fu 0 : Nat) : Int)), .long (eL ((fl 0 : Nat) : Int))])), ((ad 17), .inr (0, [.long (eL ((fu 1 : Nat) : Int)), .long (eL ((fl 1 : Nat) : Int))])), ((ad 18), .inr (0, [.long (eL ((fu 2 : Nat) : Int)), .long (eL ((fl 2 : Nat) : Int))])), ((ad 19), .inr (0, [.long (eL ((fu 3 : Nat) : Int)), .long (eL ((fl 3 : Nat) : Int))])), ((ad 20), .inr (0, [.long (eL ((fu 4 : Nat) : Int)), .long (eL ((fl 4 : Nat) : Int))])), ((ad 21), .inr (3, [.int (eI (ys 0)), .int (eI (yl 0)), .int (eI (yp 0))])), ((ad 22), .inr (3, [.int (eI (ys 1)), .int (eI (yl 1)), .int (eI (yp 1))])), ((ad 23), .inr (3, [.int (eI (ys 2)), .int (eI (yl 2)), .int (eI (yp 2))]))] := hD
  refine lv_aload_n hx hb d_E_begin_5 rfl (lv_at hl 0 rfl) ?_
  refine lv_sipush (v := eI 1000) hx hb d_E_begin_6 (by decide) ?_
  refine va_put (D := D) (ci := 4) (v := .int (eI 1000)) (ty := .int) (C := R_E) (T := T_E) (N := 11) hx hb htb in_E t_E t_E_ok n_E hown hK hP hD hS 0 rfl rfl 7 (by decide) (htb _ tb_131) (fun _ h9 => h9) rfl (by decide +kernel) rfl rfl (Nat.le_of_ble_eq_true rfl) d_E_begin_9 (fun H locs hP hD hS => ?_)
  have hP : va_P D classes [((ad 0), .inr (4, [.ref (ad 1), .ref (ad 2), .ref (ad 3), .ref (ad 4), .ref (ad 5), .ref (ad 24), .int (eI 0), .int (eI 1000), .int (eI ra), .int (eI plv), .long (eL pco)])), ((ad 1), .inl (cS, 5, .inr (.inr (.inr (.inr (eh_o5 (ad 6) (ad 7) (ad 8) (ad 9) (ad 10))))))), ((ad 2), aI cI 4 ln), ((ad 3), aI cZ 3 cb), ((ad 4), .inl (cY, 3, .inr (.inr (.inr (.inr (eh_o3 (ad 21) (ad 22) (ad 23))))))), ((ad 5), aI cI 30 la), ((ad 6), .inr (2, [.ref (ad 11), .ref (ad 16)])), ((ad 7), .inr (2, [.ref (ad 12), .ref (ad 17)])), ((ad 8), .inr (2, [.ref (ad 13), .ref (ad 18)])), ((ad 9), .inr (2, [.ref (ad 14), .ref (ad 19)])), ((ad 10), .inr (2, [.ref (ad 15), .ref (ad 20)])), ((ad 11), .inr (0, [.long (eL ((cu 0 : Nat) : Int)), .long (eL ((cl 0 : Nat) : Int))])), ((ad 12), .inr (0, [.long (eL ((cu 1 : Nat) : Int)), .long (eL ((cl 1 : Nat) : Int))])), ((ad 13), .inr (0, [.long (eL ((cu 2 : Nat) : Int)), .long (eL ((cl 2 : Nat) : Int))])), ((ad 14), .inr (0, [.long (eL ((cu 3 : Nat) : Int)), .long (eL ((cl 3 : Nat) : Int))])), ((ad 15), .inr (0, [.long (eL ((cu 4 : Nat) : Int)), .long (eL ((cl 4 : Nat) : Int))])), ((ad 16), .inr (0, [.long (eL ((fu 0 : Nat) : Int)), .long (eL ((fl 0 : Nat) : Int))])), ((ad 17), .inr (0, [.long (eL ((fu 1 : Nat) : Int)), .long (eL ((fl 1 : Nat) : Int))])), ((ad 18), .inr (0, [.long (eL ((fu 2 : Nat) : Int)), .long (eL ((fl 2 : Nat) : Int))])), ((ad 19), .inr (0, [.long (eL ((fu 3 : Nat) : Int)), .long (eL ((fl 3 : Nat) : Int))])), ((ad 20), .inr (0, [.long (eL ((fu 4 : Nat) : Int)), .long (eL ((fl 4 : Nat) : Int))])), ((ad 21), .inr (3, [.int (eI (ys 0)), .int (eI (yl 0)), .int (eI (yp 0))])), ((ad 22), .inr (3, [.int (eI (ys 1)), .int (eI (yl 1)), .int (eI (yp 1))])), ((ad 23), .inr (3, [.int (eI (ys 2)), .int (eI (yl 2)), .int (eI (yp 2))]))] H := hP
  have hD : va_D A [((ad 0), .inr (4, [.ref (ad 1), .ref (ad 2), .ref (ad 3), .ref (ad 4), .ref (ad 5), .ref (ad 24), .int (eI 0), .int (eI 1000), .int (eI ra), .int (eI plv), .long (eL pco)])), ((ad 1), .inl (cS, 5, .inr (.inr (.inr (.inr (eh_o5 (ad 6) (ad 7) (ad 8) (ad 9) (ad 10))))))), ((ad 2), aI cI 4 ln), ((ad 3), aI cZ 3 cb), ((ad 4), .inl (cY, 3, .inr (.inr (.inr (.inr (eh_o3 (ad 21) (ad 22) (ad 23))))))), ((ad 5), aI cI 30 la), ((ad 6), .inr (2, [.ref (ad 11), .ref (ad 16)])), ((ad 7), .inr (2, [.ref (ad 12), .ref (ad 17)])), ((ad 8), .inr (2, [.ref (ad 13), .ref (ad 18)])), ((ad 9), .inr (2, [.ref (ad 14), .ref (ad 19)])), ((ad 10), .inr (2, [.ref (ad 15), .ref (ad 20)])), ((ad 11), .inr (0, [.long (eL ((cu 0 : Nat) : Int)), .long (eL ((cl 0 : Nat) : Int))])), ((ad 12), .inr (0, [.long (eL ((cu 1 : Nat) : Int)), .long (eL ((cl 1 : Nat) : Int))])), ((ad 13), .inr (0, [.long (eL ((cu 2 : Nat) : Int)), .long (eL ((cl 2 : Nat) : Int))])), ((ad 14), .inr (0, [.long (eL ((cu 3 : Nat) : Int)), .long (eL ((cl 3 : Nat) : Int))])), ((ad 15), .inr (0, [.long (eL ((cu 4 : Nat) : Int)), .long (eL ((cl 4 : Nat) : Int))])), ((ad 16), .inr (0, [.long (eL ((fu 0 : Nat) : Int)), .long (eL ((fl 0 : Nat) : Int))])), ((ad 17), .inr (0, [.long (eL ((fu 1 : Nat) : Int)), .long (eL ((fl 1 : Nat) : Int))])), ((ad 18), .inr (0, [.long (eL ((fu 2 : Nat) : Int)), .long (eL ((fl 2 : Nat) : Int))])), ((ad 19), .inr (0, [.long (eL ((fu 3 : Nat) : Int)), .long (eL ((fl 3 : Nat) : Int))])), ((ad 20), .inr (0, [.long (eL ((fu 4 : Nat) : Int)), .long (eL ((fl 4 : Nat) : Int))])), ((ad 21), .inr (3, [.int (eI (ys 0)), .int (eI (yl 0)), .int (eI (yp 0))])), ((ad 22), .inr (3, [.int (eI (ys 1)), .int (eI (yl 1)), .int (eI (yp 1))])), ((ad 23), .inr (3, [.int (eI (ys 2)), .int (eI (yl 2)), .int (eI (yp 2))]))] := hD
  refine lv_aload_n hx hb d_E_begin_12 rfl (lv_at hl 0 rfl) ?_
  refine lv_iconst (v := eI 1) hx hb d_E_begin_13 rfl ?_
  refine va_put (D := D) (ci := 4) (v := .int (eI 1)) (ty := .int) (C := R_E) (T := T_E) (N := 11) hx hb htb in_E t_E t_E_ok n_E hown hK hP hD hS 0 rfl rfl 8 (by decide) (htb _ tb_132) (fun _ h9 => h9) rfl (by decide +kernel) rfl rfl (Nat.le_of_ble_eq_true rfl) d_E_begin_14 (fun H locs hP hD hS => ?_)
  have hP : va_P D classes [((ad 0), .inr (4, [.ref (ad 1), .ref (ad 2), .ref (ad 3), .ref (ad 4), .ref (ad 5), .ref (ad 24), .int (eI 0), .int (eI 1000), .int (eI 1), .int (eI plv), .long (eL pco)])), ((ad 1), .inl (cS, 5, .inr (.inr (.inr (.inr (eh_o5 (ad 6) (ad 7) (ad 8) (ad 9) (ad 10))))))), ((ad 2), aI cI 4 ln), ((ad 3), aI cZ 3 cb), ((ad 4), .inl (cY, 3, .inr (.inr (.inr (.inr (eh_o3 (ad 21) (ad 22) (ad 23))))))), ((ad 5), aI cI 30 la), ((ad 6), .inr (2, [.ref (ad 11), .ref (ad 16)])), ((ad 7), .inr (2, [.ref (ad 12), .ref (ad 17)])), ((ad 8), .inr (2, [.ref (ad 13), .ref (ad 18)])), ((ad 9), .inr (2, [.ref (ad 14), .ref (ad 19)])), ((ad 10), .inr (2, [.ref (ad 15), .ref (ad 20)])), ((ad 11), .inr (0, [.long (eL ((cu 0 : Nat) : Int)), .long (eL ((cl 0 : Nat) : Int))])), ((ad 12), .inr (0, [.long (eL ((cu 1 : Nat) : Int)), .long (eL ((cl 1 : Nat) : Int))])), ((ad 13), .inr (0, [.long (eL ((cu 2 : Nat) : Int)), .long (eL ((cl 2 : Nat) : Int))])), ((ad 14), .inr (0, [.long (eL ((cu 3 : Nat) : Int)), .long (eL ((cl 3 : Nat) : Int))])), ((ad 15), .inr (0, [.long (eL ((cu 4 : Nat) : Int)), .long (eL ((cl 4 : Nat) : Int))])), ((ad 16), .inr (0, [.long (eL ((fu 0 : Nat) : Int)), .long (eL ((fl 0 : Nat) : Int))])), ((ad 17), .inr (0, [.long (eL ((fu 1 : Nat) : Int)), .long (eL ((fl 1 : Nat) : Int))])), ((ad 18), .inr (0, [.long (eL ((fu 2 : Nat) : Int)), .long (eL ((fl 2 : Nat) : Int))])), ((ad 19), .inr (0, [.long (eL ((fu 3 : Nat) : Int)), .long (eL ((fl 3 : Nat) : Int))])), ((ad 20), .inr (0, [.long (eL ((fu 4 : Nat) : Int)), .long (eL ((fl 4 : Nat) : Int))])), ((ad 21), .inr (3, [.int (eI (ys 0)), .int (eI (yl 0)), .int (eI (yp 0))])), ((ad 22), .inr (3, [.int (eI (ys 1)), .int (eI (yl 1)), .int (eI (yp 1))])), ((ad 23), .inr (3, [.int (eI (ys 2)), .int (eI (yl 2)), .int (eI (yp 2))]))] H := hP
  have hD : va_D A [((ad 0), .inr (4, [.ref (ad 1), .ref (ad 2), .ref (ad 3), .ref (ad 4), .ref (ad 5), .ref (ad 24), .int (eI 0), .int (eI 1000), .int (eI 1), .int (eI plv), .long (eL pco)])), ((ad 1), .inl (cS, 5, .inr (.inr (.inr (.inr (eh_o5 (ad 6) (ad 7) (ad 8) (ad 9) (ad 10))))))), ((ad 2), aI cI 4 ln), ((ad 3), aI cZ 3 cb), ((ad 4), .inl (cY, 3, .inr (.inr (.inr (.inr (eh_o3 (ad 21) (ad 22) (ad 23))))))), ((ad 5), aI cI 30 la), ((ad 6), .inr (2, [.ref (ad 11), .ref (ad 16)])), ((ad 7), .inr (2, [.ref (ad 12), .ref (ad 17)])), ((ad 8), .inr (2, [.ref (ad 13), .ref (ad 18)])), ((ad 9), .inr (2, [.ref (ad 14), .ref (ad 19)])), ((ad 10), .inr (2, [.ref (ad 15), .ref (ad 20)])), ((ad 11), .inr (0, [.long (eL ((cu 0 : Nat) : Int)), .long (eL ((cl 0 : Nat) : Int))])), ((ad 12), .inr (0, [.long (eL ((cu 1 : Nat) : Int)), .long (eL ((cl 1 : Nat) : Int))])), ((ad 13), .inr (0, [.long (eL ((cu 2 : Nat) : Int)), .long (eL ((cl 2 : Nat) : Int))])), ((ad 14), .inr (0, [.long (eL ((cu 3 : Nat) : Int)), .long (eL ((cl 3 : Nat) : Int))])), ((ad 15), .inr (0, [.long (eL ((cu 4 : Nat) : Int)), .long (eL ((cl 4 : Nat) : Int))])), ((ad 16), .inr (0, [.long (eL ((fu 0 : Nat) : Int)), .long (eL ((fl 0 : Nat) : Int))])), ((ad 17), .inr (0, [.long (eL ((fu 1 : Nat) : Int)), .long (eL ((fl 1 : Nat) : Int))])), ((ad 18), .inr (0, [.long (eL ((fu 2 : Nat) : Int)), .long (eL ((fl 2 : Nat) : Int))])), ((ad 19), .inr (0, [.long (eL ((fu 3 : Nat) : Int)), .long (eL ((fl 3 : Nat) : Int))])), ((ad 20), .inr (0, [.long (eL ((fu 4 : Nat) : Int)), .long (eL ((fl 4 : Nat) : Int))])), ((ad 21), .inr (3, [.int (eI (ys 0)), .int (eI (yl 0)), .int (eI (yp 0))])), ((ad 22), .inr (3, [.int (eI (ys 1)), .int (eI (yl 1)), .int (eI (yp 1))])), ((ad 23), .inr (3, [.int (eI (ys 2)), .int (eI (yl 2)), .int (eI (yp 2))]))] := hD
  refine lv_aload_n hx hb d_E_begin_17 rfl (lv_at hl 0 rfl) ?_
  refine lv_iconst (v := eI 0) hx hb d_E_begin_18 rfl ?_
  refine va_put (D := D) (ci := 4) (v := .int (eI 0)) (ty := .boolean) (C := R_E) (T := T_E) (N := 11) hx hb htb in_E t_E t_E_ok n_E hown hK hP hD hS 0 rfl rfl 9 (by decide) (htb _ tb_133) (fun _ h9 => h9) rfl (by decide +kernel) rfl rfl (Nat.le_of_ble_eq_true rfl) d_E_begin_19 (fun H locs hP hD hS => ?_)
  have hP : va_P D classes [((ad 0), .inr (4, [.ref (ad 1), .ref (ad 2), .ref (ad 3), .ref (ad 4), .ref (ad 5), .ref (ad 24), .int (eI 0), .int (eI 1000), .int (eI 1), .int (eI 0), .long (eL pco)])), ((ad 1), .inl (cS, 5, .inr (.inr (.inr (.inr (eh_o5 (ad 6) (ad 7) (ad 8) (ad 9) (ad 10))))))), ((ad 2), aI cI 4 ln), ((ad 3), aI cZ 3 cb), ((ad 4), .inl (cY, 3, .inr (.inr (.inr (.inr (eh_o3 (ad 21) (ad 22) (ad 23))))))), ((ad 5), aI cI 30 la), ((ad 6), .inr (2, [.ref (ad 11), .ref (ad 16)])), ((ad 7), .inr (2, [.ref (ad 12), .ref (ad 17)])), ((ad 8), .inr (2, [.ref (ad 13), .ref (ad 18)])), ((ad 9), .inr (2, [.ref (ad 14), .ref (ad 19)])), ((ad 10), .inr (2, [.ref (ad 15), .ref (ad 20)])), ((ad 11), .inr (0, [.long (eL ((cu 0 : Nat) : Int)), .long (eL ((cl 0 : Nat) : Int))])), ((ad 12), .inr (0, [.long (eL ((cu 1 : Nat) : Int)), .long (eL ((cl 1 : Nat) : Int))])), ((ad 13), .inr (0, [.long (eL ((cu 2 : Nat) : Int)), .long (eL ((cl 2 : Nat) : Int))])), ((ad 14), .inr (0, [.long (eL ((cu 3 : Nat) : Int)), .long (eL ((cl 3 : Nat) : Int))])), ((ad 15), .inr (0, [.long (eL ((cu 4 : Nat) : Int)), .long (eL ((cl 4 : Nat) : Int))])), ((ad 16), .inr (0, [.long (eL ((fu 0 : Nat) : Int)), .long (eL ((fl 0 : Nat) : Int))])), ((ad 17), .inr (0, [.long (eL ((fu 1 : Nat) : Int)), .long (eL ((fl 1 : Nat) : Int))])), ((ad 18), .inr (0, [.long (eL ((fu 2 : Nat) : Int)), .long (eL ((fl 2 : Nat) : Int))])), ((ad 19), .inr (0, [.long (eL ((fu 3 : Nat) : Int)), .long (eL ((fl 3 : Nat) : Int))])), ((ad 20), .inr (0, [.long (eL ((fu 4 : Nat) : Int)), .long (eL ((fl 4 : Nat) : Int))])), ((ad 21), .inr (3, [.int (eI (ys 0)), .int (eI (yl 0)), .int (eI (yp 0))])), ((ad 22), .inr (3, [.int (eI (ys 1)), .int (eI (yl 1)), .int (eI (yp 1))])), ((ad 23), .inr (3, [.int (eI (ys 2)), .int (eI (yl 2)), .int (eI (yp 2))]))] H := hP
  have hD : va_D A [((ad 0), .inr (4, [.ref (ad 1), .ref (ad 2), .ref (ad 3), .ref (ad 4), .ref (ad 5), .ref (ad 24), .int (eI 0), .int (eI 1000), .int (eI 1), .int (eI 0), .long (eL pco)])), ((ad 1), .inl (cS, 5, .inr (.inr (.inr (.inr (eh_o5 (ad 6) (ad 7) (ad 8) (ad 9) (ad 10))))))), ((ad 2), aI cI 4 ln), ((ad 3), aI cZ 3 cb), ((ad 4), .inl (cY, 3, .inr (.inr (.inr (.inr (eh_o3 (ad 21) (ad 22) (ad 23))))))), ((ad 5), aI cI 30 la), ((ad 6), .inr (2, [.ref (ad 11), .ref (ad 16)])), ((ad 7), .inr (2, [.ref (ad 12), .ref (ad 17)])), ((ad 8), .inr (2, [.ref (ad 13), .ref (ad 18)])), ((ad 9), .inr (2, [.ref (ad 14), .ref (ad 19)])), ((ad 10), .inr (2, [.ref (ad 15), .ref (ad 20)])), ((ad 11), .inr (0, [.long (eL ((cu 0 : Nat) : Int)), .long (eL ((cl 0 : Nat) : Int))])), ((ad 12), .inr (0, [.long (eL ((cu 1 : Nat) : Int)), .long (eL ((cl 1 : Nat) : Int))])), ((ad 13), .inr (0, [.long (eL ((cu 2 : Nat) : Int)), .long (eL ((cl 2 : Nat) : Int))])), ((ad 14), .inr (0, [.long (eL ((cu 3 : Nat) : Int)), .long (eL ((cl 3 : Nat) : Int))])), ((ad 15), .inr (0, [.long (eL ((cu 4 : Nat) : Int)), .long (eL ((cl 4 : Nat) : Int))])), ((ad 16), .inr (0, [.long (eL ((fu 0 : Nat) : Int)), .long (eL ((fl 0 : Nat) : Int))])), ((ad 17), .inr (0, [.long (eL ((fu 1 : Nat) : Int)), .long (eL ((fl 1 : Nat) : Int))])), ((ad 18), .inr (0, [.long (eL ((fu 2 : Nat) : Int)), .long (eL ((fl 2 : Nat) : Int))])), ((ad 19), .inr (0, [.long (eL ((fu 3 : Nat) : Int)), .long (eL ((fl 3 : Nat) : Int))])), ((ad 20), .inr (0, [.long (eL ((fu 4 : Nat) : Int)), .long (eL ((fl 4 : Nat) : Int))])), ((ad 21), .inr (3, [.int (eI (ys 0)), .int (eI (yl 0)), .int (eI (yp 0))])), ((ad 22), .inr (3, [.int (eI (ys 1)), .int (eI (yl 1)), .int (eI (yp 1))])), ((ad 23), .inr (3, [.int (eI (ys 2)), .int (eI (yl 2)), .int (eI (yp 2))]))] := hD
  refine lv_aload_n hx hb d_E_begin_22 rfl (lv_at hl 0 rfl) ?_
  refine we_ldc2 (a := (-1)) hx hb hown (htb _ tb_112) (by decide) d_E_begin_23 ?_
  refine va_put (D := D) (ci := 4) (v := .long (eL (-1))) (ty := .long) (C := R_E) (T := T_E) (N := 11) hx hb htb in_E t_E t_E_ok n_E hown hK hP hD hS 0 rfl rfl 10 (by decide) (htb _ tb_134) (fun _ h9 => h9) rfl (by decide +kernel) rfl rfl (Nat.le_of_ble_eq_true rfl) d_E_begin_26 (fun H locs hP hD hS => ?_)
  have hP : va_P D classes [((ad 0), .inr (4, [.ref (ad 1), .ref (ad 2), .ref (ad 3), .ref (ad 4), .ref (ad 5), .ref (ad 24), .int (eI 0), .int (eI 1000), .int (eI 1), .int (eI 0), .long (eL (-1))])), ((ad 1), .inl (cS, 5, .inr (.inr (.inr (.inr (eh_o5 (ad 6) (ad 7) (ad 8) (ad 9) (ad 10))))))), ((ad 2), aI cI 4 ln), ((ad 3), aI cZ 3 cb), ((ad 4), .inl (cY, 3, .inr (.inr (.inr (.inr (eh_o3 (ad 21) (ad 22) (ad 23))))))), ((ad 5), aI cI 30 la), ((ad 6), .inr (2, [.ref (ad 11), .ref (ad 16)])), ((ad 7), .inr (2, [.ref (ad 12), .ref (ad 17)])), ((ad 8), .inr (2, [.ref (ad 13), .ref (ad 18)])), ((ad 9), .inr (2, [.ref (ad 14), .ref (ad 19)])), ((ad 10), .inr (2, [.ref (ad 15), .ref (ad 20)])), ((ad 11), .inr (0, [.long (eL ((cu 0 : Nat) : Int)), .long (eL ((cl 0 : Nat) : Int))])), ((ad 12), .inr (0, [.long (eL ((cu 1 : Nat) : Int)), .long (eL ((cl 1 : Nat) : Int))])), ((ad 13), .inr (0, [.long (eL ((cu 2 : Nat) : Int)), .long (eL ((cl 2 : Nat) : Int))])), ((ad 14), .inr (0, [.long (eL ((cu 3 : Nat) : Int)), .long (eL ((cl 3 : Nat) : Int))])), ((ad 15), .inr (0, [.long (eL ((cu 4 : Nat) : Int)), .long (eL ((cl 4 : Nat) : Int))])), ((ad 16), .inr (0, [.long (eL ((fu 0 : Nat) : Int)), .long (eL ((fl 0 : Nat) : Int))])), ((ad 17), .inr (0, [.long (eL ((fu 1 : Nat) : Int)), .long (eL ((fl 1 : Nat) : Int))])), ((ad 18), .inr (0, [.long (eL ((fu 2 : Nat) : Int)), .long (eL ((fl 2 : Nat) : Int))])), ((ad 19), .inr (0, [.long (eL ((fu 3 : Nat) : Int)), .long (eL ((fl 3 : Nat) : Int))])), ((ad 20), .inr (0, [.long (eL ((fu 4 : Nat) : Int)), .long (eL ((fl 4 : Nat) : Int))])), ((ad 21), .inr (3, [.int (eI (ys 0)), .int (eI (yl 0)), .int (eI (yp 0))])), ((ad 22), .inr (3, [.int (eI (ys 1)), .int (eI (yl 1)), .int (eI (yp 1))])), ((ad 23), .inr (3, [.int (eI (ys 2)), .int (eI (yl 2)), .int (eI (yp 2))]))] H := hP
  have hD : va_D A [((ad 0), .inr (4, [.ref (ad 1), .ref (ad 2), .ref (ad 3), .ref (ad 4), .ref (ad 5), .ref (ad 24), .int (eI 0), .int (eI 1000), .int (eI 1), .int (eI 0), .long (eL (-1))])), ((ad 1), .inl (cS, 5, .inr (.inr (.inr (.inr (eh_o5 (ad 6) (ad 7) (ad 8) (ad 9) (ad 10))))))), ((ad 2), aI cI 4 ln), ((ad 3), aI cZ 3 cb), ((ad 4), .inl (cY, 3, .inr (.inr (.inr (.inr (eh_o3 (ad 21) (ad 22) (ad 23))))))), ((ad 5), aI cI 30 la), ((ad 6), .inr (2, [.ref (ad 11), .ref (ad 16)])), ((ad 7), .inr (2, [.ref (ad 12), .ref (ad 17)])), ((ad 8), .inr (2, [.ref (ad 13), .ref (ad 18)])), ((ad 9), .inr (2, [.ref (ad 14), .ref (ad 19)])), ((ad 10), .inr (2, [.ref (ad 15), .ref (ad 20)])), ((ad 11), .inr (0, [.long (eL ((cu 0 : Nat) : Int)), .long (eL ((cl 0 : Nat) : Int))])), ((ad 12), .inr (0, [.long (eL ((cu 1 : Nat) : Int)), .long (eL ((cl 1 : Nat) : Int))])), ((ad 13), .inr (0, [.long (eL ((cu 2 : Nat) : Int)), .long (eL ((cl 2 : Nat) : Int))])), ((ad 14), .inr (0, [.long (eL ((cu 3 : Nat) : Int)), .long (eL ((cl 3 : Nat) : Int))])), ((ad 15), .inr (0, [.long (eL ((cu 4 : Nat) : Int)), .long (eL ((cl 4 : Nat) : Int))])), ((ad 16), .inr (0, [.long (eL ((fu 0 : Nat) : Int)), .long (eL ((fl 0 : Nat) : Int))])), ((ad 17), .inr (0, [.long (eL ((fu 1 : Nat) : Int)), .long (eL ((fl 1 : Nat) : Int))])), ((ad 18), .inr (0, [.long (eL ((fu 2 : Nat) : Int)), .long (eL ((fl 2 : Nat) : Int))])), ((ad 19), .inr (0, [.long (eL ((fu 3 : Nat) : Int)), .long (eL ((fl 3 : Nat) : Int))])), ((ad 20), .inr (0, [.long (eL ((fu 4 : Nat) : Int)), .long (eL ((fl 4 : Nat) : Int))])), ((ad 21), .inr (3, [.int (eI (ys 0)), .int (eI (yl 0)), .int (eI (yp 0))])), ((ad 22), .inr (3, [.int (eI (ys 1)), .int (eI (yl 1)), .int (eI (yp 1))])), ((ad 23), .inr (3, [.int (eI (ys 2)), .int (eI (yl 2)), .int (eI (yp 2))]))] := hD
  refine lv_iconst (v := eI 0) hx hb d_E_begin_29 rfl ?_
  refine lv_istore_n hx hb d_E_begin_30 rfl hl (by decide) rfl (fun ls hl => ?_)
  have hl : lv_has ls 2 [(1, .int (eI 0)), (0, .ref (ad 0))] := hl
  refine lv_iload_n hx hb d_E_begin_31 rfl (lv_at hl 0 rfl) ?_
  refine lv_aload_n hx hb d_E_begin_32 rfl (lv_at hl 1 rfl) ?_
  refine va_get (D := D) (ci := 4) (v := .ref (ad 3)) (C := R_E) (T := T_E) (N := 11) hx hb htb in_E hown hK hP 0 rfl rfl 2 (by decide) (htb _ tb_126) (fun _ h9 => h9) rfl d_E_begin_33 ?_
  refine va_alen (v := eI 3) hx hb hK hP 3 2 rfl rfl (by rfl) d_E_begin_36 ?_
  refine we_icmp_ge (tgt := 53) hx hb (by constructor <;> omega) (by constructor <;> omega) d_E_begin_37 rfl (fun hc37 => absurd hc37 (by omega)) (fun hc37 => ?_)
  refine lv_aload_n hx hb d_E_begin_40 rfl (lv_at hl 1 rfl) ?_
  refine va_get (D := D) (ci := 4) (v := .ref (ad 3)) (C := R_E) (T := T_E) (N := 11) hx hb htb in_E hown hK hP 0 rfl rfl 2 (by decide) (htb _ tb_126) (fun _ h9 => h9) rfl d_E_begin_41 ?_
  refine lv_iload_n hx hb d_E_begin_44 rfl (lv_at hl 0 rfl) ?_
  refine lv_iconst (v := eI 0) hx hb d_E_begin_45 rfl ?_
  refine we_zast hx hb hK hP hD hS 3 2 rfl rfl 0 rfl (by decide) (by decide) (by omega) d_E_begin_46 (fun H locs hP hD hS => ?_)
  have hP : va_P D classes [((ad 0), .inr (4, [.ref (ad 1), .ref (ad 2), .ref (ad 3), .ref (ad 4), .ref (ad 5), .ref (ad 24), .int (eI 0), .int (eI 1000), .int (eI 1), .int (eI 0), .long (eL (-1))])), ((ad 1), .inl (cS, 5, .inr (.inr (.inr (.inr (eh_o5 (ad 6) (ad 7) (ad 8) (ad 9) (ad 10))))))), ((ad 2), aI cI 4 ln), ((ad 3), aI cZ 3 (eh_upd cb 0 0)), ((ad 4), .inl (cY, 3, .inr (.inr (.inr (.inr (eh_o3 (ad 21) (ad 22) (ad 23))))))), ((ad 5), aI cI 30 la), ((ad 6), .inr (2, [.ref (ad 11), .ref (ad 16)])), ((ad 7), .inr (2, [.ref (ad 12), .ref (ad 17)])), ((ad 8), .inr (2, [.ref (ad 13), .ref (ad 18)])), ((ad 9), .inr (2, [.ref (ad 14), .ref (ad 19)])), ((ad 10), .inr (2, [.ref (ad 15), .ref (ad 20)])), ((ad 11), .inr (0, [.long (eL ((cu 0 : Nat) : Int)), .long (eL ((cl 0 : Nat) : Int))])), ((ad 12), .inr (0, [.long (eL ((cu 1 : Nat) : Int)), .long (eL ((cl 1 : Nat) : Int))])), ((ad 13), .inr (0, [.long (eL ((cu 2 : Nat) : Int)), .long (eL ((cl 2 : Nat) : Int))])), ((ad 14), .inr (0, [.long (eL ((cu 3 : Nat) : Int)), .long (eL ((cl 3 : Nat) : Int))])), ((ad 15), .inr (0, [.long (eL ((cu 4 : Nat) : Int)), .long (eL ((cl 4 : Nat) : Int))])), ((ad 16), .inr (0, [.long (eL ((fu 0 : Nat) : Int)), .long (eL ((fl 0 : Nat) : Int))])), ((ad 17), .inr (0, [.long (eL ((fu 1 : Nat) : Int)), .long (eL ((fl 1 : Nat) : Int))])), ((ad 18), .inr (0, [.long (eL ((fu 2 : Nat) : Int)), .long (eL ((fl 2 : Nat) : Int))])), ((ad 19), .inr (0, [.long (eL ((fu 3 : Nat) : Int)), .long (eL ((fl 3 : Nat) : Int))])), ((ad 20), .inr (0, [.long (eL ((fu 4 : Nat) : Int)), .long (eL ((fl 4 : Nat) : Int))])), ((ad 21), .inr (3, [.int (eI (ys 0)), .int (eI (yl 0)), .int (eI (yp 0))])), ((ad 22), .inr (3, [.int (eI (ys 1)), .int (eI (yl 1)), .int (eI (yp 1))])), ((ad 23), .inr (3, [.int (eI (ys 2)), .int (eI (yl 2)), .int (eI (yp 2))]))] H := hP
  have hD : va_D A [((ad 0), .inr (4, [.ref (ad 1), .ref (ad 2), .ref (ad 3), .ref (ad 4), .ref (ad 5), .ref (ad 24), .int (eI 0), .int (eI 1000), .int (eI 1), .int (eI 0), .long (eL (-1))])), ((ad 1), .inl (cS, 5, .inr (.inr (.inr (.inr (eh_o5 (ad 6) (ad 7) (ad 8) (ad 9) (ad 10))))))), ((ad 2), aI cI 4 ln), ((ad 3), aI cZ 3 (eh_upd cb 0 0)), ((ad 4), .inl (cY, 3, .inr (.inr (.inr (.inr (eh_o3 (ad 21) (ad 22) (ad 23))))))), ((ad 5), aI cI 30 la), ((ad 6), .inr (2, [.ref (ad 11), .ref (ad 16)])), ((ad 7), .inr (2, [.ref (ad 12), .ref (ad 17)])), ((ad 8), .inr (2, [.ref (ad 13), .ref (ad 18)])), ((ad 9), .inr (2, [.ref (ad 14), .ref (ad 19)])), ((ad 10), .inr (2, [.ref (ad 15), .ref (ad 20)])), ((ad 11), .inr (0, [.long (eL ((cu 0 : Nat) : Int)), .long (eL ((cl 0 : Nat) : Int))])), ((ad 12), .inr (0, [.long (eL ((cu 1 : Nat) : Int)), .long (eL ((cl 1 : Nat) : Int))])), ((ad 13), .inr (0, [.long (eL ((cu 2 : Nat) : Int)), .long (eL ((cl 2 : Nat) : Int))])), ((ad 14), .inr (0, [.long (eL ((cu 3 : Nat) : Int)), .long (eL ((cl 3 : Nat) : Int))])), ((ad 15), .inr (0, [.long (eL ((cu 4 : Nat) : Int)), .long (eL ((cl 4 : Nat) : Int))])), ((ad 16), .inr (0, [.long (eL ((fu 0 : Nat) : Int)), .long (eL ((fl 0 : Nat) : Int))])), ((ad 17), .inr (0, [.long (eL ((fu 1 : Nat) : Int)), .long (eL ((fl 1 : Nat) : Int))])), ((ad 18), .inr (0, [.long (eL ((fu 2 : Nat) : Int)), .long (eL ((fl 2 : Nat) : Int))])), ((ad 19), .inr (0, [.long (eL ((fu 3 : Nat) : Int)), .long (eL ((fl 3 : Nat) : Int))])), ((ad 20), .inr (0, [.long (eL ((fu 4 : Nat) : Int)), .long (eL ((fl 4 : Nat) : Int))])), ((ad 21), .inr (3, [.int (eI (ys 0)), .int (eI (yl 0)), .int (eI (yp 0))])), ((ad 22), .inr (3, [.int (eI (ys 1)), .int (eI (yl 1)), .int (eI (yp 1))])), ((ad 23), .inr (3, [.int (eI (ys 2)), .int (eI (yl 2)), .int (eI (yp 2))]))] := hD
  refine lv_iinc (v := eI 1) hx hb d_E_begin_47 hl (k := 0) rfl (eI_add _ _) (by decide) rfl (fun ls hl => ?_)
  have hl : lv_has ls 2 [(1, .int (eI 1)), (0, .ref (ad 0))] := hl
  refine lv_goto (tgt := 31) hx hb d_E_begin_50 rfl ?_
  refine lv_iload_n hx hb d_E_begin_31 rfl (lv_at hl 0 rfl) ?_
  refine lv_aload_n hx hb d_E_begin_32 rfl (lv_at hl 1 rfl) ?_
  refine va_get (D := D) (ci := 4) (v := .ref (ad 3)) (C := R_E) (T := T_E) (N := 11) hx hb htb in_E hown hK hP 0 rfl rfl 2 (by decide) (htb _ tb_126) (fun _ h9 => h9) rfl d_E_begin_33 ?_
  refine va_alen (v := eI 3) hx hb hK hP 3 2 rfl rfl (by rfl) d_E_begin_36 ?_
  refine we_icmp_ge (tgt := 53) hx hb (by constructor <;> omega) (by constructor <;> omega) d_E_begin_37 rfl (fun hc37 => absurd hc37 (by omega)) (fun hc37 => ?_)
  refine lv_aload_n hx hb d_E_begin_40 rfl (lv_at hl 1 rfl) ?_
  refine va_get (D := D) (ci := 4) (v := .ref (ad 3)) (C := R_E) (T := T_E) (N := 11) hx hb htb in_E hown hK hP 0 rfl rfl 2 (by decide) (htb _ tb_126) (fun _ h9 => h9) rfl d_E_begin_41 ?_
  refine lv_iload_n hx hb d_E_begin_44 rfl (lv_at hl 0 rfl) ?_
  refine lv_iconst (v := eI 0) hx hb d_E_begin_45 rfl ?_
  refine we_zast hx hb hK hP hD hS 3 2 rfl rfl 1 rfl (by decide) (by decide) (by omega) d_E_begin_46 (fun H locs hP hD hS => ?_)
  have hP : va_P D classes [((ad 0), .inr (4, [.ref (ad 1), .ref (ad 2), .ref (ad 3), .ref (ad 4), .ref (ad 5), .ref (ad 24), .int (eI 0), .int (eI 1000), .int (eI 1), .int (eI 0), .long (eL (-1))])), ((ad 1), .inl (cS, 5, .inr (.inr (.inr (.inr (eh_o5 (ad 6) (ad 7) (ad 8) (ad 9) (ad 10))))))), ((ad 2), aI cI 4 ln), ((ad 3), aI cZ 3 (eh_upd (eh_upd cb 0 0) 1 0)), ((ad 4), .inl (cY, 3, .inr (.inr (.inr (.inr (eh_o3 (ad 21) (ad 22) (ad 23))))))), ((ad 5), aI cI 30 la), ((ad 6), .inr (2, [.ref (ad 11), .ref (ad 16)])), ((ad 7), .inr (2, [.ref (ad 12), .ref (ad 17)])), ((ad 8), .inr (2, [.ref (ad 13), .ref (ad 18)])), ((ad 9), .inr (2, [.ref (ad 14), .ref (ad 19)])), ((ad 10), .inr (2, [.ref (ad 15), .ref (ad 20)])), ((ad 11), .inr (0, [.long (eL ((cu 0 : Nat) : Int)), .long (eL ((cl 0 : Nat) : Int))])), ((ad 12), .inr (0, [.long (eL ((cu 1 : Nat) : Int)), .long (eL ((cl 1 : Nat) : Int))])), ((ad 13), .inr (0, [.long (eL ((cu 2 : Nat) : Int)), .long (eL ((cl 2 : Nat) : Int))])), ((ad 14), .inr (0, [.long (eL ((cu 3 : Nat) : Int)), .long (eL ((cl 3 : Nat) : Int))])), ((ad 15), .inr (0, [.long (eL ((cu 4 : Nat) : Int)), .long (eL ((cl 4 : Nat) : Int))])), ((ad 16), .inr (0, [.long (eL ((fu 0 : Nat) : Int)), .long (eL ((fl 0 : Nat) : Int))])), ((ad 17), .inr (0, [.long (eL ((fu 1 : Nat) : Int)), .long (eL ((fl 1 : Nat) : Int))])), ((ad 18), .inr (0, [.long (eL ((fu 2 : Nat) : Int)), .long (eL ((fl 2 : Nat) : Int))])), ((ad 19), .inr (0, [.long (eL ((fu 3 : Nat) : Int)), .long (eL ((fl 3 : Nat) : Int))])), ((ad 20), .inr (0, [.long (eL ((fu 4 : Nat) : Int)), .long (eL ((fl 4 : Nat) : Int))])), ((ad 21), .inr (3, [.int (eI (ys 0)), .int (eI (yl 0)), .int (eI (yp 0))])), ((ad 22), .inr (3, [.int (eI (ys 1)), .int (eI (yl 1)), .int (eI (yp 1))])), ((ad 23), .inr (3, [.int (eI (ys 2)), .int (eI (yl 2)), .int (eI (yp 2))]))] H := hP
  have hD : va_D A [((ad 0), .inr (4, [.ref (ad 1), .ref (ad 2), .ref (ad 3), .ref (ad 4), .ref (ad 5), .ref (ad 24), .int (eI 0), .int (eI 1000), .int (eI 1), .int (eI 0), .long (eL (-1))])), ((ad 1), .inl (cS, 5, .inr (.inr (.inr (.inr (eh_o5 (ad 6) (ad 7) (ad 8) (ad 9) (ad 10))))))), ((ad 2), aI cI 4 ln), ((ad 3), aI cZ 3 (eh_upd (eh_upd cb 0 0) 1 0)), ((ad 4), .inl (cY, 3, .inr (.inr (.inr (.inr (eh_o3 (ad 21) (ad 22) (ad 23))))))), ((ad 5), aI cI 30 la), ((ad 6), .inr (2, [.ref (ad 11), .ref (ad 16)])), ((ad 7), .inr (2, [.ref (ad 12), .ref (ad 17)])), ((ad 8), .inr (2, [.ref (ad 13), .ref (ad 18)])), ((ad 9), .inr (2, [.ref (ad 14), .ref (ad 19)])), ((ad 10), .inr (2, [.ref (ad 15), .ref (ad 20)])), ((ad 11), .inr (0, [.long (eL ((cu 0 : Nat) : Int)), .long (eL ((cl 0 : Nat) : Int))])), ((ad 12), .inr (0, [.long (eL ((cu 1 : Nat) : Int)), .long (eL ((cl 1 : Nat) : Int))])), ((ad 13), .inr (0, [.long (eL ((cu 2 : Nat) : Int)), .long (eL ((cl 2 : Nat) : Int))])), ((ad 14), .inr (0, [.long (eL ((cu 3 : Nat) : Int)), .long (eL ((cl 3 : Nat) : Int))])), ((ad 15), .inr (0, [.long (eL ((cu 4 : Nat) : Int)), .long (eL ((cl 4 : Nat) : Int))])), ((ad 16), .inr (0, [.long (eL ((fu 0 : Nat) : Int)), .long (eL ((fl 0 : Nat) : Int))])), ((ad 17), .inr (0, [.long (eL ((fu 1 : Nat) : Int)), .long (eL ((fl 1 : Nat) : Int))])), ((ad 18), .inr (0, [.long (eL ((fu 2 : Nat) : Int)), .long (eL ((fl 2 : Nat) : Int))])), ((ad 19), .inr (0, [.long (eL ((fu 3 : Nat) : Int)), .long (eL ((fl 3 : Nat) : Int))])), ((ad 20), .inr (0, [.long (eL ((fu 4 : Nat) : Int)), .long (eL ((fl 4 : Nat) : Int))])), ((ad 21), .inr (3, [.int (eI (ys 0)), .int (eI (yl 0)), .int (eI (yp 0))])), ((ad 22), .inr (3, [.int (eI (ys 1)), .int (eI (yl 1)), .int (eI (yp 1))])), ((ad 23), .inr (3, [.int (eI (ys 2)), .int (eI (yl 2)), .int (eI (yp 2))]))] := hD
  refine lv_iinc (v := eI 2) hx hb d_E_begin_47 hl (k := 0) rfl (eI_add _ _) (by decide) rfl (fun ls hl => ?_)
  have hl : lv_has ls 2 [(1, .int (eI 2)), (0, .ref (ad 0))] := hl
  refine lv_goto (tgt := 31) hx hb d_E_begin_50 rfl ?_
  refine lv_iload_n hx hb d_E_begin_31 rfl (lv_at hl 0 rfl) ?_
  refine lv_aload_n hx hb d_E_begin_32 rfl (lv_at hl 1 rfl) ?_
  refine va_get (D := D) (ci := 4) (v := .ref (ad 3)) (C := R_E) (T := T_E) (N := 11) hx hb htb in_E hown hK hP 0 rfl rfl 2 (by decide) (htb _ tb_126) (fun _ h9 => h9) rfl d_E_begin_33 ?_
  refine va_alen (v := eI 3) hx hb hK hP 3 2 rfl rfl (by rfl) d_E_begin_36 ?_
  refine we_icmp_ge (tgt := 53) hx hb (by constructor <;> omega) (by constructor <;> omega) d_E_begin_37 rfl (fun hc37 => absurd hc37 (by omega)) (fun hc37 => ?_)
  refine lv_aload_n hx hb d_E_begin_40 rfl (lv_at hl 1 rfl) ?_
  refine va_get (D := D) (ci := 4) (v := .ref (ad 3)) (C := R_E) (T := T_E) (N := 11) hx hb htb in_E hown hK hP 0 rfl rfl 2 (by decide) (htb _ tb_126) (fun _ h9 => h9) rfl d_E_begin_41 ?_
  refine lv_iload_n hx hb d_E_begin_44 rfl (lv_at hl 0 rfl) ?_
  refine lv_iconst (v := eI 0) hx hb d_E_begin_45 rfl ?_
  refine we_zast hx hb hK hP hD hS 3 2 rfl rfl 2 rfl (by decide) (by decide) (by omega) d_E_begin_46 (fun H locs hP hD hS => ?_)
  have hP : va_P D classes [((ad 0), .inr (4, [.ref (ad 1), .ref (ad 2), .ref (ad 3), .ref (ad 4), .ref (ad 5), .ref (ad 24), .int (eI 0), .int (eI 1000), .int (eI 1), .int (eI 0), .long (eL (-1))])), ((ad 1), .inl (cS, 5, .inr (.inr (.inr (.inr (eh_o5 (ad 6) (ad 7) (ad 8) (ad 9) (ad 10))))))), ((ad 2), aI cI 4 ln), ((ad 3), aI cZ 3 (eh_upd (eh_upd (eh_upd cb 0 0) 1 0) 2 0)), ((ad 4), .inl (cY, 3, .inr (.inr (.inr (.inr (eh_o3 (ad 21) (ad 22) (ad 23))))))), ((ad 5), aI cI 30 la), ((ad 6), .inr (2, [.ref (ad 11), .ref (ad 16)])), ((ad 7), .inr (2, [.ref (ad 12), .ref (ad 17)])), ((ad 8), .inr (2, [.ref (ad 13), .ref (ad 18)])), ((ad 9), .inr (2, [.ref (ad 14), .ref (ad 19)])), ((ad 10), .inr (2, [.ref (ad 15), .ref (ad 20)])), ((ad 11), .inr (0, [.long (eL ((cu 0 : Nat) : Int)), .long (eL ((cl 0 : Nat) : Int))])), ((ad 12), .inr (0, [.long (eL ((cu 1 : Nat) : Int)), .long (eL ((cl 1 : Nat) : Int))])), ((ad 13), .inr (0, [.long (eL ((cu 2 : Nat) : Int)), .long (eL ((cl 2 : Nat) : Int))])), ((ad 14), .inr (0, [.long (eL ((cu 3 : Nat) : Int)), .long (eL ((cl 3 : Nat) : Int))])), ((ad 15), .inr (0, [.long (eL ((cu 4 : Nat) : Int)), .long (eL ((cl 4 : Nat) : Int))])), ((ad 16), .inr (0, [.long (eL ((fu 0 : Nat) : Int)), .long (eL ((fl 0 : Nat) : Int))])), ((ad 17), .inr (0, [.long (eL ((fu 1 : Nat) : Int)), .long (eL ((fl 1 : Nat) : Int))])), ((ad 18), .inr (0, [.long (eL ((fu 2 : Nat) : Int)), .long (eL ((fl 2 : Nat) : Int))])), ((ad 19), .inr (0, [.long (eL ((fu 3 : Nat) : Int)), .long (eL ((fl 3 : Nat) : Int))])), ((ad 20), .inr (0, [.long (eL ((fu 4 : Nat) : Int)), .long (eL ((fl 4 : Nat) : Int))])), ((ad 21), .inr (3, [.int (eI (ys 0)), .int (eI (yl 0)), .int (eI (yp 0))])), ((ad 22), .inr (3, [.int (eI (ys 1)), .int (eI (yl 1)), .int (eI (yp 1))])), ((ad 23), .inr (3, [.int (eI (ys 2)), .int (eI (yl 2)), .int (eI (yp 2))]))] H := hP
  have hD : va_D A [((ad 0), .inr (4, [.ref (ad 1), .ref (ad 2), .ref (ad 3), .ref (ad 4), .ref (ad 5), .ref (ad 24), .int (eI 0), .int (eI 1000), .int (eI 1), .int (eI 0), .long (eL (-1))])), ((ad 1), .inl (cS, 5, .inr (.inr (.inr (.inr (eh_o5 (ad 6) (ad 7) (ad 8) (ad 9) (ad 10))))))), ((ad 2), aI cI 4 ln), ((ad 3), aI cZ 3 (eh_upd (eh_upd (eh_upd cb 0 0) 1 0) 2 0)), ((ad 4), .inl (cY, 3, .inr (.inr (.inr (.inr (eh_o3 (ad 21) (ad 22) (ad 23))))))), ((ad 5), aI cI 30 la), ((ad 6), .inr (2, [.ref (ad 11), .ref (ad 16)])), ((ad 7), .inr (2, [.ref (ad 12), .ref (ad 17)])), ((ad 8), .inr (2, [.ref (ad 13), .ref (ad 18)])), ((ad 9), .inr (2, [.ref (ad 14), .ref (ad 19)])), ((ad 10), .inr (2, [.ref (ad 15), .ref (ad 20)])), ((ad 11), .inr (0, [.long (eL ((cu 0 : Nat) : Int)), .long (eL ((cl 0 : Nat) : Int))])), ((ad 12), .inr (0, [.long (eL ((cu 1 : Nat) : Int)), .long (eL ((cl 1 : Nat) : Int))])), ((ad 13), .inr (0, [.long (eL ((cu 2 : Nat) : Int)), .long (eL ((cl 2 : Nat) : Int))])), ((ad 14), .inr (0, [.long (eL ((cu 3 : Nat) : Int)), .long (eL ((cl 3 : Nat) : Int))])), ((ad 15), .inr (0, [.long (eL ((cu 4 : Nat) : Int)), .long (eL ((cl 4 : Nat) : Int))])), ((ad 16), .inr (0, [.long (eL ((fu 0 : Nat) : Int)), .long (eL ((fl 0 : Nat) : Int))])), ((ad 17), .inr (0, [.long (eL ((fu 1 : Nat) : Int)), .long (eL ((fl 1 : Nat) : Int))])), ((ad 18), .inr (0, [.long (eL ((fu 2 : Nat) : Int)), .long (eL ((fl 2 : Nat) : Int))])), ((ad 19), .inr (0, [.long (eL ((fu 3 : Nat) : Int)), .long (eL ((fl 3 : Nat) : Int))])), ((ad 20), .inr (0, [.long (eL ((fu 4 : Nat) : Int)), .long (eL ((fl 4 : Nat) : Int))])), ((ad 21), .inr (3, [.int (eI (ys 0)), .int (eI (yl 0)), .int (eI (yp 0))])), ((ad 22), .inr (3, [.int (eI (ys 1)), .int (eI (yl 1)), .int (eI (yp 1))])), ((ad 23), .inr (3, [.int (eI (ys 2)), .int (eI (yl 2)), .int (eI (yp 2))]))] := hD
  refine lv_iinc (v := eI 3) hx hb d_E_begin_47 hl (k := 0) rfl (eI_add _ _) (by decide) rfl (fun ls hl => ?_)
  have hl : lv_has ls 2 [(1, .int (eI 3)), (0, .ref (ad 0))] := hl
  refine lv_goto (tgt := 31) hx hb d_E_begin_50 rfl ?_
  refine lv_iload_n hx hb d_E_begin_31 rfl (lv_at hl 0 rfl) ?_
  refine lv_aload_n hx hb d_E_begin_32 rfl (lv_at hl 1 rfl) ?_
  refine va_get (D := D) (ci := 4) (v := .ref (ad 3)) (C := R_E) (T := T_E) (N := 11) hx hb htb in_E hown hK hP 0 rfl rfl 2 (by decide) (htb _ tb_126) (fun _ h9 => h9) rfl d_E_begin_33 ?_
  refine va_alen (v := eI 3) hx hb hK hP 3 2 rfl rfl (by rfl) d_E_begin_36 ?_
  refine we_icmp_ge (tgt := 53) hx hb (by constructor <;> omega) (by constructor <;> omega) d_E_begin_37 rfl (fun hc37 => ?_) (fun hc37 => absurd hc37 (by omega))
  refine lv_iconst (v := eI 0) hx hb d_E_begin_53 rfl ?_
  refine lv_istore_n hx hb d_E_begin_54 rfl hl (by decide) rfl (fun ls hl => ?_)
  have hl : lv_has ls 2 [(1, .int (eI 0)), (0, .ref (ad 0))] := hl
  refine lv_iload_n hx hb d_E_begin_55 rfl (lv_at hl 0 rfl) ?_
  refine lv_iconst (v := eI 3) hx hb d_E_begin_56 rfl ?_
  refine we_icmp_ge (tgt := 75) hx hb (by constructor <;> omega) (by constructor <;> omega) d_E_begin_57 rfl (fun hc57 => absurd hc57 (by omega)) (fun hc57 => ?_)
  refine lv_aload_n hx hb d_E_begin_60 rfl (lv_at hl 1 rfl) ?_
  refine va_get (D := D) (ci := 4) (v := .ref (ad 4)) (C := R_E) (T := T_E) (N := 11) hx hb htb in_E hown hK hP 0 rfl rfl 3 (by decide) (htb _ tb_127) (fun _ h9 => h9) rfl d_E_begin_61 ?_
  refine lv_iload_n hx hb d_E_begin_64 rfl (lv_at hl 0 rfl) ?_
  refine we_aald (r := (ad 21)) hx hb hK hP 4 4 rfl rfl 0 rfl (by decide) (by decide) rfl d_E_begin_65 ?_
  refine eh_cMV (As := []) (rest := []) (q := (R_Y, T_Y, 3)) (wr := [((ad 0), .inr (4, [.ref (ad 1), .ref (ad 2), .ref (ad 3), .ref (ad 4), .ref (ad 5), .ref (ad 24), .int (eI 0), .int (eI 1000), .int (eI 1), .int (eI 0), .long (eL (-1))])), ((ad 1), .inl (cS, 5, .inr (.inr (.inr (.inr (eh_o5 (ad 6) (ad 7) (ad 8) (ad 9) (ad 10))))))), ((ad 2), aI cI 4 ln), ((ad 3), aI cZ 3 (eh_upd (eh_upd (eh_upd cb 0 0) 1 0) 2 0)), ((ad 4), .inl (cY, 3, .inr (.inr (.inr (.inr (eh_o3 (ad 21) (ad 22) (ad 23))))))), ((ad 5), aI cI 30 la), ((ad 6), .inr (2, [.ref (ad 11), .ref (ad 16)])), ((ad 7), .inr (2, [.ref (ad 12), .ref (ad 17)])), ((ad 8), .inr (2, [.ref (ad 13), .ref (ad 18)])), ((ad 9), .inr (2, [.ref (ad 14), .ref (ad 19)])), ((ad 10), .inr (2, [.ref (ad 15), .ref (ad 20)])), ((ad 11), .inr (0, [.long (eL ((cu 0 : Nat) : Int)), .long (eL ((cl 0 : Nat) : Int))])), ((ad 12), .inr (0, [.long (eL ((cu 1 : Nat) : Int)), .long (eL ((cl 1 : Nat) : Int))])), ((ad 13), .inr (0, [.long (eL ((cu 2 : Nat) : Int)), .long (eL ((cl 2 : Nat) : Int))])), ((ad 14), .inr (0, [.long (eL ((cu 3 : Nat) : Int)), .long (eL ((cl 3 : Nat) : Int))])), ((ad 15), .inr (0, [.long (eL ((cu 4 : Nat) : Int)), .long (eL ((cl 4 : Nat) : Int))])), ((ad 16), .inr (0, [.long (eL ((fu 0 : Nat) : Int)), .long (eL ((fl 0 : Nat) : Int))])), ((ad 17), .inr (0, [.long (eL ((fu 1 : Nat) : Int)), .long (eL ((fl 1 : Nat) : Int))])), ((ad 18), .inr (0, [.long (eL ((fu 2 : Nat) : Int)), .long (eL ((fl 2 : Nat) : Int))])), ((ad 19), .inr (0, [.long (eL ((fu 3 : Nat) : Int)), .long (eL ((fl 3 : Nat) : Int))])), ((ad 20), .inr (0, [.long (eL ((fu 4 : Nat) : Int)), .long (eL ((fl 4 : Nat) : Int))])), ((ad 22), .inr (3, [.int (eI (ys 1)), .int (eI (yl 1)), .int (eI (yp 1))])), ((ad 23), .inr (3, [.int (eI (ys 2)), .int (eI (yl 2)), .int (eI (yp 2))]))]) hx hb hml hown htb hN (m_Y_remove l D (ad 21) (ys 0) (yl 0) (yp 0)) 0 ⟨tb_113, tb_114, tb_115, tb_5, kin_Y_remove⟩ dv_Y_remove ⟨by rw [hR1]; decide, by rw [hR2]; decide⟩ hK hP hD hS hA 21 rfl rfl [21] [0, 1, 2, 3, 4, 5, 6, 7, 8, 9, 10, 11, 12, 13, 14, 15, 16, 17, 18, 19, 20, 22, 23] rfl rfl (by decide) rfl (by decide) (by decide) [] rfl rfl rfl hl.1 (Nat.le_of_ble_eq_true rfl) d_E_begin_66 ⟨Nat.zero_le _, Nat.zero_le _⟩ (fun u H locs hu hP hD hS => ?_)
  have hP := hP.sub (ws' := [((ad 0), .inr (4, [.ref (ad 1), .ref (ad 2), .ref (ad 3), .ref (ad 4), .ref (ad 5), .ref (ad 24), .int (eI 0), .int (eI 1000), .int (eI 1), .int (eI 0), .long (eL (-1))])), ((ad 1), .inl (cS, 5, .inr (.inr (.inr (.inr (eh_o5 (ad 6) (ad 7) (ad 8) (ad 9) (ad 10))))))), ((ad 2), aI cI 4 ln), ((ad 3), aI cZ 3 (eh_upd (eh_upd (eh_upd cb 0 0) 1 0) 2 0)), ((ad 4), .inl (cY, 3, .inr (.inr (.inr (.inr (eh_o3 (ad 21) (ad 22) (ad 23))))))), ((ad 5), aI cI 30 la), ((ad 6), .inr (2, [.ref (ad 11), .ref (ad 16)])), ((ad 7), .inr (2, [.ref (ad 12), .ref (ad 17)])), ((ad 8), .inr (2, [.ref (ad 13), .ref (ad 18)])), ((ad 9), .inr (2, [.ref (ad 14), .ref (ad 19)])), ((ad 10), .inr (2, [.ref (ad 15), .ref (ad 20)])), ((ad 11), .inr (0, [.long (eL ((cu 0 : Nat) : Int)), .long (eL ((cl 0 : Nat) : Int))])), ((ad 12), .inr (0, [.long (eL ((cu 1 : Nat) : Int)), .long (eL ((cl 1 : Nat) : Int))])), ((ad 13), .inr (0, [.long (eL ((cu 2 : Nat) : Int)), .long (eL ((cl 2 : Nat) : Int))])), ((ad 14), .inr (0, [.long (eL ((cu 3 : Nat) : Int)), .long (eL ((cl 3 : Nat) : Int))])), ((ad 15), .inr (0, [.long (eL ((cu 4 : Nat) : Int)), .long (eL ((cl 4 : Nat) : Int))])), ((ad 16), .inr (0, [.long (eL ((fu 0 : Nat) : Int)), .long (eL ((fl 0 : Nat) : Int))])), ((ad 17), .inr (0, [.long (eL ((fu 1 : Nat) : Int)), .long (eL ((fl 1 : Nat) : Int))])), ((ad 18), .inr (0, [.long (eL ((fu 2 : Nat) : Int)), .long (eL ((fl 2 : Nat) : Int))])), ((ad 19), .inr (0, [.long (eL ((fu 3 : Nat) : Int)), .long (eL ((fl 3 : Nat) : Int))])), ((ad 20), .inr (0, [.long (eL ((fu 4 : Nat) : Int)), .long (eL ((fl 4 : Nat) : Int))])), ((ad 21), .inr (3, [.int (eI (-1)), .int (eI 0), .int (eI 0)])), ((ad 22), .inr (3, [.int (eI (ys 1)), .int (eI (yl 1)), .int (eI (yp 1))])), ((ad 23), .inr (3, [.int (eI (ys 2)), .int (eI (yl 2)), .int (eI (yp 2))]))]) [0, 1, 2, 3, 4, 5, 6, 7, 8, 9, 10, 11, 12, 13, 14, 15, 16, 17, 18, 19, 20, 23, 21, 22] rfl
  have hD := hD.sub (ws' := [((ad 0), .inr (4, [.ref (ad 1), .ref (ad 2), .ref (ad 3), .ref (ad 4), .ref (ad 5), .ref (ad 24), .int (eI 0), .int (eI 1000), .int (eI 1), .int (eI 0), .long (eL (-1))])), ((ad 1), .inl (cS, 5, .inr (.inr (.inr (.inr (eh_o5 (ad 6) (ad 7) (ad 8) (ad 9) (ad 10))))))), ((ad 2), aI cI 4 ln), ((ad 3), aI cZ 3 (eh_upd (eh_upd (eh_upd cb 0 0) 1 0) 2 0)), ((ad 4), .inl (cY, 3, .inr (.inr (.inr (.inr (eh_o3 (ad 21) (ad 22) (ad 23))))))), ((ad 5), aI cI 30 la), ((ad 6), .inr (2, [.ref (ad 11), .ref (ad 16)])), ((ad 7), .inr (2, [.ref (ad 12), .ref (ad 17)])), ((ad 8), .inr (2, [.ref (ad 13), .ref (ad 18)])), ((ad 9), .inr (2, [.ref (ad 14), .ref (ad 19)])), ((ad 10), .inr (2, [.ref (ad 15), .ref (ad 20)])), ((ad 11), .inr (0, [.long (eL ((cu 0 : Nat) : Int)), .long (eL ((cl 0 : Nat) : Int))])), ((ad 12), .inr (0, [.long (eL ((cu 1 : Nat) : Int)), .long (eL ((cl 1 : Nat) : Int))])), ((ad 13), .inr (0, [.long (eL ((cu 2 : Nat) : Int)), .long (eL ((cl 2 : Nat) : Int))])), ((ad 14), .inr (0, [.long (eL ((cu 3 : Nat) : Int)), .long (eL ((cl 3 : Nat) : Int))])), ((ad 15), .inr (0, [.long (eL ((cu 4 : Nat) : Int)), .long (eL ((cl 4 : Nat) : Int))])), ((ad 16), .inr (0, [.long (eL ((fu 0 : Nat) : Int)), .long (eL ((fl 0 : Nat) : Int))])), ((ad 17), .inr (0, [.long (eL ((fu 1 : Nat) : Int)), .long (eL ((fl 1 : Nat) : Int))])), ((ad 18), .inr (0, [.long (eL ((fu 2 : Nat) : Int)), .long (eL ((fl 2 : Nat) : Int))])), ((ad 19), .inr (0, [.long (eL ((fu 3 : Nat) : Int)), .long (eL ((fl 3 : Nat) : Int))])), ((ad 20), .inr (0, [.long (eL ((fu 4 : Nat) : Int)), .long (eL ((fl 4 : Nat) : Int))])), ((ad 21), .inr (3, [.int (eI (-1)), .int (eI 0), .int (eI 0)])), ((ad 22), .inr (3, [.int (eI (ys 1)), .int (eI (yl 1)), .int (eI (yp 1))])), ((ad 23), .inr (3, [.int (eI (ys 2)), .int (eI (yl 2)), .int (eI (yp 2))]))]) [0, 1, 2, 3, 4, 5, 6, 7, 8, 9, 10, 11, 12, 13, 14, 15, 16, 17, 18, 19, 20, 23, 21, 22] (by decide) rfl
  refine lv_iinc (v := eI 1) hx hb d_E_begin_69 hl (k := 0) rfl (eI_add _ _) (by decide) rfl (fun ls hl => ?_)
  have hl : lv_has ls 2 [(1, .int (eI 1)), (0, .ref (ad 0))] := hl
  refine lv_goto (tgt := 55) hx hb d_E_begin_72 rfl ?_
  refine lv_iload_n hx hb d_E_begin_55 rfl (lv_at hl 0 rfl) ?_
  refine lv_iconst (v := eI 3) hx hb d_E_begin_56 rfl ?_
  refine we_icmp_ge (tgt := 75) hx hb (by constructor <;> omega) (by constructor <;> omega) d_E_begin_57 rfl (fun hc57 => absurd hc57 (by omega)) (fun hc57 => ?_)
  refine lv_aload_n hx hb d_E_begin_60 rfl (lv_at hl 1 rfl) ?_
  refine va_get (D := D) (ci := 4) (v := .ref (ad 4)) (C := R_E) (T := T_E) (N := 11) hx hb htb in_E hown hK hP 0 rfl rfl 3 (by decide) (htb _ tb_127) (fun _ h9 => h9) rfl d_E_begin_61 ?_
  refine lv_iload_n hx hb d_E_begin_64 rfl (lv_at hl 0 rfl) ?_
  refine we_aald (r := (ad 22)) hx hb hK hP 4 4 rfl rfl 1 rfl (by decide) (by decide) rfl d_E_begin_65 ?_
  refine eh_cMV (As := []) (rest := []) (q := (R_Y, T_Y, 3)) (wr := [((ad 0), .inr (4, [.ref (ad 1), .ref (ad 2), .ref (ad 3), .ref (ad 4), .ref (ad 5), .ref (ad 24), .int (eI 0), .int (eI 1000), .int (eI 1), .int (eI 0), .long (eL (-1))])), ((ad 1), .inl (cS, 5, .inr (.inr (.inr (.inr (eh_o5 (ad 6) (ad 7) (ad 8) (ad 9) (ad 10))))))), ((ad 2), aI cI 4 ln), ((ad 3), aI cZ 3 (eh_upd (eh_upd (eh_upd cb 0 0) 1 0) 2 0)), ((ad 4), .inl (cY, 3, .inr (.inr (.inr (.inr (eh_o3 (ad 21) (ad 22) (ad 23))))))), ((ad 5), aI cI 30 la), ((ad 6), .inr (2, [.ref (ad 11), .ref (ad 16)])), ((ad 7), .inr (2, [.ref (ad 12), .ref (ad 17)])), ((ad 8), .inr (2, [.ref (ad 13), .ref (ad 18)])), ((ad 9), .inr (2, [.ref (ad 14), .ref (ad 19)])), ((ad 10), .inr (2, [.ref (ad 15), .ref (ad 20)])), ((ad 11), .inr (0, [.long (eL ((cu 0 : Nat) : Int)), .long (eL ((cl 0 : Nat) : Int))])), ((ad 12), .inr (0, [.long (eL ((cu 1 : Nat) : Int)), .long (eL ((cl 1 : Nat) : Int))])), ((ad 13), .inr (0, [.long (eL ((cu 2 : Nat) : Int)), .long (eL ((cl 2 : Nat) : Int))])), ((ad 14), .inr (0, [.long (eL ((cu 3 : Nat) : Int)), .long (eL ((cl 3 : Nat) : Int))])), ((ad 15), .inr (0, [.long (eL ((cu 4 : Nat) : Int)), .long (eL ((cl 4 : Nat) : Int))])), ((ad 16), .inr (0, [.long (eL ((fu 0 : Nat) : Int)), .long (eL ((fl 0 : Nat) : Int))])), ((ad 17), .inr (0, [.long (eL ((fu 1 : Nat) : Int)), .long (eL ((fl 1 : Nat) : Int))])), ((ad 18), .inr (0, [.long (eL ((fu 2 : Nat) : Int)), .long (eL ((fl 2 : Nat) : Int))])), ((ad 19), .inr (0, [.long (eL ((fu 3 : Nat) : Int)), .long (eL ((fl 3 : Nat) : Int))])), ((ad 20), .inr (0, [.long (eL ((fu 4 : Nat) : Int)), .long (eL ((fl 4 : Nat) : Int))])), ((ad 21), .inr (3, [.int (eI (-1)), .int (eI 0), .int (eI 0)])), ((ad 23), .inr (3, [.int (eI (ys 2)), .int (eI (yl 2)), .int (eI (yp 2))]))]) hx hb hml hown htb hN (m_Y_remove l D (ad 22) (ys 1) (yl 1) (yp 1)) 0 ⟨tb_113, tb_114, tb_115, tb_5, kin_Y_remove⟩ dv_Y_remove ⟨by rw [hR1]; decide, by rw [hR2]; decide⟩ hK hP hD hS hA 22 rfl rfl [22] [0, 1, 2, 3, 4, 5, 6, 7, 8, 9, 10, 11, 12, 13, 14, 15, 16, 17, 18, 19, 20, 21, 23] rfl rfl (by decide) rfl (by decide) (by decide) [] rfl rfl rfl hl.1 (Nat.le_of_ble_eq_true rfl) d_E_begin_66 ⟨Nat.zero_le _, Nat.zero_le _⟩ (fun u H locs hu hP hD hS => ?_)
  have hP := hP.sub (ws' := [((ad 0), .inr (4, [.ref (ad 1), .ref (ad 2), .ref (ad 3), .ref (ad 4), .ref (ad 5), .ref (ad 24), .int (eI 0), .int (eI 1000), .int (eI 1), .int (eI 0), .long (eL (-1))])), ((ad 1), .inl (cS, 5, .inr (.inr (.inr (.inr (eh_o5 (ad 6) (ad 7) (ad 8) (ad 9) (ad 10))))))), ((ad 2), aI cI 4 ln), ((ad 3), aI cZ 3 (eh_upd (eh_upd (eh_upd cb 0 0) 1 0) 2 0)), ((ad 4), .inl (cY, 3, .inr (.inr (.inr (.inr (eh_o3 (ad 21) (ad 22) (ad 23))))))), ((ad 5), aI cI 30 la), ((ad 6), .inr (2, [.ref (ad 11), .ref (ad 16)])), ((ad 7), .inr (2, [.ref (ad 12), .ref (ad 17)])), ((ad 8), .inr (2, [.ref (ad 13), .ref (ad 18)])), ((ad 9), .inr (2, [.ref (ad 14), .ref (ad 19)])), ((ad 10), .inr (2, [.ref (ad 15), .ref (ad 20)])), ((ad 11), .inr (0, [.long (eL ((cu 0 : Nat) : Int)), .long (eL ((cl 0 : Nat) : Int))])), ((ad 12), .inr (0, [.long (eL ((cu 1 : Nat) : Int)), .long (eL ((cl 1 : Nat) : Int))])), ((ad 13), .inr (0, [.long (eL ((cu 2 : Nat) : Int)), .long (eL ((cl 2 : Nat) : Int))])), ((ad 14), .inr (0, [.long (eL ((cu 3 : Nat) : Int)), .long (eL ((cl 3 : Nat) : Int))])), ((ad 15), .inr (0, [.long (eL ((cu 4 : Nat) : Int)), .long (eL ((cl 4 : Nat) : Int))])), ((ad 16), .inr (0, [.long (eL ((fu 0 : Nat) : Int)), .long (eL ((fl 0 : Nat) : Int))])), ((ad 17), .inr (0, [.long (eL ((fu 1 : Nat) : Int)), .long (eL ((fl 1 : Nat) : Int))])), ((ad 18), .inr (0, [.long (eL ((fu 2 : Nat) : Int)), .long (eL ((fl 2 : Nat) : Int))])), ((ad 19), .inr (0, [.long (eL ((fu 3 : Nat) : Int)), .long (eL ((fl 3 : Nat) : Int))])), ((ad 20), .inr (0, [.long (eL ((fu 4 : Nat) : Int)), .long (eL ((fl 4 : Nat) : Int))])), ((ad 21), .inr (3, [.int (eI (-1)), .int (eI 0), .int (eI 0)])), ((ad 22), .inr (3, [.int (eI (-1)), .int (eI 0), .int (eI 0)])), ((ad 23), .inr (3, [.int (eI (ys 2)), .int (eI (yl 2)), .int (eI (yp 2))]))]) [0, 1, 2, 3, 4, 5, 6, 7, 8, 9, 10, 11, 12, 13, 14, 15, 16, 17, 18, 19, 20, 21, 23, 22] rfl
  have hD := hD.sub (ws' := [((ad 0), .inr (4, [.ref (ad 1), .ref (ad 2), .ref (ad 3), .ref (ad 4), .ref (ad 5), .ref (ad 24), .int (eI 0), .int (eI 1000), .int (eI 1), .int (eI 0), .long (eL (-1))])), ((ad 1), .inl (cS, 5, .inr (.inr (.inr (.inr (eh_o5 (ad 6) (ad 7) (ad 8) (ad 9) (ad 10))))))), ((ad 2), aI cI 4 ln), ((ad 3), aI cZ 3 (eh_upd (eh_upd (eh_upd cb 0 0) 1 0) 2 0)), ((ad 4), .inl (cY, 3, .inr (.inr (.inr (.inr (eh_o3 (ad 21) (ad 22) (ad 23))))))), ((ad 5), aI cI 30 la), ((ad 6), .inr (2, [.ref (ad 11), .ref (ad 16)])), ((ad 7), .inr (2, [.ref (ad 12), .ref (ad 17)])), ((ad 8), .inr (2, [.ref (ad 13), .ref (ad 18)])), ((ad 9), .inr (2, [.ref (ad 14), .ref (ad 19)])), ((ad 10), .inr (2, [.ref (ad 15), .ref (ad 20)])), ((ad 11), .inr (0, [.long (eL ((cu 0 : Nat) : Int)), .long (eL ((cl 0 : Nat) : Int))])), ((ad 12), .inr (0, [.long (eL ((cu 1 : Nat) : Int)), .long (eL ((cl 1 : Nat) : Int))])), ((ad 13), .inr (0, [.long (eL ((cu 2 : Nat) : Int)), .long (eL ((cl 2 : Nat) : Int))])), ((ad 14), .inr (0, [.long (eL ((cu 3 : Nat) : Int)), .long (eL ((cl 3 : Nat) : Int))])), ((ad 15), .inr (0, [.long (eL ((cu 4 : Nat) : Int)), .long (eL ((cl 4 : Nat) : Int))])), ((ad 16), .inr (0, [.long (eL ((fu 0 : Nat) : Int)), .long (eL ((fl 0 : Nat) : Int))])), ((ad 17), .inr (0, [.long (eL ((fu 1 : Nat) : Int)), .long (eL ((fl 1 : Nat) : Int))])), ((ad 18), .inr (0, [.long (eL ((fu 2 : Nat) : Int)), .long (eL ((fl 2 : Nat) : Int))])), ((ad 19), .inr (0, [.long (eL ((fu 3 : Nat) : Int)), .long (eL ((fl 3 : Nat) : Int))])), ((ad 20), .inr (0, [.long (eL ((fu 4 : Nat) : Int)), .long (eL ((fl 4 : Nat) : Int))])), ((ad 21), .inr (3, [.int (eI (-1)), .int (eI 0), .int (eI 0)])), ((ad 22), .inr (3, [.int (eI (-1)), .int (eI 0), .int (eI 0)])), ((ad 23), .inr (3, [.int (eI (ys 2)), .int (eI (yl 2)), .int (eI (yp 2))]))]) [0, 1, 2, 3, 4, 5, 6, 7, 8, 9, 10, 11, 12, 13, 14, 15, 16, 17, 18, 19, 20, 21, 23, 22] (by decide) rfl
  refine lv_iinc (v := eI 2) hx hb d_E_begin_69 hl (k := 0) rfl (eI_add _ _) (by decide) rfl (fun ls hl => ?_)
  have hl : lv_has ls 2 [(1, .int (eI 2)), (0, .ref (ad 0))] := hl
  refine lv_goto (tgt := 55) hx hb d_E_begin_72 rfl ?_
  refine lv_iload_n hx hb d_E_begin_55 rfl (lv_at hl 0 rfl) ?_
  refine lv_iconst (v := eI 3) hx hb d_E_begin_56 rfl ?_
  refine we_icmp_ge (tgt := 75) hx hb (by constructor <;> omega) (by constructor <;> omega) d_E_begin_57 rfl (fun hc57 => absurd hc57 (by omega)) (fun hc57 => ?_)
  refine lv_aload_n hx hb d_E_begin_60 rfl (lv_at hl 1 rfl) ?_
  refine va_get (D := D) (ci := 4) (v := .ref (ad 4)) (C := R_E) (T := T_E) (N := 11) hx hb htb in_E hown hK hP 0 rfl rfl 3 (by decide) (htb _ tb_127) (fun _ h9 => h9) rfl d_E_begin_61 ?_
  refine lv_iload_n hx hb d_E_begin_64 rfl (lv_at hl 0 rfl) ?_
  refine we_aald (r := (ad 23)) hx hb hK hP 4 4 rfl rfl 2 rfl (by decide) (by decide) rfl d_E_begin_65 ?_
  refine eh_cMV (As := []) (rest := []) (q := (R_Y, T_Y, 3)) (wr := [((ad 0), .inr (4, [.ref (ad 1), .ref (ad 2), .ref (ad 3), .ref (ad 4), .ref (ad 5), .ref (ad 24), .int (eI 0), .int (eI 1000), .int (eI 1), .int (eI 0), .long (eL (-1))])), ((ad 1), .inl (cS, 5, .inr (.inr (.inr (.inr (eh_o5 (ad 6) (ad 7) (ad 8) (ad 9) (ad 10))))))), ((ad 2), aI cI 4 ln), ((ad 3), aI cZ 3 (eh_upd (eh_upd (eh_upd cb 0 0) 1 0) 2 0)), ((ad 4), .inl (cY, 3, .inr (.inr (.inr (.inr (eh_o3 (ad 21) (ad 22) (ad 23))))))), ((ad 5), aI cI 30 la), ((ad 6), .inr (2, [.ref (ad 11), .ref (ad 16)])), ((ad 7), .inr (2, [.ref (ad 12), .ref (ad 17)])), ((ad 8), .inr (2, [.ref (ad 13), .ref (ad 18)])), ((ad 9), .inr (2, [.ref (ad 14), .ref (ad 19)])), ((ad 10), .inr (2, [.ref (ad 15), .ref (ad 20)])), ((ad 11), .inr (0, [.long (eL ((cu 0 : Nat) : Int)), .long (eL ((cl 0 : Nat) : Int))])), ((ad 12), .inr (0, [.long (eL ((cu 1 : Nat) : Int)), .long (eL ((cl 1 : Nat) : Int))])), ((ad 13), .inr (0, [.long (eL ((cu 2 : Nat) : Int)), .long (eL ((cl 2 : Nat) : Int))])), ((ad 14), .inr (0, [.long (eL ((cu 3 : Nat) : Int)), .long (eL ((cl 3 : Nat) : Int))])), ((ad 15), .inr (0, [.long (eL ((cu 4 : Nat) : Int)), .long (eL ((cl 4 : Nat) : Int))])), ((ad 16), .inr (0, [.long (eL ((fu 0 : Nat) : Int)), .long (eL ((fl 0 : Nat) : Int))])), ((ad 17), .inr (0, [.long (eL ((fu 1 : Nat) : Int)), .long (eL ((fl 1 : Nat) : Int))])), ((ad 18), .inr (0, [.long (eL ((fu 2 : Nat) : Int)), .long (eL ((fl 2 : Nat) : Int))])), ((ad 19), .inr (0, [.long (eL ((fu 3 : Nat) : Int)), .long (eL ((fl 3 : Nat) : Int))])), ((ad 20), .inr (0, [.long (eL ((fu 4 : Nat) : Int)), .long (eL ((fl 4 : Nat) : Int))])), ((ad 21), .inr (3, [.int (eI (-1)), .int (eI 0), .int (eI 0)])), ((ad 22), .inr (3, [.int (eI (-1)), .int (eI 0), .int (eI 0)]))]) hx hb hml hown htb hN (m_Y_remove l D (ad 23) (ys 2) (yl 2) (yp 2)) 0 ⟨tb_113, tb_114, tb_115, tb_5, kin_Y_remove⟩ dv_Y_remove ⟨by rw [hR1]; decide, by rw [hR2]; decide⟩ hK hP hD hS hA 23 rfl rfl [23] [0, 1, 2, 3, 4, 5, 6, 7, 8, 9, 10, 11, 12, 13, 14, 15, 16, 17, 18, 19, 20, 21, 22] rfl rfl (by decide) rfl (by decide) (by decide) [] rfl rfl rfl hl.1 (Nat.le_of_ble_eq_true rfl) d_E_begin_66 ⟨Nat.zero_le _, Nat.zero_le _⟩ (fun u H locs hu hP hD hS => ?_)
  have hP := hP.sub (ws' := [((ad 0), .inr (4, [.ref (ad 1), .ref (ad 2), .ref (ad 3), .ref (ad 4), .ref (ad 5), .ref (ad 24), .int (eI 0), .int (eI 1000), .int (eI 1), .int (eI 0), .long (eL (-1))])), ((ad 1), .inl (cS, 5, .inr (.inr (.inr (.inr (eh_o5 (ad 6) (ad 7) (ad 8) (ad 9) (ad 10))))))), ((ad 2), aI cI 4 ln), ((ad 3), aI cZ 3 (eh_upd (eh_upd (eh_upd cb 0 0) 1 0) 2 0)), ((ad 4), .inl (cY, 3, .inr (.inr (.inr (.inr (eh_o3 (ad 21) (ad 22) (ad 23))))))), ((ad 5), aI cI 30 la), ((ad 6), .inr (2, [.ref (ad 11), .ref (ad 16)])), ((ad 7), .inr (2, [.ref (ad 12), .ref (ad 17)])), ((ad 8), .inr (2, [.ref (ad 13), .ref (ad 18)])), ((ad 9), .inr (2, [.ref (ad 14), .ref (ad 19)])), ((ad 10), .inr (2, [.ref (ad 15), .ref (ad 20)])), ((ad 11), .inr (0, [.long (eL ((cu 0 : Nat) : Int)), .long (eL ((cl 0 : Nat) : Int))])), ((ad 12), .inr (0, [.long (eL ((cu 1 : Nat) : Int)), .long (eL ((cl 1 : Nat) : Int))])), ((ad 13), .inr (0, [.long (eL ((cu 2 : Nat) : Int)), .long (eL ((cl 2 : Nat) : Int))])), ((ad 14), .inr (0, [.long (eL ((cu 3 : Nat) : Int)), .long (eL ((cl 3 : Nat) : Int))])), ((ad 15), .inr (0, [.long (eL ((cu 4 : Nat) : Int)), .long (eL ((cl 4 : Nat) : Int))])), ((ad 16), .inr (0, [.long (eL ((fu 0 : Nat) : Int)), .long (eL ((fl 0 : Nat) : Int))])), ((ad 17), .inr (0, [.long (eL ((fu 1 : Nat) : Int)), .long (eL ((fl 1 : Nat) : Int))])), ((ad 18), .inr (0, [.long (eL ((fu 2 : Nat) : Int)), .long (eL ((fl 2 : Nat) : Int))])), ((ad 19), .inr (0, [.long (eL ((fu 3 : Nat) : Int)), .long (eL ((fl 3 : Nat) : Int))])), ((ad 20), .inr (0, [.long (eL ((fu 4 : Nat) : Int)), .long (eL ((fl 4 : Nat) : Int))])), ((ad 21), .inr (3, [.int (eI (-1)), .int (eI 0), .int (eI 0)])), ((ad 22), .inr (3, [.int (eI (-1)), .int (eI 0), .int (eI 0)])), ((ad 23), .inr (3, [.int (eI (-1)), .int (eI 0), .int (eI 0)]))]) [0, 1, 2, 3, 4, 5, 6, 7, 8, 9, 10, 11, 12, 13, 14, 15, 16, 17, 18, 19, 20, 21, 22, 23] rfl
  have hD := hD.sub (ws' := [((ad 0), .inr (4, [.ref (ad 1), .ref (ad 2), .ref (ad 3), .ref (ad 4), .ref (ad 5), .ref (ad 24), .int (eI 0), .int (eI 1000), .int (eI 1), .int (eI 0), .long (eL (-1))])), ((ad 1), .inl (cS, 5, .inr (.inr (.inr (.inr (eh_o5 (ad 6) (ad 7) (ad 8) (ad 9) (ad 10))))))), ((ad 2), aI cI 4 ln), ((ad 3), aI cZ 3 (eh_upd (eh_upd (eh_upd cb 0 0) 1 0) 2 0)), ((ad 4), .inl (cY, 3, .inr (.inr (.inr (.inr (eh_o3 (ad 21) (ad 22) (ad 23))))))), ((ad 5), aI cI 30 la), ((ad 6), .inr (2, [.ref (ad 11), .ref (ad 16)])), ((ad 7), .inr (2, [.ref (ad 12), .ref (ad 17)])), ((ad 8), .inr (2, [.ref (ad 13), .ref (ad 18)])), ((ad 9), .inr (2, [.ref (ad 14), .ref (ad 19)])), ((ad 10), .inr (2, [.ref (ad 15), .ref (ad 20)])), ((ad 11), .inr (0, [.long (eL ((cu 0 : Nat) : Int)), .long (eL ((cl 0 : Nat) : Int))])), ((ad 12), .inr (0, [.long (eL ((cu 1 : Nat) : Int)), .long (eL ((cl 1 : Nat) : Int))])), ((ad 13), .inr (0, [.long (eL ((cu 2 : Nat) : Int)), .long (eL ((cl 2 : Nat) : Int))])), ((ad 14), .inr (0, [.long (eL ((cu 3 : Nat) : Int)), .long (eL ((cl 3 : Nat) : Int))])), ((ad 15), .inr (0, [.long (eL ((cu 4 : Nat) : Int)), .long (eL ((cl 4 : Nat) : Int))])), ((ad 16), .inr (0, [.long (eL ((fu 0 : Nat) : Int)), .long (eL ((fl 0 : Nat) : Int))])), ((ad 17), .inr (0, [.long (eL ((fu 1 : Nat) : Int)), .long (eL ((fl 1 : Nat) : Int))])), ((ad 18), .inr (0, [.long (eL ((fu 2 : Nat) : Int)), .long (eL ((fl 2 : Nat) : Int))])), ((ad 19), .inr (0, [.long (eL ((fu 3 : Nat) : Int)), .long (eL ((fl 3 : Nat) : Int))])), ((ad 20), .inr (0, [.long (eL ((fu 4 : Nat) : Int)), .long (eL ((fl 4 : Nat) : Int))])), ((ad 21), .inr (3, [.int (eI (-1)), .int (eI 0), .int (eI 0)])), ((ad 22), .inr (3, [.int (eI (-1)), .int (eI 0), .int (eI 0)])), ((ad 23), .inr (3, [.int (eI (-1)), .int (eI 0), .int (eI 0)]))]) [0, 1, 2, 3, 4, 5, 6, 7, 8, 9, 10, 11, 12, 13, 14, 15, 16, 17, 18, 19, 20, 21, 22, 23] (by decide) rfl
  refine lv_iinc (v := eI 3) hx hb d_E_begin_69 hl (k := 0) rfl (eI_add _ _) (by decide) rfl (fun ls hl => ?_)
  have hl : lv_has ls 2 [(1, .int (eI 3)), (0, .ref (ad 0))] := hl
  refine lv_goto (tgt := 55) hx hb d_E_begin_72 rfl ?_
  refine lv_iload_n hx hb d_E_begin_55 rfl (lv_at hl 0 rfl) ?_
  refine lv_iconst (v := eI 3) hx hb d_E_begin_56 rfl ?_
  refine we_icmp_ge (tgt := 75) hx hb (by constructor <;> omega) (by constructor <;> omega) d_E_begin_57 rfl (fun hc57 => ?_) (fun hc57 => absurd hc57 (by omega))
  refine lv_aload_n hx hb d_E_begin_75 rfl (lv_at hl 1 rfl) ?_
  refine va_get (D := D) (ci := 4) (v := .ref (ad 5)) (C := R_E) (T := T_E) (N := 11) hx hb htb in_E hown hK hP 0 rfl rfl 4 (by decide) (htb _ tb_128) (fun _ h9 => h9) rfl d_E_begin_76 ?_
  refine lv_iconst (v := eI 0) hx hb d_E_begin_79 rfl ?_
  refine eh_cMS (As := [.ref (ad 5), .int (eI 0)]) (rest := []) (wr := [((ad 0), .inr (4, [.ref (ad 1), .ref (ad 2), .ref (ad 3), .ref (ad 4), .ref (ad 5), .ref (ad 24), .int (eI 0), .int (eI 1000), .int (eI 1), .int (eI 0), .long (eL (-1))])), ((ad 1), .inl (cS, 5, .inr (.inr (.inr (.inr (eh_o5 (ad 6) (ad 7) (ad 8) (ad 9) (ad 10))))))), ((ad 2), aI cI 4 ln), ((ad 3), aI cZ 3 (eh_upd (eh_upd (eh_upd cb 0 0) 1 0) 2 0)), ((ad 4), .inl (cY, 3, .inr (.inr (.inr (.inr (eh_o3 (ad 21) (ad 22) (ad 23))))))), ((ad 6), .inr (2, [.ref (ad 11), .ref (ad 16)])), ((ad 7), .inr (2, [.ref (ad 12), .ref (ad 17)])), ((ad 8), .inr (2, [.ref (ad 13), .ref (ad 18)])), ((ad 9), .inr (2, [.ref (ad 14), .ref (ad 19)])), ((ad 10), .inr (2, [.ref (ad 15), .ref (ad 20)])), ((ad 11), .inr (0, [.long (eL ((cu 0 : Nat) : Int)), .long (eL ((cl 0 : Nat) : Int))])), ((ad 12), .inr (0, [.long (eL ((cu 1 : Nat) : Int)), .long (eL ((cl 1 : Nat) : Int))])), ((ad 13), .inr (0, [.long (eL ((cu 2 : Nat) : Int)), .long (eL ((cl 2 : Nat) : Int))])), ((ad 14), .inr (0, [.long (eL ((cu 3 : Nat) : Int)), .long (eL ((cl 3 : Nat) : Int))])), ((ad 15), .inr (0, [.long (eL ((cu 4 : Nat) : Int)), .long (eL ((cl 4 : Nat) : Int))])), ((ad 16), .inr (0, [.long (eL ((fu 0 : Nat) : Int)), .long (eL ((fl 0 : Nat) : Int))])), ((ad 17), .inr (0, [.long (eL ((fu 1 : Nat) : Int)), .long (eL ((fl 1 : Nat) : Int))])), ((ad 18), .inr (0, [.long (eL ((fu 2 : Nat) : Int)), .long (eL ((fl 2 : Nat) : Int))])), ((ad 19), .inr (0, [.long (eL ((fu 3 : Nat) : Int)), .long (eL ((fl 3 : Nat) : Int))])), ((ad 20), .inr (0, [.long (eL ((fu 4 : Nat) : Int)), .long (eL ((fl 4 : Nat) : Int))])), ((ad 21), .inr (3, [.int (eI (-1)), .int (eI 0), .int (eI 0)])), ((ad 22), .inr (3, [.int (eI (-1)), .int (eI 0), .int (eI 0)])), ((ad 23), .inr (3, [.int (eI (-1)), .int (eI 0), .int (eI 0)]))]) hx hb hml hown htb hN (m_A_fill_aIIV l D cI (ad 5) 30 (by decide) la 0) 2 ⟨tb_121, tb_122, tb_6, kin_A_fill_aIIV⟩ dv_A_fill_aIIV ⟨by rw [hR1]; decide, by rw [hR2]; decide⟩ hK hP hD hS hA [5] [0, 1, 2, 3, 4, 6, 7, 8, 9, 10, 11, 12, 13, 14, 15, 16, 17, 18, 19, 20, 21, 22, 23] rfl rfl (by decide) rfl (by decide) (by decide) [0] rfl rfl rfl hl.1 (Nat.le_of_ble_eq_true rfl) d_E_begin_80 ⟨Nat.zero_le _, Nat.zero_le _⟩ (fun u H locs hu hP hD hS => ?_)
  have hP := hP.sub (ws' := [((ad 0), .inr (4, [.ref (ad 1), .ref (ad 2), .ref (ad 3), .ref (ad 4), .ref (ad 5), .ref (ad 24), .int (eI 0), .int (eI 1000), .int (eI 1), .int (eI 0), .long (eL (-1))])), ((ad 1), .inl (cS, 5, .inr (.inr (.inr (.inr (eh_o5 (ad 6) (ad 7) (ad 8) (ad 9) (ad 10))))))), ((ad 2), aI cI 4 ln), ((ad 3), aI cZ 3 (eh_upd (eh_upd (eh_upd cb 0 0) 1 0) 2 0)), ((ad 4), .inl (cY, 3, .inr (.inr (.inr (.inr (eh_o3 (ad 21) (ad 22) (ad 23))))))), ((ad 5), aI cI 30 u), ((ad 6), .inr (2, [.ref (ad 11), .ref (ad 16)])), ((ad 7), .inr (2, [.ref (ad 12), .ref (ad 17)])), ((ad 8), .inr (2, [.ref (ad 13), .ref (ad 18)])), ((ad 9), .inr (2, [.ref (ad 14), .ref (ad 19)])), ((ad 10), .inr (2, [.ref (ad 15), .ref (ad 20)])), ((ad 11), .inr (0, [.long (eL ((cu 0 : Nat) : Int)), .long (eL ((cl 0 : Nat) : Int))])), ((ad 12), .inr (0, [.long (eL ((cu 1 : Nat) : Int)), .long (eL ((cl 1 : Nat) : Int))])), ((ad 13), .inr (0, [.long (eL ((cu 2 : Nat) : Int)), .long (eL ((cl 2 : Nat) : Int))])), ((ad 14), .inr (0, [.long (eL ((cu 3 : Nat) : Int)), .long (eL ((cl 3 : Nat) : Int))])), ((ad 15), .inr (0, [.long (eL ((cu 4 : Nat) : Int)), .long (eL ((cl 4 : Nat) : Int))])), ((ad 16), .inr (0, [.long (eL ((fu 0 : Nat) : Int)), .long (eL ((fl 0 : Nat) : Int))])), ((ad 17), .inr (0, [.long (eL ((fu 1 : Nat) : Int)), .long (eL ((fl 1 : Nat) : Int))])), ((ad 18), .inr (0, [.long (eL ((fu 2 : Nat) : Int)), .long (eL ((fl 2 : Nat) : Int))])), ((ad 19), .inr (0, [.long (eL ((fu 3 : Nat) : Int)), .long (eL ((fl 3 : Nat) : Int))])), ((ad 20), .inr (0, [.long (eL ((fu 4 : Nat) : Int)), .long (eL ((fl 4 : Nat) : Int))])), ((ad 21), .inr (3, [.int (eI (-1)), .int (eI 0), .int (eI 0)])), ((ad 22), .inr (3, [.int (eI (-1)), .int (eI 0), .int (eI 0)])), ((ad 23), .inr (3, [.int (eI (-1)), .int (eI 0), .int (eI 0)]))]) [0, 1, 2, 3, 4, 23, 5, 6, 7, 8, 9, 10, 11, 12, 13, 14, 15, 16, 17, 18, 19, 20, 21, 22] rfl
  have hD := hD.sub (ws' := [((ad 0), .inr (4, [.ref (ad 1), .ref (ad 2), .ref (ad 3), .ref (ad 4), .ref (ad 5), .ref (ad 24), .int (eI 0), .int (eI 1000), .int (eI 1), .int (eI 0), .long (eL (-1))])), ((ad 1), .inl (cS, 5, .inr (.inr (.inr (.inr (eh_o5 (ad 6) (ad 7) (ad 8) (ad 9) (ad 10))))))), ((ad 2), aI cI 4 ln), ((ad 3), aI cZ 3 (eh_upd (eh_upd (eh_upd cb 0 0) 1 0) 2 0)), ((ad 4), .inl (cY, 3, .inr (.inr (.inr (.inr (eh_o3 (ad 21) (ad 22) (ad 23))))))), ((ad 5), aI cI 30 u), ((ad 6), .inr (2, [.ref (ad 11), .ref (ad 16)])), ((ad 7), .inr (2, [.ref (ad 12), .ref (ad 17)])), ((ad 8), .inr (2, [.ref (ad 13), .ref (ad 18)])), ((ad 9), .inr (2, [.ref (ad 14), .ref (ad 19)])), ((ad 10), .inr (2, [.ref (ad 15), .ref (ad 20)])), ((ad 11), .inr (0, [.long (eL ((cu 0 : Nat) : Int)), .long (eL ((cl 0 : Nat) : Int))])), ((ad 12), .inr (0, [.long (eL ((cu 1 : Nat) : Int)), .long (eL ((cl 1 : Nat) : Int))])), ((ad 13), .inr (0, [.long (eL ((cu 2 : Nat) : Int)), .long (eL ((cl 2 : Nat) : Int))])), ((ad 14), .inr (0, [.long (eL ((cu 3 : Nat) : Int)), .long (eL ((cl 3 : Nat) : Int))])), ((ad 15), .inr (0, [.long (eL ((cu 4 : Nat) : Int)), .long (eL ((cl 4 : Nat) : Int))])), ((ad 16), .inr (0, [.long (eL ((fu 0 : Nat) : Int)), .long (eL ((fl 0 : Nat) : Int))])), ((ad 17), .inr (0, [.long (eL ((fu 1 : Nat) : Int)), .long (eL ((fl 1 : Nat) : Int))])), ((ad 18), .inr (0, [.long (eL ((fu 2 : Nat) : Int)), .long (eL ((fl 2 : Nat) : Int))])), ((ad 19), .inr (0, [.long (eL ((fu 3 : Nat) : Int)), .long (eL ((fl 3 : Nat) : Int))])), ((ad 20), .inr (0, [.long (eL ((fu 4 : Nat) : Int)), .long (eL ((fl 4 : Nat) : Int))])), ((ad 21), .inr (3, [.int (eI (-1)), .int (eI 0), .int (eI 0)])), ((ad 22), .inr (3, [.int (eI (-1)), .int (eI 0), .int (eI 0)])), ((ad 23), .inr (3, [.int (eI (-1)), .int (eI 0), .int (eI 0)]))]) [0, 1, 2, 3, 4, 23, 5, 6, 7, 8, 9, 10, 11, 12, 13, 14, 15, 16, 17, 18, 19, 20, 21, 22] (by decide) rfl
  subst hQ
  exact W.vret hx hb hrt (fun t9 ht hW => ⟨⟨((eh_upd (eh_upd (eh_upd cb 0 0) 1 0) 2 0), u), rfl, ⟨fun k hk => by rcases (show k = 0 ∨ k = 1 ∨ k = 2 by omega) with rfl | rfl | rfl <;> rfl, hu⟩, by rw [ht]; exact hP, hD⟩, hS.F ht⟩) hS.2.2 d_E_begin_83
abbrev c_E_clear : ByteArray := prog_1_method_2_code
def y_E_clear : MethodName := ⟨"EarthHauls", "clear", "()V"⟩
abbrev k_E_clear : Cond := .code y_E_clear c_E_clear 1 none
theorem kin_E_clear : k_E_clear ∈ ew_t := tb_161
theorem dv_E_clear : eh_dV y_E_clear "EarthHauls" 0 := ⟨rfl, by decide, by decide, by decide +kernel⟩
theorem d_E_clear_0 : decode c_E_clear 0 = .ok (.aload_n 0, 1) := by decide +kernel
theorem d_E_clear_1 : decode c_E_clear 1 = .ok (.invokevirtual 41, 3) := by decide +kernel
theorem d_E_clear_4 : decode c_E_clear 4 = .ok (.return_, 1) := by decide +kernel
set_option maxHeartbeats 1000000 in
set_option maxRecDepth 100000 in
theorem m_E_clear (l : Launch) (D : va_G) (cI cL cZ cS cY : ClassId) (ad : Nat → Nat) (n : Nat) (sh ra plv pco : Int) (ln cb la : Nat → Int) (cu cl fu fl : Nat → Nat) (ys yl yp : Nat → Int) : eh_M (S := (Nat → Int) × (Nat → Int)) l y_E_clear k_E_clear 3 64 D classes [(cI, .int), (cL, .long), (cZ, .boolean), (cS, .object "EarthHauls$Section"), (cY, .object "EarthHauls$Yard")] [.ref (ad 0)] [((ad 0), .inr (4, [.ref (ad 1), .ref (ad 2), .ref (ad 3), .ref (ad 4), .ref (ad 5), .ref (ad 24), .int (eI ((n : Nat) : Int)), .int (eI sh), .int (eI ra), .int (eI plv), .long (eL pco)])), ((ad 1), .inl (cS, 5, .inr (.inr (.inr (.inr (eh_o5 (ad 6) (ad 7) (ad 8) (ad 9) (ad 10))))))), ((ad 2), aI cI 4 ln), ((ad 3), aI cZ 3 cb), ((ad 4), .inl (cY, 3, .inr (.inr (.inr (.inr (eh_o3 (ad 21) (ad 22) (ad 23))))))), ((ad 5), aI cI 30 la), ((ad 6), .inr (2, [.ref (ad 11), .ref (ad 16)])), ((ad 7), .inr (2, [.ref (ad 12), .ref (ad 17)])), ((ad 8), .inr (2, [.ref (ad 13), .ref (ad 18)])), ((ad 9), .inr (2, [.ref (ad 14), .ref (ad 19)])), ((ad 10), .inr (2, [.ref (ad 15), .ref (ad 20)])), ((ad 11), .inr (0, [.long (eL ((cu 0 : Nat) : Int)), .long (eL ((cl 0 : Nat) : Int))])), ((ad 12), .inr (0, [.long (eL ((cu 1 : Nat) : Int)), .long (eL ((cl 1 : Nat) : Int))])), ((ad 13), .inr (0, [.long (eL ((cu 2 : Nat) : Int)), .long (eL ((cl 2 : Nat) : Int))])), ((ad 14), .inr (0, [.long (eL ((cu 3 : Nat) : Int)), .long (eL ((cl 3 : Nat) : Int))])), ((ad 15), .inr (0, [.long (eL ((cu 4 : Nat) : Int)), .long (eL ((cl 4 : Nat) : Int))])), ((ad 16), .inr (0, [.long (eL ((fu 0 : Nat) : Int)), .long (eL ((fl 0 : Nat) : Int))])), ((ad 17), .inr (0, [.long (eL ((fu 1 : Nat) : Int)), .long (eL ((fl 1 : Nat) : Int))])), ((ad 18), .inr (0, [.long (eL ((fu 2 : Nat) : Int)), .long (eL ((fl 2 : Nat) : Int))])), ((ad 19), .inr (0, [.long (eL ((fu 3 : Nat) : Int)), .long (eL ((fl 3 : Nat) : Int))])), ((ad 20), .inr (0, [.long (eL ((fu 4 : Nat) : Int)), .long (eL ((fl 4 : Nat) : Int))])), ((ad 21), .inr (3, [.int (eI (ys 0)), .int (eI (yl 0)), .int (eI (yp 0))])), ((ad 22), .inr (3, [.int (eI (ys 1)), .int (eI (yl 1)), .int (eI (yp 1))])), ((ad 23), .inr (3, [.int (eI (ys 2)), .int (eI (yl 2)), .int (eI (yp 2))]))] (fun q : (Nat → Int) × (Nat → Int) => (∀ k, k < 3 → q.1 k = 0) ∧ ∀ k, k < 30 → q.2 k = 0) (fun _ => none) (fun q => [((ad 0), .inr (4, [.ref (ad 1), .ref (ad 2), .ref (ad 3), .ref (ad 4), .ref (ad 5), .ref (ad 24), .int (eI ((0 : Nat) : Int)), .int (eI 1000), .int (eI 1), .int (eI 0), .long (eL (-1))])), ((ad 1), .inl (cS, 5, .inr (.inr (.inr (.inr (eh_o5 (ad 6) (ad 7) (ad 8) (ad 9) (ad 10))))))), ((ad 2), aI cI 4 ln), ((ad 3), aI cZ 3 q.1), ((ad 4), .inl (cY, 3, .inr (.inr (.inr (.inr (eh_o3 (ad 21) (ad 22) (ad 23))))))), ((ad 5), aI cI 30 q.2), ((ad 6), .inr (2, [.ref (ad 11), .ref (ad 16)])), ((ad 7), .inr (2, [.ref (ad 12), .ref (ad 17)])), ((ad 8), .inr (2, [.ref (ad 13), .ref (ad 18)])), ((ad 9), .inr (2, [.ref (ad 14), .ref (ad 19)])), ((ad 10), .inr (2, [.ref (ad 15), .ref (ad 20)])), ((ad 11), .inr (0, [.long (eL ((cu 0 : Nat) : Int)), .long (eL ((cl 0 : Nat) : Int))])), ((ad 12), .inr (0, [.long (eL ((cu 1 : Nat) : Int)), .long (eL ((cl 1 : Nat) : Int))])), ((ad 13), .inr (0, [.long (eL ((cu 2 : Nat) : Int)), .long (eL ((cl 2 : Nat) : Int))])), ((ad 14), .inr (0, [.long (eL ((cu 3 : Nat) : Int)), .long (eL ((cl 3 : Nat) : Int))])), ((ad 15), .inr (0, [.long (eL ((cu 4 : Nat) : Int)), .long (eL ((cl 4 : Nat) : Int))])), ((ad 16), .inr (0, [.long (eL ((fu 0 : Nat) : Int)), .long (eL ((fl 0 : Nat) : Int))])), ((ad 17), .inr (0, [.long (eL ((fu 1 : Nat) : Int)), .long (eL ((fl 1 : Nat) : Int))])), ((ad 18), .inr (0, [.long (eL ((fu 2 : Nat) : Int)), .long (eL ((fl 2 : Nat) : Int))])), ((ad 19), .inr (0, [.long (eL ((fu 3 : Nat) : Int)), .long (eL ((fl 3 : Nat) : Int))])), ((ad 20), .inr (0, [.long (eL ((fu 4 : Nat) : Int)), .long (eL ((fl 4 : Nat) : Int))])), ((ad 21), .inr (3, [.int (eI (-1)), .int (eI 0), .int (eI 0)])), ((ad 22), .inr (3, [.int (eI (-1)), .int (eI 0), .int (eI 0)])), ((ad 23), .inr (3, [.int (eI (-1)), .int (eI 0), .int (eI 0)]))]) := by
  intro sz
  refine Met.ofW (cc := c_E_clear) (maxL := 1) (ret := none) (by decide) rfl ?_
  intro p e s m args below meth c s₁ B hml hv
  obtain ⟨hargs, hsz, hP, hK, hD0, hN⟩ := hv
  have hx := B.exec
  have hb := B.bytes
  have hrt := B.returns
  have hts := atoms_spec (ws := k_E_clear :: ew_t) B.pre
  have htb : ∀ w ∈ ew_t, w.before args s = true := fun w h => hts w (List.mem_cons_of_mem _ h)
  have hown : s.vm.findClass "EarthHauls" = some m.cls := findClass_of_methodNamed B.named
  have hlocks := B.notSynchronized
  have hE : entryFrame m args 1 = entryFrame m ([.ref (ad 0)] : List Value).toArray 1 := by rw [hargs]
  rw [hE]
  clear hE hts B hargs
  generalize hRe : (headSpec _ _).room = R
  have hR1 : R.frames = 3 := by rw [← hRe]; rfl
  have hR2 : R.locals = 64 := by rw [← hRe]; rfl
  clear hRe
  generalize hQ : MQ below _ _ s 0 0 _ = Q
  subst hsz
  have hD := hD0.self (sz := s.heap.size)
  generalize hAe : va_A [((ad 0), .inr (4, [.ref (ad 1), .ref (ad 2), .ref (ad 3), .ref (ad 4), .ref (ad 5), .ref (ad 24), .int (eI ((n : Nat) : Int)), .int (eI sh), .int (eI ra), .int (eI plv), .long (eL pco)])), ((ad 1), .inl (cS, 5, .inr (.inr (.inr (.inr (eh_o5 (ad 6) (ad 7) (ad 8) (ad 9) (ad 10))))))), ((ad 2), aI cI 4 ln), ((ad 3), aI cZ 3 cb), ((ad 4), .inl (cY, 3, .inr (.inr (.inr (.inr (eh_o3 (ad 21) (ad 22) (ad 23))))))), ((ad 5), aI cI 30 la), ((ad 6), .inr (2, [.ref (ad 11), .ref (ad 16)])), ((ad 7), .inr (2, [.ref (ad 12), .ref (ad 17)])), ((ad 8), .inr (2, [.ref (ad 13), .ref (ad 18)])), ((ad 9), .inr (2, [.ref (ad 14), .ref (ad 19)])), ((ad 10), .inr (2, [.ref (ad 15), .ref (ad 20)])), ((ad 11), .inr (0, [.long (eL ((cu 0 : Nat) : Int)), .long (eL ((cl 0 : Nat) : Int))])), ((ad 12), .inr (0, [.long (eL ((cu 1 : Nat) : Int)), .long (eL ((cl 1 : Nat) : Int))])), ((ad 13), .inr (0, [.long (eL ((cu 2 : Nat) : Int)), .long (eL ((cl 2 : Nat) : Int))])), ((ad 14), .inr (0, [.long (eL ((cu 3 : Nat) : Int)), .long (eL ((cl 3 : Nat) : Int))])), ((ad 15), .inr (0, [.long (eL ((cu 4 : Nat) : Int)), .long (eL ((cl 4 : Nat) : Int))])), ((ad 16), .inr (0, [.long (eL ((fu 0 : Nat) : Int)), .long (eL ((fl 0 : Nat) : Int))])), ((ad 17), .inr (0, [.long (eL ((fu 1 : Nat) : Int)), .long (eL ((fl 1 : Nat) : Int))])), ((ad 18), .inr (0, [.long (eL ((fu 2 : Nat) : Int)), .long (eL ((fl 2 : Nat) : Int))])), ((ad 19), .inr (0, [.long (eL ((fu 3 : Nat) : Int)), .long (eL ((fl 3 : Nat) : Int))])), ((ad 20), .inr (0, [.long (eL ((fu 4 : Nat) : Int)), .long (eL ((fl 4 : Nat) : Int))])), ((ad 21), .inr (3, [.int (eI (ys 0)), .int (eI (yl 0)), .int (eI (yp 0))])), ((ad 22), .inr (3, [.int (eI (ys 1)), .int (eI (yl 1)), .int (eI (yp 1))])), ((ad 23), .inr (3, [.int (eI (ys 2)), .int (eI (yl 2)), .int (eI (yp 2))]))] s.heap.size = A at hD hQ
  have hA : ∀ q : Nat, s.heap.size ≤ q → A q := fun q h => by rw [← hAe]; exact Or.inr h
  have hS : va_S A s.heap s.heap [] := va_S.rf
  have hP : va_P D classes [((ad 0), .inr (4, [.ref (ad 1), .ref (ad 2), .ref (ad 3), .ref (ad 4), .ref (ad 5), .ref (ad 24), .int (eI ((n : Nat) : Int)), .int (eI sh), .int (eI ra), .int (eI plv), .long (eL pco)])), ((ad 1), .inl (cS, 5, .inr (.inr (.inr (.inr (eh_o5 (ad 6) (ad 7) (ad 8) (ad 9) (ad 10))))))), ((ad 2), aI cI 4 ln), ((ad 3), aI cZ 3 cb), ((ad 4), .inl (cY, 3, .inr (.inr (.inr (.inr (eh_o3 (ad 21) (ad 22) (ad 23))))))), ((ad 5), aI cI 30 la), ((ad 6), .inr (2, [.ref (ad 11), .ref (ad 16)])), ((ad 7), .inr (2, [.ref (ad 12), .ref (ad 17)])), ((ad 8), .inr (2, [.ref (ad 13), .ref (ad 18)])), ((ad 9), .inr (2, [.ref (ad 14), .ref (ad 19)])), ((ad 10), .inr (2, [.ref (ad 15), .ref (ad 20)])), ((ad 11), .inr (0, [.long (eL ((cu 0 : Nat) : Int)), .long (eL ((cl 0 : Nat) : Int))])), ((ad 12), .inr (0, [.long (eL ((cu 1 : Nat) : Int)), .long (eL ((cl 1 : Nat) : Int))])), ((ad 13), .inr (0, [.long (eL ((cu 2 : Nat) : Int)), .long (eL ((cl 2 : Nat) : Int))])), ((ad 14), .inr (0, [.long (eL ((cu 3 : Nat) : Int)), .long (eL ((cl 3 : Nat) : Int))])), ((ad 15), .inr (0, [.long (eL ((cu 4 : Nat) : Int)), .long (eL ((cl 4 : Nat) : Int))])), ((ad 16), .inr (0, [.long (eL ((fu 0 : Nat) : Int)), .long (eL ((fl 0 : Nat) : Int))])), ((ad 17), .inr (0, [.long (eL ((fu 1 : Nat) : Int)), .long (eL ((fl 1 : Nat) : Int))])), ((ad 18), .inr (0, [.long (eL ((fu 2 : Nat) : Int)), .long (eL ((fl 2 : Nat) : Int))])), ((ad 19), .inr (0, [.long (eL ((fu 3 : Nat) : Int)), .long (eL ((fl 3 : Nat) : Int))])), ((ad 20), .inr (0, [.long (eL ((fu 4 : Nat) : Int)), .long (eL ((fl 4 : Nat) : Int))])), ((ad 21), .inr (3, [.int (eI (ys 0)), .int (eI (yl 0)), .int (eI (yp 0))])), ((ad 22), .inr (3, [.int (eI (ys 1)), .int (eI (yl 1)), .int (eI (yp 1))])), ((ad 23), .inr (3, [.int (eI (ys 2)), .int (eI (yl 2)), .int (eI (yp 2))]))] s.heap := hP
  have hl := lv_entry ([.ref (ad 0)]) (n := 1) (Nat.le_of_ble_eq_true rfl)
  rw [lg_entry_eq]
  generalize (lg_sl ([.ref (ad 0)]) ++ List.replicate (1 - (lg_sl ([.ref (ad 0)])).length) Slot.unset).toArray = ls at hl ⊢
  have hl : lv_has ls 1 [(0, .ref (ad 0))] := hl
  refine lv_aload_n hx hb d_E_clear_0 rfl (lv_at hl 0 rfl) ?_
  refine eh_cMV (As := []) (rest := []) (q := (R_E, T_E, 11)) (wr := []) hx hb hml hown htb hN (m_E_begin l D cI cL cZ cS cY ad n sh ra plv pco ln cb la cu cl fu fl ys yl yp) 0 ⟨tb_108, tb_110, ts_0, tb_1, kin_E_begin⟩ dv_E_begin ⟨by rw [hR1]; decide, by rw [hR2]; decide⟩ hK hP hD hS hA 0 rfl rfl [0, 1, 2, 3, 4, 5, 6, 7, 8, 9, 10, 11, 12, 13, 14, 15, 16, 17, 18, 19, 20, 21, 22, 23] [] rfl rfl (by decide) rfl (by decide) (by decide) [0, 1, 2, 3, 4] rfl rfl rfl hl.1 (Nat.le_of_ble_eq_true rfl) d_E_clear_1 ⟨Nat.zero_le _, Nat.zero_le _⟩ (fun u H locs hu hP hD hS => ?_)
  have hP := hP.sub (ws' := [((ad 0), .inr (4, [.ref (ad 1), .ref (ad 2), .ref (ad 3), .ref (ad 4), .ref (ad 5), .ref (ad 24), .int (eI ((0 : Nat) : Int)), .int (eI 1000), .int (eI 1), .int (eI 0), .long (eL (-1))])), ((ad 1), .inl (cS, 5, .inr (.inr (.inr (.inr (eh_o5 (ad 6) (ad 7) (ad 8) (ad 9) (ad 10))))))), ((ad 2), aI cI 4 ln), ((ad 3), aI cZ 3 u.1), ((ad 4), .inl (cY, 3, .inr (.inr (.inr (.inr (eh_o3 (ad 21) (ad 22) (ad 23))))))), ((ad 5), aI cI 30 u.2), ((ad 6), .inr (2, [.ref (ad 11), .ref (ad 16)])), ((ad 7), .inr (2, [.ref (ad 12), .ref (ad 17)])), ((ad 8), .inr (2, [.ref (ad 13), .ref (ad 18)])), ((ad 9), .inr (2, [.ref (ad 14), .ref (ad 19)])), ((ad 10), .inr (2, [.ref (ad 15), .ref (ad 20)])), ((ad 11), .inr (0, [.long (eL ((cu 0 : Nat) : Int)), .long (eL ((cl 0 : Nat) : Int))])), ((ad 12), .inr (0, [.long (eL ((cu 1 : Nat) : Int)), .long (eL ((cl 1 : Nat) : Int))])), ((ad 13), .inr (0, [.long (eL ((cu 2 : Nat) : Int)), .long (eL ((cl 2 : Nat) : Int))])), ((ad 14), .inr (0, [.long (eL ((cu 3 : Nat) : Int)), .long (eL ((cl 3 : Nat) : Int))])), ((ad 15), .inr (0, [.long (eL ((cu 4 : Nat) : Int)), .long (eL ((cl 4 : Nat) : Int))])), ((ad 16), .inr (0, [.long (eL ((fu 0 : Nat) : Int)), .long (eL ((fl 0 : Nat) : Int))])), ((ad 17), .inr (0, [.long (eL ((fu 1 : Nat) : Int)), .long (eL ((fl 1 : Nat) : Int))])), ((ad 18), .inr (0, [.long (eL ((fu 2 : Nat) : Int)), .long (eL ((fl 2 : Nat) : Int))])), ((ad 19), .inr (0, [.long (eL ((fu 3 : Nat) : Int)), .long (eL ((fl 3 : Nat) : Int))])), ((ad 20), .inr (0, [.long (eL ((fu 4 : Nat) : Int)), .long (eL ((fl 4 : Nat) : Int))])), ((ad 21), .inr (3, [.int (eI (-1)), .int (eI 0), .int (eI 0)])), ((ad 22), .inr (3, [.int (eI (-1)), .int (eI 0), .int (eI 0)])), ((ad 23), .inr (3, [.int (eI (-1)), .int (eI 0), .int (eI 0)]))]) [0, 1, 2, 3, 4, 5, 6, 7, 8, 9, 10, 11, 12, 13, 14, 15, 16, 17, 18, 19, 20, 21, 22, 23] rfl
  have hD := hD.sub (ws' := [((ad 0), .inr (4, [.ref (ad 1), .ref (ad 2), .ref (ad 3), .ref (ad 4), .ref (ad 5), .ref (ad 24), .int (eI ((0 : Nat) : Int)), .int (eI 1000), .int (eI 1), .int (eI 0), .long (eL (-1))])), ((ad 1), .inl (cS, 5, .inr (.inr (.inr (.inr (eh_o5 (ad 6) (ad 7) (ad 8) (ad 9) (ad 10))))))), ((ad 2), aI cI 4 ln), ((ad 3), aI cZ 3 u.1), ((ad 4), .inl (cY, 3, .inr (.inr (.inr (.inr (eh_o3 (ad 21) (ad 22) (ad 23))))))), ((ad 5), aI cI 30 u.2), ((ad 6), .inr (2, [.ref (ad 11), .ref (ad 16)])), ((ad 7), .inr (2, [.ref (ad 12), .ref (ad 17)])), ((ad 8), .inr (2, [.ref (ad 13), .ref (ad 18)])), ((ad 9), .inr (2, [.ref (ad 14), .ref (ad 19)])), ((ad 10), .inr (2, [.ref (ad 15), .ref (ad 20)])), ((ad 11), .inr (0, [.long (eL ((cu 0 : Nat) : Int)), .long (eL ((cl 0 : Nat) : Int))])), ((ad 12), .inr (0, [.long (eL ((cu 1 : Nat) : Int)), .long (eL ((cl 1 : Nat) : Int))])), ((ad 13), .inr (0, [.long (eL ((cu 2 : Nat) : Int)), .long (eL ((cl 2 : Nat) : Int))])), ((ad 14), .inr (0, [.long (eL ((cu 3 : Nat) : Int)), .long (eL ((cl 3 : Nat) : Int))])), ((ad 15), .inr (0, [.long (eL ((cu 4 : Nat) : Int)), .long (eL ((cl 4 : Nat) : Int))])), ((ad 16), .inr (0, [.long (eL ((fu 0 : Nat) : Int)), .long (eL ((fl 0 : Nat) : Int))])), ((ad 17), .inr (0, [.long (eL ((fu 1 : Nat) : Int)), .long (eL ((fl 1 : Nat) : Int))])), ((ad 18), .inr (0, [.long (eL ((fu 2 : Nat) : Int)), .long (eL ((fl 2 : Nat) : Int))])), ((ad 19), .inr (0, [.long (eL ((fu 3 : Nat) : Int)), .long (eL ((fl 3 : Nat) : Int))])), ((ad 20), .inr (0, [.long (eL ((fu 4 : Nat) : Int)), .long (eL ((fl 4 : Nat) : Int))])), ((ad 21), .inr (3, [.int (eI (-1)), .int (eI 0), .int (eI 0)])), ((ad 22), .inr (3, [.int (eI (-1)), .int (eI 0), .int (eI 0)])), ((ad 23), .inr (3, [.int (eI (-1)), .int (eI 0), .int (eI 0)]))]) [0, 1, 2, 3, 4, 5, 6, 7, 8, 9, 10, 11, 12, 13, 14, 15, 16, 17, 18, 19, 20, 21, 22, 23] (by decide) rfl
  subst hQ
  exact W.vret hx hb hrt (fun t9 ht hW => ⟨⟨u, rfl, hu, by rw [ht]; exact hP, hD⟩, hS.F ht⟩) hS.2.2 d_E_clear_4
abbrev c_E_solve : ByteArray := prog_1_method_12_code
def y_E_solve : MethodName := ⟨"EarthHauls", "solve", "()J"⟩
abbrev k_E_solve : Cond := .code y_E_solve c_E_solve 1 (some .long)
theorem kin_E_solve : k_E_solve ∈ ew_t := tb_187
theorem dv_E_solve : eh_dV y_E_solve "EarthHauls" 0 := ⟨rfl, by decide, by decide, by decide +kernel⟩
theorem d_E_solve_0 : decode c_E_solve 0 = .ok (.aload_n 0, 1) := by decide +kernel
theorem d_E_solve_1 : decode c_E_solve 1 = .ok (.invokevirtual 132, 3) := by decide +kernel
theorem d_E_solve_4 : decode c_E_solve 4 = .ok (.aload_n 0, 1) := by decide +kernel
theorem d_E_solve_5 : decode c_E_solve 5 = .ok (.getfield 135, 3) := by decide +kernel
theorem d_E_solve_8 : decode c_E_solve 8 = .ok (.lreturn, 1) := by decide +kernel
set_option maxHeartbeats 1000000 in
set_option maxRecDepth 100000 in
theorem m_E_solve (l : Launch) (D : va_G) (cI cL cZ cS cY : ClassId) (ad : Nat → Nat) (n : Nat) (sh ra plv pco : Int) (ln cb la : Nat → Int) (cu cl fu fl : Nat → Nat) (ys yl yp : Nat → Int) (ed0 : Int) (gT0 gH0 gR0 gW0 gA0 gD0 gE0 : Nat → Int) (hE : eh_ES n sh ra ln cb la cu cl fu fl ys yl yp) (hpv : plv = 0 ∨ (plv = 1 ∧ ∃ (K : Nat) (na nb : Nat → Nat) (nw nc nx : Nat → Int), ed0 = ((2 * K : Nat) : Int) ∧ eh_PS (eh_kc n ra ln cb ys yp) (eh_gv n sh ln cu cl yl) (eh_wn n ln fu fl yl) K na nb nw nc nx gT0 gH0 gR0 gW0 gA0 pco)) : eh_M (S := Int × Int × (Nat → Int) × (Nat → Int) × (Nat → Int) × (Nat → Int) × (Nat → Int) × (Nat → Int) × (Nat → Int)) l y_E_solve k_E_solve 5 130 D classes [(cI, .int), (cL, .long), (cZ, .boolean), (cS, .object "EarthHauls$Section"), (cY, .object "EarthHauls$Yard")] [.ref (ad 0)] [((ad 0), .inr (4, [.ref (ad 1), .ref (ad 2), .ref (ad 3), .ref (ad 4), .ref (ad 5), .ref (ad 24), .int (eI ((n : Nat) : Int)), .int (eI sh), .int (eI ra), .int (eI plv), .long (eL pco)])), ((ad 1), .inl (cS, 5, .inr (.inr (.inr (.inr (eh_o5 (ad 6) (ad 7) (ad 8) (ad 9) (ad 10))))))), ((ad 2), aI cI 4 ln), ((ad 3), aI cZ 3 cb), ((ad 4), .inl (cY, 3, .inr (.inr (.inr (.inr (eh_o3 (ad 21) (ad 22) (ad 23))))))), ((ad 5), aI cI 30 la), ((ad 6), .inr (2, [.ref (ad 11), .ref (ad 16)])), ((ad 7), .inr (2, [.ref (ad 12), .ref (ad 17)])), ((ad 8), .inr (2, [.ref (ad 13), .ref (ad 18)])), ((ad 9), .inr (2, [.ref (ad 14), .ref (ad 19)])), ((ad 10), .inr (2, [.ref (ad 15), .ref (ad 20)])), ((ad 11), .inr (0, [.long (eL ((cu 0 : Nat) : Int)), .long (eL ((cl 0 : Nat) : Int))])), ((ad 12), .inr (0, [.long (eL ((cu 1 : Nat) : Int)), .long (eL ((cl 1 : Nat) : Int))])), ((ad 13), .inr (0, [.long (eL ((cu 2 : Nat) : Int)), .long (eL ((cl 2 : Nat) : Int))])), ((ad 14), .inr (0, [.long (eL ((cu 3 : Nat) : Int)), .long (eL ((cl 3 : Nat) : Int))])), ((ad 15), .inr (0, [.long (eL ((cu 4 : Nat) : Int)), .long (eL ((cl 4 : Nat) : Int))])), ((ad 16), .inr (0, [.long (eL ((fu 0 : Nat) : Int)), .long (eL ((fl 0 : Nat) : Int))])), ((ad 17), .inr (0, [.long (eL ((fu 1 : Nat) : Int)), .long (eL ((fl 1 : Nat) : Int))])), ((ad 18), .inr (0, [.long (eL ((fu 2 : Nat) : Int)), .long (eL ((fl 2 : Nat) : Int))])), ((ad 19), .inr (0, [.long (eL ((fu 3 : Nat) : Int)), .long (eL ((fl 3 : Nat) : Int))])), ((ad 20), .inr (0, [.long (eL ((fu 4 : Nat) : Int)), .long (eL ((fl 4 : Nat) : Int))])), ((ad 21), .inr (3, [.int (eI (ys 0)), .int (eI (yl 0)), .int (eI (yp 0))])), ((ad 22), .inr (3, [.int (eI (ys 1)), .int (eI (yl 1)), .int (eI (yp 1))])), ((ad 23), .inr (3, [.int (eI (ys 2)), .int (eI (yl 2)), .int (eI (yp 2))])), ((ad 24), .inr (1, [.ref (ad 25), .ref (ad 26), .ref (ad 27), .ref (ad 28), .ref (ad 29), .ref (ad 30), .ref (ad 31), .int (eI ed0)])), ((ad 25), aI cI 82 gT0), ((ad 26), aI cI 82 gH0), ((ad 27), aI cI 82 gR0), ((ad 28), aL cL 82 gW0), ((ad 29), aI cI 30 gA0), ((ad 30), aL cL 12 gD0), ((ad 31), aI cI 12 gE0)] (fun u => ∃ (K : Nat) (na nb : Nat → Nat) (nw nc nx : Nat → Int), u.2.1 = ((2 * K : Nat) : Int) ∧ eh_PS (eh_kc n ra ln cb ys yp) (eh_gv n sh ln cu cl yl) (eh_wn n ln fu fl yl) K na nb nw nc nx u.2.2.1 u.2.2.2.1 u.2.2.2.2.1 u.2.2.2.2.2.1 u.2.2.2.2.2.2.1 u.1) (fun u => some (.long (eL u.1))) (fun u => [((ad 0), .inr (4, [.ref (ad 1), .ref (ad 2), .ref (ad 3), .ref (ad 4), .ref (ad 5), .ref (ad 24), .int (eI ((n : Nat) : Int)), .int (eI sh), .int (eI ra), .int (eI 1), .long (eL u.1)])), ((ad 1), .inl (cS, 5, .inr (.inr (.inr (.inr (eh_o5 (ad 6) (ad 7) (ad 8) (ad 9) (ad 10))))))), ((ad 2), aI cI 4 ln), ((ad 3), aI cZ 3 cb), ((ad 4), .inl (cY, 3, .inr (.inr (.inr (.inr (eh_o3 (ad 21) (ad 22) (ad 23))))))), ((ad 5), aI cI 30 la), ((ad 6), .inr (2, [.ref (ad 11), .ref (ad 16)])), ((ad 7), .inr (2, [.ref (ad 12), .ref (ad 17)])), ((ad 8), .inr (2, [.ref (ad 13), .ref (ad 18)])), ((ad 9), .inr (2, [.ref (ad 14), .ref (ad 19)])), ((ad 10), .inr (2, [.ref (ad 15), .ref (ad 20)])), ((ad 11), .inr (0, [.long (eL ((cu 0 : Nat) : Int)), .long (eL ((cl 0 : Nat) : Int))])), ((ad 12), .inr (0, [.long (eL ((cu 1 : Nat) : Int)), .long (eL ((cl 1 : Nat) : Int))])), ((ad 13), .inr (0, [.long (eL ((cu 2 : Nat) : Int)), .long (eL ((cl 2 : Nat) : Int))])), ((ad 14), .inr (0, [.long (eL ((cu 3 : Nat) : Int)), .long (eL ((cl 3 : Nat) : Int))])), ((ad 15), .inr (0, [.long (eL ((cu 4 : Nat) : Int)), .long (eL ((cl 4 : Nat) : Int))])), ((ad 16), .inr (0, [.long (eL ((fu 0 : Nat) : Int)), .long (eL ((fl 0 : Nat) : Int))])), ((ad 17), .inr (0, [.long (eL ((fu 1 : Nat) : Int)), .long (eL ((fl 1 : Nat) : Int))])), ((ad 18), .inr (0, [.long (eL ((fu 2 : Nat) : Int)), .long (eL ((fl 2 : Nat) : Int))])), ((ad 19), .inr (0, [.long (eL ((fu 3 : Nat) : Int)), .long (eL ((fl 3 : Nat) : Int))])), ((ad 20), .inr (0, [.long (eL ((fu 4 : Nat) : Int)), .long (eL ((fl 4 : Nat) : Int))])), ((ad 21), .inr (3, [.int (eI (ys 0)), .int (eI (yl 0)), .int (eI (yp 0))])), ((ad 22), .inr (3, [.int (eI (ys 1)), .int (eI (yl 1)), .int (eI (yp 1))])), ((ad 23), .inr (3, [.int (eI (ys 2)), .int (eI (yl 2)), .int (eI (yp 2))])), ((ad 24), .inr (1, [.ref (ad 25), .ref (ad 26), .ref (ad 27), .ref (ad 28), .ref (ad 29), .ref (ad 30), .ref (ad 31), .int (eI u.2.1)])), ((ad 25), aI cI 82 u.2.2.1), ((ad 26), aI cI 82 u.2.2.2.1), ((ad 27), aI cI 82 u.2.2.2.2.1), ((ad 28), aL cL 82 u.2.2.2.2.2.1), ((ad 29), aI cI 30 u.2.2.2.2.2.2.1), ((ad 30), aL cL 12 u.2.2.2.2.2.2.2.1), ((ad 31), aI cI 12 u.2.2.2.2.2.2.2.2)]) := by
  intro sz
  refine Met.ofW (cc := c_E_solve) (maxL := 1) (ret := (some .long)) (by decide) rfl ?_
  intro p e s m args below meth c s₁ B hml hv
  obtain ⟨hargs, hsz, hP, hK, hD0, hN⟩ := hv
  have hx := B.exec
  have hb := B.bytes
  have hrt := B.returns
  have hts := atoms_spec (ws := k_E_solve :: ew_t) B.pre
  have htb : ∀ w ∈ ew_t, w.before args s = true := fun w h => hts w (List.mem_cons_of_mem _ h)
  have hown : s.vm.findClass "EarthHauls" = some m.cls := findClass_of_methodNamed B.named
  have hlocks := B.notSynchronized
  have hE : entryFrame m args 1 = entryFrame m ([.ref (ad 0)] : List Value).toArray 1 := by rw [hargs]
  rw [hE]
  clear hE hts B hargs
  generalize hRe : (headSpec _ _).room = R
  have hR1 : R.frames = 5 := by rw [← hRe]; rfl
  have hR2 : R.locals = 130 := by rw [← hRe]; rfl
  clear hRe
  generalize hQ : MQ below _ _ s 0 0 _ = Q
  subst hsz
  have hD := hD0.self (sz := s.heap.size)
  generalize hAe : va_A [((ad 0), .inr (4, [.ref (ad 1), .ref (ad 2), .ref (ad 3), .ref (ad 4), .ref (ad 5), .ref (ad 24), .int (eI ((n : Nat) : Int)), .int (eI sh), .int (eI ra), .int (eI plv), .long (eL pco)])), ((ad 1), .inl (cS, 5, .inr (.inr (.inr (.inr (eh_o5 (ad 6) (ad 7) (ad 8) (ad 9) (ad 10))))))), ((ad 2), aI cI 4 ln), ((ad 3), aI cZ 3 cb), ((ad 4), .inl (cY, 3, .inr (.inr (.inr (.inr (eh_o3 (ad 21) (ad 22) (ad 23))))))), ((ad 5), aI cI 30 la), ((ad 6), .inr (2, [.ref (ad 11), .ref (ad 16)])), ((ad 7), .inr (2, [.ref (ad 12), .ref (ad 17)])), ((ad 8), .inr (2, [.ref (ad 13), .ref (ad 18)])), ((ad 9), .inr (2, [.ref (ad 14), .ref (ad 19)])), ((ad 10), .inr (2, [.ref (ad 15), .ref (ad 20)])), ((ad 11), .inr (0, [.long (eL ((cu 0 : Nat) : Int)), .long (eL ((cl 0 : Nat) : Int))])), ((ad 12), .inr (0, [.long (eL ((cu 1 : Nat) : Int)), .long (eL ((cl 1 : Nat) : Int))])), ((ad 13), .inr (0, [.long (eL ((cu 2 : Nat) : Int)), .long (eL ((cl 2 : Nat) : Int))])), ((ad 14), .inr (0, [.long (eL ((cu 3 : Nat) : Int)), .long (eL ((cl 3 : Nat) : Int))])), ((ad 15), .inr (0, [.long (eL ((cu 4 : Nat) : Int)), .long (eL ((cl 4 : Nat) : Int))])), ((ad 16), .inr (0, [.long (eL ((fu 0 : Nat) : Int)), .long (eL ((fl 0 : Nat) : Int))])), ((ad 17), .inr (0, [.long (eL ((fu 1 : Nat) : Int)), .long (eL ((fl 1 : Nat) : Int))])), ((ad 18), .inr (0, [.long (eL ((fu 2 : Nat) : Int)), .long (eL ((fl 2 : Nat) : Int))])), ((ad 19), .inr (0, [.long (eL ((fu 3 : Nat) : Int)), .long (eL ((fl 3 : Nat) : Int))])), ((ad 20), .inr (0, [.long (eL ((fu 4 : Nat) : Int)), .long (eL ((fl 4 : Nat) : Int))])), ((ad 21), .inr (3, [.int (eI (ys 0)), .int (eI (yl 0)), .int (eI (yp 0))])), ((ad 22), .inr (3, [.int (eI (ys 1)), .int (eI (yl 1)), .int (eI (yp 1))])), ((ad 23), .inr (3, [.int (eI (ys 2)), .int (eI (yl 2)), .int (eI (yp 2))])), ((ad 24), .inr (1, [.ref (ad 25), .ref (ad 26), .ref (ad 27), .ref (ad 28), .ref (ad 29), .ref (ad 30), .ref (ad 31), .int (eI ed0)])), ((ad 25), aI cI 82 gT0), ((ad 26), aI cI 82 gH0), ((ad 27), aI cI 82 gR0), ((ad 28), aL cL 82 gW0), ((ad 29), aI cI 30 gA0), ((ad 30), aL cL 12 gD0), ((ad 31), aI cI 12 gE0)] s.heap.size = A at hD hQ
  have hA : ∀ q : Nat, s.heap.size ≤ q → A q := fun q h => by rw [← hAe]; exact Or.inr h
  have hS : va_S A s.heap s.heap [] := va_S.rf
  have hP : va_P D classes [((ad 0), .inr (4, [.ref (ad 1), .ref (ad 2), .ref (ad 3), .ref (ad 4), .ref (ad 5), .ref (ad 24), .int (eI ((n : Nat) : Int)), .int (eI sh), .int (eI ra), .int (eI plv), .long (eL pco)])), ((ad 1), .inl (cS, 5, .inr (.inr (.inr (.inr (eh_o5 (ad 6) (ad 7) (ad 8) (ad 9) (ad 10))))))), ((ad 2), aI cI 4 ln), ((ad 3), aI cZ 3 cb), ((ad 4), .inl (cY, 3, .inr (.inr (.inr (.inr (eh_o3 (ad 21) (ad 22) (ad 23))))))), ((ad 5), aI cI 30 la), ((ad 6), .inr (2, [.ref (ad 11), .ref (ad 16)])), ((ad 7), .inr (2, [.ref (ad 12), .ref (ad 17)])), ((ad 8), .inr (2, [.ref (ad 13), .ref (ad 18)])), ((ad 9), .inr (2, [.ref (ad 14), .ref (ad 19)])), ((ad 10), .inr (2, [.ref (ad 15), .ref (ad 20)])), ((ad 11), .inr (0, [.long (eL ((cu 0 : Nat) : Int)), .long (eL ((cl 0 : Nat) : Int))])), ((ad 12), .inr (0, [.long (eL ((cu 1 : Nat) : Int)), .long (eL ((cl 1 : Nat) : Int))])), ((ad 13), .inr (0, [.long (eL ((cu 2 : Nat) : Int)), .long (eL ((cl 2 : Nat) : Int))])), ((ad 14), .inr (0, [.long (eL ((cu 3 : Nat) : Int)), .long (eL ((cl 3 : Nat) : Int))])), ((ad 15), .inr (0, [.long (eL ((cu 4 : Nat) : Int)), .long (eL ((cl 4 : Nat) : Int))])), ((ad 16), .inr (0, [.long (eL ((fu 0 : Nat) : Int)), .long (eL ((fl 0 : Nat) : Int))])), ((ad 17), .inr (0, [.long (eL ((fu 1 : Nat) : Int)), .long (eL ((fl 1 : Nat) : Int))])), ((ad 18), .inr (0, [.long (eL ((fu 2 : Nat) : Int)), .long (eL ((fl 2 : Nat) : Int))])), ((ad 19), .inr (0, [.long (eL ((fu 3 : Nat) : Int)), .long (eL ((fl 3 : Nat) : Int))])), ((ad 20), .inr (0, [.long (eL ((fu 4 : Nat) : Int)), .long (eL ((fl 4 : Nat) : Int))])), ((ad 21), .inr (3, [.int (eI (ys 0)), .int (eI (yl 0)), .int (eI (yp 0))])), ((ad 22), .inr (3, [.int (eI (ys 1)), .int (eI (yl 1)), .int (eI (yp 1))])), ((ad 23), .inr (3, [.int (eI (ys 2)), .int (eI (yl 2)), .int (eI (yp 2))])), ((ad 24), .inr (1, [.ref (ad 25), .ref (ad 26), .ref (ad 27), .ref (ad 28), .ref (ad 29), .ref (ad 30), .ref (ad 31), .int (eI ed0)])), ((ad 25), aI cI 82 gT0), ((ad 26), aI cI 82 gH0), ((ad 27), aI cI 82 gR0), ((ad 28), aL cL 82 gW0), ((ad 29), aI cI 30 gA0), ((ad 30), aL cL 12 gD0), ((ad 31), aI cI 12 gE0)] s.heap := hP
  have hl := lv_entry ([.ref (ad 0)]) (n := 1) (Nat.le_of_ble_eq_true rfl)
  rw [lg_entry_eq]
  generalize (lg_sl ([.ref (ad 0)]) ++ List.replicate (1 - (lg_sl ([.ref (ad 0)])).length) Slot.unset).toArray = ls at hl ⊢
  have hl : lv_has ls 1 [(0, .ref (ad 0))] := hl
  refine lv_aload_n hx hb d_E_solve_0 rfl (lv_at hl 0 rfl) ?_
  refine eh_cMV (As := []) (rest := []) (q := (R_E, T_E, 11)) (wr := []) hx hb hml hown htb hN (m_E_makePlan l D cI cL cZ cS cY ad n sh ra plv pco ln cb la cu cl fu fl ys yl yp ed0 gT0 gH0 gR0 gW0 gA0 gD0 gE0 hE hpv) 0 ⟨tb_188, tb_190, ts_4, tb_1, kin_E_makePlan⟩ dv_E_makePlan ⟨by rw [hR1]; decide, by rw [hR2]; decide⟩ hK hP hD hS hA 0 rfl rfl [0, 1, 2, 3, 4, 5, 6, 7, 8, 9, 10, 11, 12, 13, 14, 15, 16, 17, 18, 19, 20, 21, 22, 23, 24, 25, 26, 27, 28, 29, 30, 31] [] rfl rfl (by decide) rfl (by decide) (by decide) [0, 1, 2, 3, 4] rfl rfl rfl hl.1 (Nat.le_of_ble_eq_true rfl) d_E_solve_1 ⟨Nat.zero_le _, Nat.zero_le _⟩ (fun u H locs hu hP hD hS => ?_)
  have hP := hP.sub (ws' := [((ad 0), .inr (4, [.ref (ad 1), .ref (ad 2), .ref (ad 3), .ref (ad 4), .ref (ad 5), .ref (ad 24), .int (eI ((n : Nat) : Int)), .int (eI sh), .int (eI ra), .int (eI 1), .long (eL u.1)])), ((ad 1), .inl (cS, 5, .inr (.inr (.inr (.inr (eh_o5 (ad 6) (ad 7) (ad 8) (ad 9) (ad 10))))))), ((ad 2), aI cI 4 ln), ((ad 3), aI cZ 3 cb), ((ad 4), .inl (cY, 3, .inr (.inr (.inr (.inr (eh_o3 (ad 21) (ad 22) (ad 23))))))), ((ad 5), aI cI 30 la), ((ad 6), .inr (2, [.ref (ad 11), .ref (ad 16)])), ((ad 7), .inr (2, [.ref (ad 12), .ref (ad 17)])), ((ad 8), .inr (2, [.ref (ad 13), .ref (ad 18)])), ((ad 9), .inr (2, [.ref (ad 14), .ref (ad 19)])), ((ad 10), .inr (2, [.ref (ad 15), .ref (ad 20)])), ((ad 11), .inr (0, [.long (eL ((cu 0 : Nat) : Int)), .long (eL ((cl 0 : Nat) : Int))])), ((ad 12), .inr (0, [.long (eL ((cu 1 : Nat) : Int)), .long (eL ((cl 1 : Nat) : Int))])), ((ad 13), .inr (0, [.long (eL ((cu 2 : Nat) : Int)), .long (eL ((cl 2 : Nat) : Int))])), ((ad 14), .inr (0, [.long (eL ((cu 3 : Nat) : Int)), .long (eL ((cl 3 : Nat) : Int))])), ((ad 15), .inr (0, [.long (eL ((cu 4 : Nat) : Int)), .long (eL ((cl 4 : Nat) : Int))])), ((ad 16), .inr (0, [.long (eL ((fu 0 : Nat) : Int)), .long (eL ((fl 0 : Nat) : Int))])), ((ad 17), .inr (0, [.long (eL ((fu 1 : Nat) : Int)), .long (eL ((fl 1 : Nat) : Int))])), ((ad 18), .inr (0, [.long (eL ((fu 2 : Nat) : Int)), .long (eL ((fl 2 : Nat) : Int))])), ((ad 19), .inr (0, [.long (eL ((fu 3 : Nat) : Int)), .long (eL ((fl 3 : Nat) : Int))])), ((ad 20), .inr (0, [.long (eL ((fu 4 : Nat) : Int)), .long (eL ((fl 4 : Nat) : Int))])), ((ad 21), .inr (3, [.int (eI (ys 0)), .int (eI (yl 0)), .int (eI (yp 0))])), ((ad 22), .inr (3, [.int (eI (ys 1)), .int (eI (yl 1)), .int (eI (yp 1))])), ((ad 23), .inr (3, [.int (eI (ys 2)), .int (eI (yl 2)), .int (eI (yp 2))])), ((ad 24), .inr (1, [.ref (ad 25), .ref (ad 26), .ref (ad 27), .ref (ad 28), .ref (ad 29), .ref (ad 30), .ref (ad 31), .int (eI u.2.1)])), ((ad 25), aI cI 82 u.2.2.1), ((ad 26), aI cI 82 u.2.2.2.1), ((ad 27), aI cI 82 u.2.2.2.2.1), ((ad 28), aL cL 82 u.2.2.2.2.2.1), ((ad 29), aI cI 30 u.2.2.2.2.2.2.1), ((ad 30), aL cL 12 u.2.2.2.2.2.2.2.1), ((ad 31), aI cI 12 u.2.2.2.2.2.2.2.2)]) [0, 1, 2, 3, 4, 5, 6, 7, 8, 9, 10, 11, 12, 13, 14, 15, 16, 17, 18, 19, 20, 21, 22, 23, 24, 25, 26, 27, 28, 29, 30, 31] rfl
  have hD := hD.sub (ws' := [((ad 0), .inr (4, [.ref (ad 1), .ref (ad 2), .ref (ad 3), .ref (ad 4), .ref (ad 5), .ref (ad 24), .int (eI ((n : Nat) : Int)), .int (eI sh), .int (eI ra), .int (eI 1), .long (eL u.1)])), ((ad 1), .inl (cS, 5, .inr (.inr (.inr (.inr (eh_o5 (ad 6) (ad 7) (ad 8) (ad 9) (ad 10))))))), ((ad 2), aI cI 4 ln), ((ad 3), aI cZ 3 cb), ((ad 4), .inl (cY, 3, .inr (.inr (.inr (.inr (eh_o3 (ad 21) (ad 22) (ad 23))))))), ((ad 5), aI cI 30 la), ((ad 6), .inr (2, [.ref (ad 11), .ref (ad 16)])), ((ad 7), .inr (2, [.ref (ad 12), .ref (ad 17)])), ((ad 8), .inr (2, [.ref (ad 13), .ref (ad 18)])), ((ad 9), .inr (2, [.ref (ad 14), .ref (ad 19)])), ((ad 10), .inr (2, [.ref (ad 15), .ref (ad 20)])), ((ad 11), .inr (0, [.long (eL ((cu 0 : Nat) : Int)), .long (eL ((cl 0 : Nat) : Int))])), ((ad 12), .inr (0, [.long (eL ((cu 1 : Nat) : Int)), .long (eL ((cl 1 : Nat) : Int))])), ((ad 13), .inr (0, [.long (eL ((cu 2 : Nat) : Int)), .long (eL ((cl 2 : Nat) : Int))])), ((ad 14), .inr (0, [.long (eL ((cu 3 : Nat) : Int)), .long (eL ((cl 3 : Nat) : Int))])), ((ad 15), .inr (0, [.long (eL ((cu 4 : Nat) : Int)), .long (eL ((cl 4 : Nat) : Int))])), ((ad 16), .inr (0, [.long (eL ((fu 0 : Nat) : Int)), .long (eL ((fl 0 : Nat) : Int))])), ((ad 17), .inr (0, [.long (eL ((fu 1 : Nat) : Int)), .long (eL ((fl 1 : Nat) : Int))])), ((ad 18), .inr (0, [.long (eL ((fu 2 : Nat) : Int)), .long (eL ((fl 2 : Nat) : Int))])), ((ad 19), .inr (0, [.long (eL ((fu 3 : Nat) : Int)), .long (eL ((fl 3 : Nat) : Int))])), ((ad 20), .inr (0, [.long (eL ((fu 4 : Nat) : Int)), .long (eL ((fl 4 : Nat) : Int))])), ((ad 21), .inr (3, [.int (eI (ys 0)), .int (eI (yl 0)), .int (eI (yp 0))])), ((ad 22), .inr (3, [.int (eI (ys 1)), .int (eI (yl 1)), .int (eI (yp 1))])), ((ad 23), .inr (3, [.int (eI (ys 2)), .int (eI (yl 2)), .int (eI (yp 2))])), ((ad 24), .inr (1, [.ref (ad 25), .ref (ad 26), .ref (ad 27), .ref (ad 28), .ref (ad 29), .ref (ad 30), .ref (ad 31), .int (eI u.2.1)])), ((ad 25), aI cI 82 u.2.2.1), ((ad 26), aI cI 82 u.2.2.2.1), ((ad 27), aI cI 82 u.2.2.2.2.1), ((ad 28), aL cL 82 u.2.2.2.2.2.1), ((ad 29), aI cI 30 u.2.2.2.2.2.2.1), ((ad 30), aL cL 12 u.2.2.2.2.2.2.2.1), ((ad 31), aI cI 12 u.2.2.2.2.2.2.2.2)]) [0, 1, 2, 3, 4, 5, 6, 7, 8, 9, 10, 11, 12, 13, 14, 15, 16, 17, 18, 19, 20, 21, 22, 23, 24, 25, 26, 27, 28, 29, 30, 31] (by decide) rfl
  refine lv_aload_n hx hb d_E_solve_4 rfl (lv_at hl 0 rfl) ?_
  refine va_get (D := D) (ci := 4) (v := .long (eL u.1)) (C := R_E) (T := T_E) (N := 11) hx hb htb in_E hown hK hP 0 rfl rfl 10 (by decide) (htb _ tb_134) (fun _ h9 => h9) rfl d_E_solve_5 ?_
  subst hQ
  exact W.lret hx hb hrt (fun t9 ht hW => ⟨⟨u, rfl, hu, by rw [ht]; exact hP, hD⟩, hS.F ht⟩) hS.2.2 d_E_solve_8
abbrev c_E_excess : ByteArray := prog_1_method_18_code
def y_E_excess : MethodName := ⟨"EarthHauls", "excess", "()J"⟩
abbrev k_E_excess : Cond := .code y_E_excess c_E_excess 1 (some .long)
theorem kin_E_excess : k_E_excess ∈ ew_t := tb_318
theorem dv_E_excess : eh_dV y_E_excess "EarthHauls" 0 := ⟨rfl, by decide, by decide, by decide +kernel⟩
theorem d_E_excess_0 : decode c_E_excess 0 = .ok (.aload_n 0, 1) := by decide +kernel
theorem d_E_excess_1 : decode c_E_excess 1 = .ok (.invokevirtual 162, 3) := by decide +kernel
theorem d_E_excess_4 : decode c_E_excess 4 = .ok (.iconst (-1), 1) := by decide +kernel
theorem d_E_excess_5 : decode c_E_excess 5 = .ok (.if_icmp .eq 7, 3) := by decide +kernel
theorem d_E_excess_8 : decode c_E_excess 8 = .ok (.ldc2_w 138, 3) := by decide +kernel
theorem d_E_excess_11 : decode c_E_excess 11 = .ok (.lreturn, 1) := by decide +kernel
theorem d_E_excess_12 : decode c_E_excess 12 = .ok (.aload_n 0, 1) := by decide +kernel
theorem d_E_excess_13 : decode c_E_excess 13 = .ok (.invokevirtual 132, 3) := by decide +kernel
theorem d_E_excess_16 : decode c_E_excess 16 = .ok (.aload_n 0, 1) := by decide +kernel
theorem d_E_excess_17 : decode c_E_excess 17 = .ok (.invokevirtual 165, 3) := by decide +kernel
theorem d_E_excess_20 : decode c_E_excess 20 = .ok (.aload_n 0, 1) := by decide +kernel
theorem d_E_excess_21 : decode c_E_excess 21 = .ok (.getfield 135, 3) := by decide +kernel
theorem d_E_excess_24 : decode c_E_excess 24 = .ok (.lsub, 1) := by decide +kernel
theorem d_E_excess_25 : decode c_E_excess 25 = .ok (.lreturn, 1) := by decide +kernel
set_option maxHeartbeats 1000000 in
set_option maxRecDepth 100000 in
theorem m_E_excess (l : Launch) (D : va_G) (cI cL cZ cS cY : ClassId) (ad : Nat → Nat) (n : Nat) (sh ra plv pco : Int) (ln cb la : Nat → Int) (cu cl fu fl : Nat → Nat) (ys yl yp : Nat → Int) (ed0 : Int) (gT0 gH0 gR0 gW0 gA0 gD0 gE0 : Nat → Int) (hE : eh_ES n sh ra ln cb la cu cl fu fl ys yl yp) (hpv : plv = 0 ∨ (plv = 1 ∧ ∃ (K : Nat) (na nb : Nat → Nat) (nw nc nx : Nat → Int), ed0 = ((2 * K : Nat) : Int) ∧ eh_PS (eh_kc n ra ln cb ys yp) (eh_gv n sh ln cu cl yl) (eh_wn n ln fu fl yl) K na nb nw nc nx gT0 gH0 gR0 gW0 gA0 pco)) : eh_M (S := Int × Int × Int × Int × (Nat → Int) × (Nat → Int) × (Nat → Int) × (Nat → Int) × (Nat → Int) × (Nat → Int) × (Nat → Int)) l y_E_excess k_E_excess 6 133 D classes [(cI, .int), (cL, .long), (cZ, .boolean), (cS, .object "EarthHauls$Section"), (cY, .object "EarthHauls$Yard")] [.ref (ad 0)] [((ad 0), .inr (4, [.ref (ad 1), .ref (ad 2), .ref (ad 3), .ref (ad 4), .ref (ad 5), .ref (ad 24), .int (eI ((n : Nat) : Int)), .int (eI sh), .int (eI ra), .int (eI plv), .long (eL pco)])), ((ad 1), .inl (cS, 5, .inr (.inr (.inr (.inr (eh_o5 (ad 6) (ad 7) (ad 8) (ad 9) (ad 10))))))), ((ad 2), aI cI 4 ln), ((ad 3), aI cZ 3 cb), ((ad 4), .inl (cY, 3, .inr (.inr (.inr (.inr (eh_o3 (ad 21) (ad 22) (ad 23))))))), ((ad 5), aI cI 30 la), ((ad 6), .inr (2, [.ref (ad 11), .ref (ad 16)])), ((ad 7), .inr (2, [.ref (ad 12), .ref (ad 17)])), ((ad 8), .inr (2, [.ref (ad 13), .ref (ad 18)])), ((ad 9), .inr (2, [.ref (ad 14), .ref (ad 19)])), ((ad 10), .inr (2, [.ref (ad 15), .ref (ad 20)])), ((ad 11), .inr (0, [.long (eL ((cu 0 : Nat) : Int)), .long (eL ((cl 0 : Nat) : Int))])), ((ad 12), .inr (0, [.long (eL ((cu 1 : Nat) : Int)), .long (eL ((cl 1 : Nat) : Int))])), ((ad 13), .inr (0, [.long (eL ((cu 2 : Nat) : Int)), .long (eL ((cl 2 : Nat) : Int))])), ((ad 14), .inr (0, [.long (eL ((cu 3 : Nat) : Int)), .long (eL ((cl 3 : Nat) : Int))])), ((ad 15), .inr (0, [.long (eL ((cu 4 : Nat) : Int)), .long (eL ((cl 4 : Nat) : Int))])), ((ad 16), .inr (0, [.long (eL ((fu 0 : Nat) : Int)), .long (eL ((fl 0 : Nat) : Int))])), ((ad 17), .inr (0, [.long (eL ((fu 1 : Nat) : Int)), .long (eL ((fl 1 : Nat) : Int))])), ((ad 18), .inr (0, [.long (eL ((fu 2 : Nat) : Int)), .long (eL ((fl 2 : Nat) : Int))])), ((ad 19), .inr (0, [.long (eL ((fu 3 : Nat) : Int)), .long (eL ((fl 3 : Nat) : Int))])), ((ad 20), .inr (0, [.long (eL ((fu 4 : Nat) : Int)), .long (eL ((fl 4 : Nat) : Int))])), ((ad 21), .inr (3, [.int (eI (ys 0)), .int (eI (yl 0)), .int (eI (yp 0))])), ((ad 22), .inr (3, [.int (eI (ys 1)), .int (eI (yl 1)), .int (eI (yp 1))])), ((ad 23), .inr (3, [.int (eI (ys 2)), .int (eI (yl 2)), .int (eI (yp 2))])), ((ad 24), .inr (1, [.ref (ad 25), .ref (ad 26), .ref (ad 27), .ref (ad 28), .ref (ad 29), .ref (ad 30), .ref (ad 31), .int (eI ed0)])), ((ad 25), aI cI 82 gT0), ((ad 26), aI cI 82 gH0), ((ad 27), aI cI 82 gR0), ((ad 28), aL cL 82 gW0), ((ad 29), aI cI 30 gA0), ((ad 30), aL cL 12 gD0), ((ad 31), aI cI 12 gE0)] (fun u => (u.1 = plv ∨ u.1 = 1) ∧ ((eh_jg n sh ra ln cb la cu cl fu fl ys yl yp) = -1 → u.1 = 1) ∧ (u.1 = 0 ∨ (u.1 = 1 ∧ ∃ (K : Nat) (na nb : Nat → Nat) (nw nc nx : Nat → Int), u.2.2.2.1 = ((2 * K : Nat) : Int) ∧ eh_PS (eh_kc n ra ln cb ys yp) (eh_gv n sh ln cu cl yl) (eh_wn n ln fu fl yl) K na nb nw nc nx u.2.2.2.2.1 u.2.2.2.2.2.1 u.2.2.2.2.2.2.1 u.2.2.2.2.2.2.2.1 u.2.2.2.2.2.2.2.2.1 u.2.2.1))) (fun u => some (.long (eL (if (eh_jg n sh ra ln cb la cu cl fu fl ys yl yp) = -1 then (eh_wo (eh_kc n ra ln cb ys yp) la 30) - u.2.2.1 else -1)))) (fun u => [((ad 0), .inr (4, [.ref (ad 1), .ref (ad 2), .ref (ad 3), .ref (ad 4), .ref (ad 5), .ref (ad 24), .int (eI ((n : Nat) : Int)), .int (eI sh), .int (eI ra), .int (eI u.1), .long (eL u.2.2.1)])), ((ad 1), .inl (cS, 5, .inr (.inr (.inr (.inr (eh_o5 (ad 6) (ad 7) (ad 8) (ad 9) (ad 10))))))), ((ad 2), aI cI 4 ln), ((ad 3), aI cZ 3 cb), ((ad 4), .inl (cY, 3, .inr (.inr (.inr (.inr (eh_o3 (ad 21) (ad 22) (ad 23))))))), ((ad 5), aI cI 30 la), ((ad 6), .inr (2, [.ref (ad 11), .ref (ad 16)])), ((ad 7), .inr (2, [.ref (ad 12), .ref (ad 17)])), ((ad 8), .inr (2, [.ref (ad 13), .ref (ad 18)])), ((ad 9), .inr (2, [.ref (ad 14), .ref (ad 19)])), ((ad 10), .inr (2, [.ref (ad 15), .ref (ad 20)])), ((ad 11), .inr (0, [.long (eL ((cu 0 : Nat) : Int)), .long (eL ((cl 0 : Nat) : Int))])), ((ad 12), .inr (0, [.long (eL ((cu 1 : Nat) : Int)), .long (eL ((cl 1 : Nat) : Int))])), ((ad 13), .inr (0, [.long (eL ((cu 2 : Nat) : Int)), .long (eL ((cl 2 : Nat) : Int))])), ((ad 14), .inr (0, [.long (eL ((cu 3 : Nat) : Int)), .long (eL ((cl 3 : Nat) : Int))])), ((ad 15), .inr (0, [.long (eL ((cu 4 : Nat) : Int)), .long (eL ((cl 4 : Nat) : Int))])), ((ad 16), .inr (0, [.long (eL ((fu 0 : Nat) : Int)), .long (eL ((fl 0 : Nat) : Int))])), ((ad 17), .inr (0, [.long (eL ((fu 1 : Nat) : Int)), .long (eL ((fl 1 : Nat) : Int))])), ((ad 18), .inr (0, [.long (eL ((fu 2 : Nat) : Int)), .long (eL ((fl 2 : Nat) : Int))])), ((ad 19), .inr (0, [.long (eL ((fu 3 : Nat) : Int)), .long (eL ((fl 3 : Nat) : Int))])), ((ad 20), .inr (0, [.long (eL ((fu 4 : Nat) : Int)), .long (eL ((fl 4 : Nat) : Int))])), ((ad 21), .inr (3, [.int (eI (ys 0)), .int (eI (yl 0)), .int (eI (yp 0))])), ((ad 22), .inr (3, [.int (eI (ys 1)), .int (eI (yl 1)), .int (eI (yp 1))])), ((ad 23), .inr (3, [.int (eI (ys 2)), .int (eI (yl 2)), .int (eI (yp 2))])), ((ad 24), .inr (1, [.ref (ad 25), .ref (ad 26), .ref (ad 27), .ref (ad 28), .ref (ad 29), .ref (ad 30), .ref (ad 31), .int (eI u.2.2.2.1)])), ((ad 25), aI cI 82 u.2.2.2.2.1), ((ad 26), aI cI 82 u.2.2.2.2.2.1), ((ad 27), aI cI 82 u.2.2.2.2.2.2.1), ((ad 28), aL cL 82 u.2.2.2.2.2.2.2.1), ((ad 29), aI cI 30 u.2.2.2.2.2.2.2.2.1), ((ad 30), aL cL 12 u.2.2.2.2.2.2.2.2.2.1), ((ad 31), aI cI 12 u.2.2.2.2.2.2.2.2.2.2)]) := by
  intro sz
  refine Met.ofW (cc := c_E_excess) (maxL := 1) (ret := (some .long)) (by decide) rfl ?_
  intro p e s m args below meth c s₁ B hml hv
  obtain ⟨hargs, hsz, hP, hK, hD0, hN⟩ := hv
  have hx := B.exec
  have hb := B.bytes
  have hrt := B.returns
  have hts := atoms_spec (ws := k_E_excess :: ew_t) B.pre
  have htb : ∀ w ∈ ew_t, w.before args s = true := fun w h => hts w (List.mem_cons_of_mem _ h)
  have hown : s.vm.findClass "EarthHauls" = some m.cls := findClass_of_methodNamed B.named
  have hlocks := B.notSynchronized
  have hE : entryFrame m args 1 = entryFrame m ([.ref (ad 0)] : List Value).toArray 1 := by rw [hargs]
  rw [hE]
  clear hE hts B hargs
  generalize hRe : (headSpec _ _).room = R
  have hR1 : R.frames = 6 := by rw [← hRe]; rfl
  have hR2 : R.locals = 133 := by rw [← hRe]; rfl
  clear hRe
  generalize hQ : MQ below _ _ s 0 0 _ = Q
  subst hsz
  have hD := hD0.self (sz := s.heap.size)
  generalize hAe : va_A [((ad 0), .inr (4, [.ref (ad 1), .ref (ad 2), .ref (ad 3), .ref (ad 4), .ref (ad 5), .ref (ad 24), .int (eI ((n : Nat) : Int)), .int (eI sh), .int (eI ra), .int (eI plv), .long (eL pco)])), ((ad 1), .inl (cS, 5, .inr (.inr (.inr (.inr (eh_o5 (ad 6) (ad 7) (ad 8) (ad 9) (ad 10))))))), ((ad 2), aI cI 4 ln), ((ad 3), aI cZ 3 cb), ((ad 4), .inl (cY, 3, .inr (.inr (.inr (.inr (eh_o3 (ad 21) (ad 22) (ad 23))))))), ((ad 5), aI cI 30 la), ((ad 6), .inr (2, [.ref (ad 11), .ref (ad 16)])), ((ad 7), .inr (2, [.ref (ad 12), .ref (ad 17)])), ((ad 8), .inr (2, [.ref (ad 13), .ref (ad 18)])), ((ad 9), .inr (2, [.ref (ad 14), .ref (ad 19)])), ((ad 10), .inr (2, [.ref (ad 15), .ref (ad 20)])), ((ad 11), .inr (0, [.long (eL ((cu 0 : Nat) : Int)), .long (eL ((cl 0 : Nat) : Int))])), ((ad 12), .inr (0, [.long (eL ((cu 1 : Nat) : Int)), .long (eL ((cl 1 : Nat) : Int))])), ((ad 13), .inr (0, [.long (eL ((cu 2 : Nat) : Int)), .long (eL ((cl 2 : Nat) : Int))])), ((ad 14), .inr (0, [.long (eL ((cu 3 : Nat) : Int)), .long (eL ((cl 3 : Nat) : Int))])), ((ad 15), .inr (0, [.long (eL ((cu 4 : Nat) : Int)), .long (eL ((cl 4 : Nat) : Int))])), ((ad 16), .inr (0, [.long (eL ((fu 0 : Nat) : Int)), .long (eL ((fl 0 : Nat) : Int))])), ((ad 17), .inr (0, [.long (eL ((fu 1 : Nat) : Int)), .long (eL ((fl 1 : Nat) : Int))])), ((ad 18), .inr (0, [.long (eL ((fu 2 : Nat) : Int)), .long (eL ((fl 2 : Nat) : Int))])), ((ad 19), .inr (0, [.long (eL ((fu 3 : Nat) : Int)), .long (eL ((fl 3 : Nat) : Int))])), ((ad 20), .inr (0, [.long (eL ((fu 4 : Nat) : Int)), .long (eL ((fl 4 : Nat) : Int))])), ((ad 21), .inr (3, [.int (eI (ys 0)), .int (eI (yl 0)), .int (eI (yp 0))])), ((ad 22), .inr (3, [.int (eI (ys 1)), .int (eI (yl 1)), .int (eI (yp 1))])), ((ad 23), .inr (3, [.int (eI (ys 2)), .int (eI (yl 2)), .int (eI (yp 2))])), ((ad 24), .inr (1, [.ref (ad 25), .ref (ad 26), .ref (ad 27), .ref (ad 28), .ref (ad 29), .ref (ad 30), .ref (ad 31), .int (eI ed0)])), ((ad 25), aI cI 82 gT0), ((ad 26), aI cI 82 gH0), ((ad 27), aI cI 82 gR0), ((ad 28), aL cL 82 gW0), ((ad 29), aI cI 30 gA0), ((ad 30), aL cL 12 gD0), ((ad 31), aI cI 12 gE0)] s.heap.size = A at hD hQ
  have hA : ∀ q : Nat, s.heap.size ≤ q → A q := fun q h => by rw [← hAe]; exact Or.inr h
  have hS : va_S A s.heap s.heap [] := va_S.rf
  have hP : va_P D classes [((ad 0), .inr (4, [.ref (ad 1), .ref (ad 2), .ref (ad 3), .ref (ad 4), .ref (ad 5), .ref (ad 24), .int (eI ((n : Nat) : Int)), .int (eI sh), .int (eI ra), .int (eI plv), .long (eL pco)])), ((ad 1), .inl (cS, 5, .inr (.inr (.inr (.inr (eh_o5 (ad 6) (ad 7) (ad 8) (ad 9) (ad 10))))))), ((ad 2), aI cI 4 ln), ((ad 3), aI cZ 3 cb), ((ad 4), .inl (cY, 3, .inr (.inr (.inr (.inr (eh_o3 (ad 21) (ad 22) (ad 23))))))), ((ad 5), aI cI 30 la), ((ad 6), .inr (2, [.ref (ad 11), .ref (ad 16)])), ((ad 7), .inr (2, [.ref (ad 12), .ref (ad 17)])), ((ad 8), .inr (2, [.ref (ad 13), .ref (ad 18)])), ((ad 9), .inr (2, [.ref (ad 14), .ref (ad 19)])), ((ad 10), .inr (2, [.ref (ad 15), .ref (ad 20)])), ((ad 11), .inr (0, [.long (eL ((cu 0 : Nat) : Int)), .long (eL ((cl 0 : Nat) : Int))])), ((ad 12), .inr (0, [.long (eL ((cu 1 : Nat) : Int)), .long (eL ((cl 1 : Nat) : Int))])), ((ad 13), .inr (0, [.long (eL ((cu 2 : Nat) : Int)), .long (eL ((cl 2 : Nat) : Int))])), ((ad 14), .inr (0, [.long (eL ((cu 3 : Nat) : Int)), .long (eL ((cl 3 : Nat) : Int))])), ((ad 15), .inr (0, [.long (eL ((cu 4 : Nat) : Int)), .long (eL ((cl 4 : Nat) : Int))])), ((ad 16), .inr (0, [.long (eL ((fu 0 : Nat) : Int)), .long (eL ((fl 0 : Nat) : Int))])), ((ad 17), .inr (0, [.long (eL ((fu 1 : Nat) : Int)), .long (eL ((fl 1 : Nat) : Int))])), ((ad 18), .inr (0, [.long (eL ((fu 2 : Nat) : Int)), .long (eL ((fl 2 : Nat) : Int))])), ((ad 19), .inr (0, [.long (eL ((fu 3 : Nat) : Int)), .long (eL ((fl 3 : Nat) : Int))])), ((ad 20), .inr (0, [.long (eL ((fu 4 : Nat) : Int)), .long (eL ((fl 4 : Nat) : Int))])), ((ad 21), .inr (3, [.int (eI (ys 0)), .int (eI (yl 0)), .int (eI (yp 0))])), ((ad 22), .inr (3, [.int (eI (ys 1)), .int (eI (yl 1)), .int (eI (yp 1))])), ((ad 23), .inr (3, [.int (eI (ys 2)), .int (eI (yl 2)), .int (eI (yp 2))])), ((ad 24), .inr (1, [.ref (ad 25), .ref (ad 26), .ref (ad 27), .ref (ad 28), .ref (ad 29), .ref (ad 30), .ref (ad 31), .int (eI ed0)])), ((ad 25), aI cI 82 gT0), ((ad 26), aI cI 82 gH0), ((ad 27), aI cI 82 gR0), ((ad 28), aL cL 82 gW0), ((ad 29), aI cI 30 gA0), ((ad 30), aL cL 12 gD0), ((ad 31), aI cI 12 gE0)] s.heap := hP
  have hl := lv_entry ([.ref (ad 0)]) (n := 1) (Nat.le_of_ble_eq_true rfl)
  rw [lg_entry_eq]
  generalize (lg_sl ([.ref (ad 0)]) ++ List.replicate (1 - (lg_sl ([.ref (ad 0)])).length) Slot.unset).toArray = ls at hl ⊢
  have hl : lv_has ls 1 [(0, .ref (ad 0))] := hl
  refine lv_aload_n hx hb d_E_excess_0 rfl (lv_at hl 0 rfl) ?_
  refine eh_cRV (As := []) (rest := []) (v := .int (eI (eh_jg n sh ra ln cb la cu cl fu fl ys yl yp))) (q := (R_E, T_E, 11)) hx hb hml hown htb hN (r_E_judge l D cI cL cZ cS cY ad n sh ra plv pco ln cb la cu cl fu fl ys yl yp hE) 0 ⟨tb_319, tb_295, tb_296, tb_1, kin_E_judge⟩ dv_E_judge ⟨by rw [hR1]; decide, by rw [hR2]; decide⟩ hK hP 0 rfl rfl [0, 1, 2, 3, 4, 5, 6, 7, 8, 9, 10, 11, 12, 13, 14, 15, 16, 17, 18, 19, 20, 21, 22, 23] rfl [0, 1, 2, 3, 4] rfl rfl rfl hl.1 (Nat.le_of_ble_eq_true rfl) d_E_excess_1 ⟨Nat.zero_le _, Nat.zero_le _⟩ ?_
  have hjb : -1 ≤ (eh_jg n sh ra ln cb la cu cl fu fl ys yl yp) ∧ (eh_jg n sh ra ln cb la cu cl fu fl ys yl yp) ≤ 130 := eh_jg_b _ _ _ _ _ _ _ _ _ _ _ _ _
  refine lv_iconst (v := eI (-1)) hx hb d_E_excess_4 rfl ?_
  refine we_icmp_eq (tgt := 12) hx hb (by constructor <;> omega) (by constructor <;> omega) d_E_excess_5 rfl (fun hc5 => ?_) (fun hc5 => ?_)
  ·
    refine lv_aload_n hx hb d_E_excess_12 rfl (lv_at hl 0 rfl) ?_
    refine eh_cMV (As := []) (rest := []) (q := (R_E, T_E, 11)) (wr := []) hx hb hml hown htb hN (m_E_makePlan l D cI cL cZ cS cY ad n sh ra plv pco ln cb la cu cl fu fl ys yl yp ed0 gT0 gH0 gR0 gW0 gA0 gD0 gE0 hE hpv) 0 ⟨tb_188, tb_190, ts_4, tb_1, kin_E_makePlan⟩ dv_E_makePlan ⟨by rw [hR1]; decide, by rw [hR2]; decide⟩ hK hP hD hS hA 0 rfl rfl [0, 1, 2, 3, 4, 5, 6, 7, 8, 9, 10, 11, 12, 13, 14, 15, 16, 17, 18, 19, 20, 21, 22, 23, 24, 25, 26, 27, 28, 29, 30, 31] [] rfl rfl (by decide) rfl (by decide) (by decide) [0, 1, 2, 3, 4] rfl rfl rfl hl.1 (Nat.le_of_ble_eq_true rfl) d_E_excess_13 ⟨Nat.zero_le _, Nat.zero_le _⟩ (fun u H locs hu hP hD hS => ?_)
    have hP := hP.sub (ws' := [((ad 0), .inr (4, [.ref (ad 1), .ref (ad 2), .ref (ad 3), .ref (ad 4), .ref (ad 5), .ref (ad 24), .int (eI ((n : Nat) : Int)), .int (eI sh), .int (eI ra), .int (eI 1), .long (eL u.1)])), ((ad 1), .inl (cS, 5, .inr (.inr (.inr (.inr (eh_o5 (ad 6) (ad 7) (ad 8) (ad 9) (ad 10))))))), ((ad 2), aI cI 4 ln), ((ad 3), aI cZ 3 cb), ((ad 4), .inl (cY, 3, .inr (.inr (.inr (.inr (eh_o3 (ad 21) (ad 22) (ad 23))))))), ((ad 5), aI cI 30 la), ((ad 6), .inr (2, [.ref (ad 11), .ref (ad 16)])), ((ad 7), .inr (2, [.ref (ad 12), .ref (ad 17)])), ((ad 8), .inr (2, [.ref (ad 13), .ref (ad 18)])), ((ad 9), .inr (2, [.ref (ad 14), .ref (ad 19)])), ((ad 10), .inr (2, [.ref (ad 15), .ref (ad 20)])), ((ad 11), .inr (0, [.long (eL ((cu 0 : Nat) : Int)), .long (eL ((cl 0 : Nat) : Int))])), ((ad 12), .inr (0, [.long (eL ((cu 1 : Nat) : Int)), .long (eL ((cl 1 : Nat) : Int))])), ((ad 13), .inr (0, [.long (eL ((cu 2 : Nat) : Int)), .long (eL ((cl 2 : Nat) : Int))])), ((ad 14), .inr (0, [.long (eL ((cu 3 : Nat) : Int)), .long (eL ((cl 3 : Nat) : Int))])), ((ad 15), .inr (0, [.long (eL ((cu 4 : Nat) : Int)), .long (eL ((cl 4 : Nat) : Int))])), ((ad 16), .inr (0, [.long (eL ((fu 0 : Nat) : Int)), .long (eL ((fl 0 : Nat) : Int))])), ((ad 17), .inr (0, [.long (eL ((fu 1 : Nat) : Int)), .long (eL ((fl 1 : Nat) : Int))])), ((ad 18), .inr (0, [.long (eL ((fu 2 : Nat) : Int)), .long (eL ((fl 2 : Nat) : Int))])), ((ad 19), .inr (0, [.long (eL ((fu 3 : Nat) : Int)), .long (eL ((fl 3 : Nat) : Int))])), ((ad 20), .inr (0, [.long (eL ((fu 4 : Nat) : Int)), .long (eL ((fl 4 : Nat) : Int))])), ((ad 21), .inr (3, [.int (eI (ys 0)), .int (eI (yl 0)), .int (eI (yp 0))])), ((ad 22), .inr (3, [.int (eI (ys 1)), .int (eI (yl 1)), .int (eI (yp 1))])), ((ad 23), .inr (3, [.int (eI (ys 2)), .int (eI (yl 2)), .int (eI (yp 2))])), ((ad 24), .inr (1, [.ref (ad 25), .ref (ad 26), .ref (ad 27), .ref (ad 28), .ref (ad 29), .ref (ad 30), .ref (ad 31), .int (eI u.2.1)])), ((ad 25), aI cI 82 u.2.2.1), ((ad 26), aI cI 82 u.2.2.2.1), ((ad 27), aI cI 82 u.2.2.2.2.1), ((ad 28), aL cL 82 u.2.2.2.2.2.1), ((ad 29), aI cI 30 u.2.2.2.2.2.2.1), ((ad 30), aL cL 12 u.2.2.2.2.2.2.2.1), ((ad 31), aI cI 12 u.2.2.2.2.2.2.2.2)]) [0, 1, 2, 3, 4, 5, 6, 7, 8, 9, 10, 11, 12, 13, 14, 15, 16, 17, 18, 19, 20, 21, 22, 23, 24, 25, 26, 27, 28, 29, 30, 31] rfl
    have hD := hD.sub (ws' := [((ad 0), .inr (4, [.ref (ad 1), .ref (ad 2), .ref (ad 3), .ref (ad 4), .ref (ad 5), .ref (ad 24), .int (eI ((n : Nat) : Int)), .int (eI sh), .int (eI ra), .int (eI 1), .long (eL u.1)])), ((ad 1), .inl (cS, 5, .inr (.inr (.inr (.inr (eh_o5 (ad 6) (ad 7) (ad 8) (ad 9) (ad 10))))))), ((ad 2), aI cI 4 ln), ((ad 3), aI cZ 3 cb), ((ad 4), .inl (cY, 3, .inr (.inr (.inr (.inr (eh_o3 (ad 21) (ad 22) (ad 23))))))), ((ad 5), aI cI 30 la), ((ad 6), .inr (2, [.ref (ad 11), .ref (ad 16)])), ((ad 7), .inr (2, [.ref (ad 12), .ref (ad 17)])), ((ad 8), .inr (2, [.ref (ad 13), .ref (ad 18)])), ((ad 9), .inr (2, [.ref (ad 14), .ref (ad 19)])), ((ad 10), .inr (2, [.ref (ad 15), .ref (ad 20)])), ((ad 11), .inr (0, [.long (eL ((cu 0 : Nat) : Int)), .long (eL ((cl 0 : Nat) : Int))])), ((ad 12), .inr (0, [.long (eL ((cu 1 : Nat) : Int)), .long (eL ((cl 1 : Nat) : Int))])), ((ad 13), .inr (0, [.long (eL ((cu 2 : Nat) : Int)), .long (eL ((cl 2 : Nat) : Int))])), ((ad 14), .inr (0, [.long (eL ((cu 3 : Nat) : Int)), .long (eL ((cl 3 : Nat) : Int))])), ((ad 15), .inr (0, [.long (eL ((cu 4 : Nat) : Int)), .long (eL ((cl 4 : Nat) : Int))])), ((ad 16), .inr (0, [.long (eL ((fu 0 : Nat) : Int)), .long (eL ((fl 0 : Nat) : Int))])), ((ad 17), .inr (0, [.long (eL ((fu 1 : Nat) : Int)), .long (eL ((fl 1 : Nat) : Int))])), ((ad 18), .inr (0, [.long (eL ((fu 2 : Nat) : Int)), .long (eL ((fl 2 : Nat) : Int))])), ((ad 19), .inr (0, [.long (eL ((fu 3 : Nat) : Int)), .long (eL ((fl 3 : Nat) : Int))])), ((ad 20), .inr (0, [.long (eL ((fu 4 : Nat) : Int)), .long (eL ((fl 4 : Nat) : Int))])), ((ad 21), .inr (3, [.int (eI (ys 0)), .int (eI (yl 0)), .int (eI (yp 0))])), ((ad 22), .inr (3, [.int (eI (ys 1)), .int (eI (yl 1)), .int (eI (yp 1))])), ((ad 23), .inr (3, [.int (eI (ys 2)), .int (eI (yl 2)), .int (eI (yp 2))])), ((ad 24), .inr (1, [.ref (ad 25), .ref (ad 26), .ref (ad 27), .ref (ad 28), .ref (ad 29), .ref (ad 30), .ref (ad 31), .int (eI u.2.1)])), ((ad 25), aI cI 82 u.2.2.1), ((ad 26), aI cI 82 u.2.2.2.1), ((ad 27), aI cI 82 u.2.2.2.2.1), ((ad 28), aL cL 82 u.2.2.2.2.2.1), ((ad 29), aI cI 30 u.2.2.2.2.2.2.1), ((ad 30), aL cL 12 u.2.2.2.2.2.2.2.1), ((ad 31), aI cI 12 u.2.2.2.2.2.2.2.2)]) [0, 1, 2, 3, 4, 5, 6, 7, 8, 9, 10, 11, 12, 13, 14, 15, 16, 17, 18, 19, 20, 21, 22, 23, 24, 25, 26, 27, 28, 29, 30, 31] (by decide) rfl
    refine lv_aload_n hx hb d_E_excess_16 rfl (lv_at hl 0 rfl) ?_
    refine eh_cRV (As := []) (rest := []) (v := .long (eL (eh_wo (eh_kc n ra ln cb ys yp) la 30))) (q := (R_E, T_E, 11)) hx hb hml hown htb hN (r_E_worth l D cI cL cZ cS cY ad n sh ra 1 u.1 ln cb la cu cl fu fl ys yl yp hE) 0 ⟨tb_320, tb_312, tb_313, tb_1, kin_E_worth⟩ dv_E_worth ⟨by rw [hR1]; decide, by rw [hR2]; decide⟩ hK hP 0 rfl rfl [0, 1, 2, 3, 4, 5, 6, 7, 8, 9, 10, 11, 12, 13, 14, 15, 16, 17, 18, 19, 20, 21, 22, 23] rfl [0, 1, 2, 3, 4] rfl rfl rfl hl.1 (Nat.le_of_ble_eq_true rfl) d_E_excess_17 ⟨Nat.zero_le _, Nat.zero_le _⟩ ?_
    refine lv_aload_n hx hb d_E_excess_20 rfl (lv_at hl 0 rfl) ?_
    refine va_get (D := D) (ci := 4) (v := .long (eL u.1)) (C := R_E) (T := T_E) (N := 11) hx hb htb in_E hown hK hP 0 rfl rfl 10 (by decide) (htb _ tb_134) (fun _ h9 => h9) rfl d_E_excess_21 ?_
    refine we_lsub hx hb d_E_excess_24 ?_
    subst hQ
    exact W.lret hx hb hrt (fun t9 ht hW => ⟨⟨(1, 0, u), by
      show Outcome.returned (some (Value.long (eL ((eh_wo (eh_kc n ra ln cb ys yp) la 30) - u.1)))) = Outcome.returned (some (Value.long (eL (if (eh_jg n sh ra ln cb la cu cl fu fl ys yl yp) = -1 then (eh_wo (eh_kc n ra ln cb ys yp) la 30) - u.1 else -1))))
      rw [if_pos (by omega)], ⟨Or.inr rfl, fun _ => rfl, Or.inr ⟨rfl, hu⟩⟩, by rw [ht]; exact hP, hD⟩, hS.F ht⟩) hS.2.2 d_E_excess_25
  ·
    refine we_ldc2 (a := (-1)) hx hb hown (htb _ tb_112) (by decide) d_E_excess_8 ?_
    subst hQ
    exact W.lret hx hb hrt (fun t9 ht hW => ⟨⟨(plv, 0, pco, ed0, gT0, gH0, gR0, gW0, gA0, gD0, gE0), by
      show Outcome.returned (some (Value.long (eL (-1)))) = Outcome.returned (some (Value.long (eL (if (eh_jg n sh ra ln cb la cu cl fu fl ys yl yp) = -1 then (eh_wo (eh_kc n ra ln cb ys yp) la 30) - pco else -1))))
      rw [if_neg (by omega)], ⟨Or.inl rfl, fun z => absurd z (by omega), hpv⟩, by rw [ht]; exact hP, hD⟩, hS.F ht⟩) hS.2.2 d_E_excess_11
