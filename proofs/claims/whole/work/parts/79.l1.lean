abbrev c_L_station : ByteArray := method_3_code
def y_L_station : MethodName := ⟨"EarthHaulsLaw", "station", "(LEarthHauls;IIIII[J)I"⟩
abbrev h_L_station : List (Nat × Nat × Nat × Nat) := [(0, 16, 19, 13), (0, 16, 23, 15)]
abbrev k_L_station : Cond := .codeWith y_L_station c_L_station 8 (some .int) h_L_station
theorem kin_L_station : k_L_station ∈ ew_t := tb_323
theorem dv_L_station : eh_dS y_L_station 7 := ⟨by decide, by decide, by decide +kernel⟩
theorem d_L_station_0 : decode c_L_station 0 = .ok (.aload 6, 2) := by decide +kernel
theorem d_L_station_2 : decode c_L_station 2 = .ok (.iconst 0, 1) := by decide +kernel
theorem d_L_station_3 : decode c_L_station 3 = .ok (.aload_n 0, 1) := by decide +kernel
theorem d_L_station_4 : decode c_L_station 4 = .ok (.iload_n 1, 1) := by decide +kernel
theorem d_L_station_5 : decode c_L_station 5 = .ok (.iload_n 2, 1) := by decide +kernel
theorem d_L_station_6 : decode c_L_station 6 = .ok (.iload_n 3, 1) := by decide +kernel
theorem d_L_station_7 : decode c_L_station 7 = .ok (.iload 4, 2) := by decide +kernel
theorem d_L_station_9 : decode c_L_station 9 = .ok (.iload 5, 2) := by decide +kernel
theorem d_L_station_11 : decode c_L_station 11 = .ok (.invokevirtual 7, 3) := by decide +kernel
theorem d_L_station_14 : decode c_L_station 14 = .ok (.i2l, 1) := by decide +kernel
theorem d_L_station_15 : decode c_L_station 15 = .ok (.lastore, 1) := by decide +kernel
theorem d_L_station_16 : decode c_L_station 16 = .ok (.goto 11, 3) := by decide +kernel
theorem d_L_station_19 : decode c_L_station 19 = .ok (.astore 7, 2) := by decide +kernel
theorem d_L_station_21 : decode c_L_station 21 = .ok (.iconst 1, 1) := by decide +kernel
theorem d_L_station_22 : decode c_L_station 22 = .ok (.ireturn, 1) := by decide +kernel
theorem d_L_station_23 : decode c_L_station 23 = .ok (.astore 7, 2) := by decide +kernel
theorem d_L_station_25 : decode c_L_station 25 = .ok (.iconst 2, 1) := by decide +kernel
theorem d_L_station_26 : decode c_L_station 26 = .ok (.ireturn, 1) := by decide +kernel
theorem d_L_station_27 : decode c_L_station 27 = .ok (.iconst 0, 1) := by decide +kernel
theorem d_L_station_28 : decode c_L_station 28 = .ok (.ireturn, 1) := by decide +kernel
set_option maxHeartbeats 1000000 in
set_option maxRecDepth 100000 in
theorem x_L_station_IA (l : Launch) (D : va_G) (cI cL cZ cS cY : ClassId) (ad : Nat → Nat) (n : Nat) (sh ra plv pco : Int) (ln cb la : Nat → Int) (cu cl fu fl : Nat → Nat) (ys yl yp : Nat → Int) (ou : Nat) (y x1 x2 x3 w : Int) (hy : -2147483648 ≤ y ∧ y < 2147483648) (hx1 : -2147483648 ≤ x1 ∧ x1 < 2147483648) (hx2 : -2147483648 ≤ x2 ∧ x2 < 2147483648) (hx3 : -2147483648 ≤ x3 ∧ x3 < 2147483648) (hw : -2147483648 ≤ w ∧ w < 2147483648) (hbad : ¬ (((n = 0 ∧ y = 0) ∨ (n ≠ 0 ∧ 1 ≤ y ∧ y ≤ 100)) ∧ (-100 ≤ x1 ∧ x1 ≤ 100) ∧ (-100 ≤ x2 ∧ x2 ≤ 100) ∧ (-100 ≤ x3 ∧ x3 ≤ 100) ∧ 0 ≤ w ∧ (1 ≤ w / 100 ∧ w / 100 ≤ 50) ∧ (1 ≤ w % 100 ∧ w % 100 ≤ 50))) (hE : eh_ES n sh ra ln cb la cu cl fu fl ys yl yp) (hl0 : l.stackTraces = false) : eh_X l y_L_station k_L_station 7 116 D classes [(cI, .int), (cL, .long), (cZ, .boolean), (cS, .object "EarthHauls$Section"), (cY, .object "EarthHauls$Yard")] [.ref (ad 0), .int (eI y), .int (eI x1), .int (eI x2), .int (eI x3), .int (eI w), .ref ou] [((ad 0), .inr (4, [.ref (ad 1), .ref (ad 2), .ref (ad 3), .ref (ad 4), .ref (ad 5), .ref (ad 24), .int (eI ((n : Nat) : Int)), .int (eI sh), .int (eI ra), .int (eI plv), .long (eL pco)])), ((ad 1), .inl (cS, 5, .inr (.inr (.inr (.inr (eh_o5 (ad 6) (ad 7) (ad 8) (ad 9) (ad 10))))))), ((ad 2), aI cI 4 ln), ((ad 3), aI cZ 3 cb), ((ad 4), .inl (cY, 3, .inr (.inr (.inr (.inr (eh_o3 (ad 21) (ad 22) (ad 23))))))), ((ad 5), aI cI 30 la), ((ad 6), .inr (2, [.ref (ad 11), .ref (ad 16)])), ((ad 7), .inr (2, [.ref (ad 12), .ref (ad 17)])), ((ad 8), .inr (2, [.ref (ad 13), .ref (ad 18)])), ((ad 9), .inr (2, [.ref (ad 14), .ref (ad 19)])), ((ad 10), .inr (2, [.ref (ad 15), .ref (ad 20)])), ((ad 11), .inr (0, [.long (eL ((cu 0 : Nat) : Int)), .long (eL ((cl 0 : Nat) : Int))])), ((ad 12), .inr (0, [.long (eL ((cu 1 : Nat) : Int)), .long (eL ((cl 1 : Nat) : Int))])), ((ad 13), .inr (0, [.long (eL ((cu 2 : Nat) : Int)), .long (eL ((cl 2 : Nat) : Int))])), ((ad 14), .inr (0, [.long (eL ((cu 3 : Nat) : Int)), .long (eL ((cl 3 : Nat) : Int))])), ((ad 15), .inr (0, [.long (eL ((cu 4 : Nat) : Int)), .long (eL ((cl 4 : Nat) : Int))])), ((ad 16), .inr (0, [.long (eL ((fu 0 : Nat) : Int)), .long (eL ((fl 0 : Nat) : Int))])), ((ad 17), .inr (0, [.long (eL ((fu 1 : Nat) : Int)), .long (eL ((fl 1 : Nat) : Int))])), ((ad 18), .inr (0, [.long (eL ((fu 2 : Nat) : Int)), .long (eL ((fl 2 : Nat) : Int))])), ((ad 19), .inr (0, [.long (eL ((fu 3 : Nat) : Int)), .long (eL ((fl 3 : Nat) : Int))])), ((ad 20), .inr (0, [.long (eL ((fu 4 : Nat) : Int)), .long (eL ((fl 4 : Nat) : Int))])), ((ad 21), .inr (3, [.int (eI (ys 0)), .int (eI (yl 0)), .int (eI (yp 0))])), ((ad 22), .inr (3, [.int (eI (ys 1)), .int (eI (yl 1)), .int (eI (yp 1))])), ((ad 23), .inr (3, [.int (eI (ys 2)), .int (eI (yl 2)), .int (eI (yp 2))]))] 1 := by
  refine eh_ofWL (cc := c_L_station) (maxL := 8) (ret := some .int) (hs := h_L_station) (by decide) rfl ?_
  intro p e s m args below meth c s₁ B hml htb0 hv
  obtain ⟨hargs, hP, hK, hN, hst, hap⟩ := hv
  have hx := B.exec
  have hb := B.bytes
  have hrt := B.returns
  have hts := atoms_spec (ws := k_L_station :: ew_t) B.pre
  have htb : ∀ w ∈ ew_t, w.before args s = true := fun w h => hts w (List.mem_cons_of_mem _ h)
  have hown : s.vm.findClass "EarthHaulsLaw" = some m.cls := findClass_of_methodNamed B.named
  have hlocks := B.notSynchronized
  have htab := eh_tab2 htb0
  have hE9 : entryFrame m args 8 = entryFrame m ([.ref (ad 0), .int (eI y), .int (eI x1), .int (eI x2), .int (eI x3), .int (eI w), .ref ou] : List Value).toArray 8 := by rw [hargs]
  rw [hE9]
  clear hE9 hts B hargs htb0
  generalize hRe : (headSpec _ _).room = R
  have hR1 : R.frames = 7 := by rw [← hRe]; rfl
  have hR2 : R.locals = 116 := by rw [← hRe]; rfl
  have hR3 : R.cells = 1 := by rw [← hRe]; rfl
  have hR4 : R.slots = 6 := by rw [← hRe]; rfl
  clear hRe
  generalize hQ : MQ below _ _ s 1 6 _ = Q
  have hP : va_P D classes [((ad 0), .inr (4, [.ref (ad 1), .ref (ad 2), .ref (ad 3), .ref (ad 4), .ref (ad 5), .ref (ad 24), .int (eI ((n : Nat) : Int)), .int (eI sh), .int (eI ra), .int (eI plv), .long (eL pco)])), ((ad 1), .inl (cS, 5, .inr (.inr (.inr (.inr (eh_o5 (ad 6) (ad 7) (ad 8) (ad 9) (ad 10))))))), ((ad 2), aI cI 4 ln), ((ad 3), aI cZ 3 cb), ((ad 4), .inl (cY, 3, .inr (.inr (.inr (.inr (eh_o3 (ad 21) (ad 22) (ad 23))))))), ((ad 5), aI cI 30 la), ((ad 6), .inr (2, [.ref (ad 11), .ref (ad 16)])), ((ad 7), .inr (2, [.ref (ad 12), .ref (ad 17)])), ((ad 8), .inr (2, [.ref (ad 13), .ref (ad 18)])), ((ad 9), .inr (2, [.ref (ad 14), .ref (ad 19)])), ((ad 10), .inr (2, [.ref (ad 15), .ref (ad 20)])), ((ad 11), .inr (0, [.long (eL ((cu 0 : Nat) : Int)), .long (eL ((cl 0 : Nat) : Int))])), ((ad 12), .inr (0, [.long (eL ((cu 1 : Nat) : Int)), .long (eL ((cl 1 : Nat) : Int))])), ((ad 13), .inr (0, [.long (eL ((cu 2 : Nat) : Int)), .long (eL ((cl 2 : Nat) : Int))])), ((ad 14), .inr (0, [.long (eL ((cu 3 : Nat) : Int)), .long (eL ((cl 3 : Nat) : Int))])), ((ad 15), .inr (0, [.long (eL ((cu 4 : Nat) : Int)), .long (eL ((cl 4 : Nat) : Int))])), ((ad 16), .inr (0, [.long (eL ((fu 0 : Nat) : Int)), .long (eL ((fl 0 : Nat) : Int))])), ((ad 17), .inr (0, [.long (eL ((fu 1 : Nat) : Int)), .long (eL ((fl 1 : Nat) : Int))])), ((ad 18), .inr (0, [.long (eL ((fu 2 : Nat) : Int)), .long (eL ((fl 2 : Nat) : Int))])), ((ad 19), .inr (0, [.long (eL ((fu 3 : Nat) : Int)), .long (eL ((fl 3 : Nat) : Int))])), ((ad 20), .inr (0, [.long (eL ((fu 4 : Nat) : Int)), .long (eL ((fl 4 : Nat) : Int))])), ((ad 21), .inr (3, [.int (eI (ys 0)), .int (eI (yl 0)), .int (eI (yp 0))])), ((ad 22), .inr (3, [.int (eI (ys 1)), .int (eI (yl 1)), .int (eI (yp 1))])), ((ad 23), .inr (3, [.int (eI (ys 2)), .int (eI (yl 2)), .int (eI (yp 2))]))] s.heap := hP
  have hl := lv_entry ([.ref (ad 0), .int (eI y), .int (eI x1), .int (eI x2), .int (eI x3), .int (eI w), .ref ou]) (n := 8) (Nat.le_of_ble_eq_true rfl)
  rw [lg_entry_eq]
  generalize (lg_sl ([.ref (ad 0), .int (eI y), .int (eI x1), .int (eI x2), .int (eI x3), .int (eI w), .ref ou]) ++ List.replicate (8 - (lg_sl ([.ref (ad 0), .int (eI y), .int (eI x1), .int (eI x2), .int (eI x3), .int (eI w), .ref ou])).length) Slot.unset).toArray = ls at hl ⊢
  have hl : lv_has ls 8 [(0, .ref (ad 0)), (1, .int (eI y)), (2, .int (eI x1)), (3, .int (eI x2)), (4, .int (eI x3)), (5, .int (eI w)), (6, .ref ou)] := hl
  refine lv_aload hx hb d_L_station_0 (lv_at hl 6 rfl) ?_
  refine lv_iconst (v := eI 0) hx hb d_L_station_2 rfl ?_
  refine lv_aload_n hx hb d_L_station_3 rfl (lv_at hl 0 rfl) ?_
  refine lv_iload_n hx hb d_L_station_4 rfl (lv_at hl 1 rfl) ?_
  refine lv_iload_n hx hb d_L_station_5 rfl (lv_at hl 2 rfl) ?_
  refine lv_iload_n hx hb d_L_station_6 rfl (lv_at hl 3 rfl) ?_
  refine lv_iload hx hb d_L_station_7 (lv_at hl 4 rfl) ?_
  refine lv_iload hx hb d_L_station_9 (lv_at hl 5 rfl) ?_
  refine eh_cTV1 (As := [.int (eI y), .int (eI x1), .int (eI x2), .int (eI x3), .int (eI w)]) (rest := [.int (eI 0), .ref ou]) (q := (R_E, T_E, 11)) hx hb hml hown htb hN hst (fun _ _ h => h) (va_Nw.use rfl (ew_n_11 hN)) htab (by decide) (by decide) (htb _ tb_324) (t_E_station_IA l D cI cL cZ cS cY ad n sh ra plv pco ln cb la cu cl fu fl ys yl yp y x1 x2 x3 w hy hx1 hx2 hx3 hw hbad hE hl0) 5 ⟨tb_326, tb_327, tb_328, tb_1, kin_E_station⟩ dv_E_station ⟨by rw [hR1]; decide, by rw [hR2]; decide⟩ hK hP 0 rfl rfl [0, 1, 2, 3, 4, 5, 6, 7, 8, 9, 10, 11, 12, 13, 14, 15, 16, 17, 18, 19, 20, 21, 22, 23] rfl [0, 1, 2, 3, 4] rfl rfl rfl hl.1 (Nat.le_of_ble_eq_true rfl) d_L_station_11 ⟨by rw [hR3]; decide, by rw [hR4]; decide⟩ (fun a9 H hz1 hz2 => ?_)
  refine lv_astore hx hb d_L_station_19 hl (by decide) rfl (fun ls hl => ?_)
  have hl : lv_has ls 8 [(7, .ref a9), (0, .ref (ad 0)), (1, .int (eI y)), (2, .int (eI x1)), (3, .int (eI x2)), (4, .int (eI x3)), (5, .int (eI w)), (6, .ref ou)] := hl
  refine lv_iconst (v := eI 1) hx hb d_L_station_21 rfl ?_
  subst hQ
  exact W.iret hx hb hrt (fun t9 ht hW => ⟨rfl, by rw [ht]; exact hz1, by rw [ht]; exact hz2⟩) (fun q h => by cases h) d_L_station_22
set_option maxHeartbeats 1000000 in
set_option maxRecDepth 100000 in
theorem x_L_station_IS (l : Launch) (D : va_G) (cI cL cZ cS cY : ClassId) (ad : Nat → Nat) (n : Nat) (sh ra plv pco : Int) (ln cb la : Nat → Int) (cu cl fu fl : Nat → Nat) (ys yl yp : Nat → Int) (ou : Nat) (y x1 x2 x3 w : Int) (hy : -2147483648 ≤ y ∧ y < 2147483648) (hx1 : -2147483648 ≤ x1 ∧ x1 < 2147483648) (hx2 : -2147483648 ≤ x2 ∧ x2 < 2147483648) (hx3 : -2147483648 ≤ x3 ∧ x3 < 2147483648) (hw : -2147483648 ≤ w ∧ w < 2147483648) (hgood : (((n = 0 ∧ y = 0) ∨ (n ≠ 0 ∧ 1 ≤ y ∧ y ≤ 100)) ∧ (-100 ≤ x1 ∧ x1 ≤ 100) ∧ (-100 ≤ x2 ∧ x2 ≤ 100) ∧ (-100 ≤ x3 ∧ x3 ≤ 100) ∧ 0 ≤ w ∧ (1 ≤ w / 100 ∧ w / 100 ≤ 50) ∧ (1 ≤ w % 100 ∧ w % 100 ≤ 50))) (hfull : n = 5) (hE : eh_ES n sh ra ln cb la cu cl fu fl ys yl yp) (hl0 : l.stackTraces = false) : eh_X l y_L_station k_L_station 7 116 D classes [(cI, .int), (cL, .long), (cZ, .boolean), (cS, .object "EarthHauls$Section"), (cY, .object "EarthHauls$Yard")] [.ref (ad 0), .int (eI y), .int (eI x1), .int (eI x2), .int (eI x3), .int (eI w), .ref ou] [((ad 0), .inr (4, [.ref (ad 1), .ref (ad 2), .ref (ad 3), .ref (ad 4), .ref (ad 5), .ref (ad 24), .int (eI ((n : Nat) : Int)), .int (eI sh), .int (eI ra), .int (eI plv), .long (eL pco)])), ((ad 1), .inl (cS, 5, .inr (.inr (.inr (.inr (eh_o5 (ad 6) (ad 7) (ad 8) (ad 9) (ad 10))))))), ((ad 2), aI cI 4 ln), ((ad 3), aI cZ 3 cb), ((ad 4), .inl (cY, 3, .inr (.inr (.inr (.inr (eh_o3 (ad 21) (ad 22) (ad 23))))))), ((ad 5), aI cI 30 la), ((ad 6), .inr (2, [.ref (ad 11), .ref (ad 16)])), ((ad 7), .inr (2, [.ref (ad 12), .ref (ad 17)])), ((ad 8), .inr (2, [.ref (ad 13), .ref (ad 18)])), ((ad 9), .inr (2, [.ref (ad 14), .ref (ad 19)])), ((ad 10), .inr (2, [.ref (ad 15), .ref (ad 20)])), ((ad 11), .inr (0, [.long (eL ((cu 0 : Nat) : Int)), .long (eL ((cl 0 : Nat) : Int))])), ((ad 12), .inr (0, [.long (eL ((cu 1 : Nat) : Int)), .long (eL ((cl 1 : Nat) : Int))])), ((ad 13), .inr (0, [.long (eL ((cu 2 : Nat) : Int)), .long (eL ((cl 2 : Nat) : Int))])), ((ad 14), .inr (0, [.long (eL ((cu 3 : Nat) : Int)), .long (eL ((cl 3 : Nat) : Int))])), ((ad 15), .inr (0, [.long (eL ((cu 4 : Nat) : Int)), .long (eL ((cl 4 : Nat) : Int))])), ((ad 16), .inr (0, [.long (eL ((fu 0 : Nat) : Int)), .long (eL ((fl 0 : Nat) : Int))])), ((ad 17), .inr (0, [.long (eL ((fu 1 : Nat) : Int)), .long (eL ((fl 1 : Nat) : Int))])), ((ad 18), .inr (0, [.long (eL ((fu 2 : Nat) : Int)), .long (eL ((fl 2 : Nat) : Int))])), ((ad 19), .inr (0, [.long (eL ((fu 3 : Nat) : Int)), .long (eL ((fl 3 : Nat) : Int))])), ((ad 20), .inr (0, [.long (eL ((fu 4 : Nat) : Int)), .long (eL ((fl 4 : Nat) : Int))])), ((ad 21), .inr (3, [.int (eI (ys 0)), .int (eI (yl 0)), .int (eI (yp 0))])), ((ad 22), .inr (3, [.int (eI (ys 1)), .int (eI (yl 1)), .int (eI (yp 1))])), ((ad 23), .inr (3, [.int (eI (ys 2)), .int (eI (yl 2)), .int (eI (yp 2))]))] 2 := by
  refine eh_ofWL (cc := c_L_station) (maxL := 8) (ret := some .int) (hs := h_L_station) (by decide) rfl ?_
  intro p e s m args below meth c s₁ B hml htb0 hv
  obtain ⟨hargs, hP, hK, hN, hst, hap⟩ := hv
  have hx := B.exec
  have hb := B.bytes
  have hrt := B.returns
  have hts := atoms_spec (ws := k_L_station :: ew_t) B.pre
  have htb : ∀ w ∈ ew_t, w.before args s = true := fun w h => hts w (List.mem_cons_of_mem _ h)
  have hown : s.vm.findClass "EarthHaulsLaw" = some m.cls := findClass_of_methodNamed B.named
  have hlocks := B.notSynchronized
  have htab := eh_tab2 htb0
  have hE9 : entryFrame m args 8 = entryFrame m ([.ref (ad 0), .int (eI y), .int (eI x1), .int (eI x2), .int (eI x3), .int (eI w), .ref ou] : List Value).toArray 8 := by rw [hargs]
  rw [hE9]
  clear hE9 hts B hargs htb0
  generalize hRe : (headSpec _ _).room = R
  have hR1 : R.frames = 7 := by rw [← hRe]; rfl
  have hR2 : R.locals = 116 := by rw [← hRe]; rfl
  have hR3 : R.cells = 1 := by rw [← hRe]; rfl
  have hR4 : R.slots = 6 := by rw [← hRe]; rfl
  clear hRe
  generalize hQ : MQ below _ _ s 1 6 _ = Q
  have hP : va_P D classes [((ad 0), .inr (4, [.ref (ad 1), .ref (ad 2), .ref (ad 3), .ref (ad 4), .ref (ad 5), .ref (ad 24), .int (eI ((n : Nat) : Int)), .int (eI sh), .int (eI ra), .int (eI plv), .long (eL pco)])), ((ad 1), .inl (cS, 5, .inr (.inr (.inr (.inr (eh_o5 (ad 6) (ad 7) (ad 8) (ad 9) (ad 10))))))), ((ad 2), aI cI 4 ln), ((ad 3), aI cZ 3 cb), ((ad 4), .inl (cY, 3, .inr (.inr (.inr (.inr (eh_o3 (ad 21) (ad 22) (ad 23))))))), ((ad 5), aI cI 30 la), ((ad 6), .inr (2, [.ref (ad 11), .ref (ad 16)])), ((ad 7), .inr (2, [.ref (ad 12), .ref (ad 17)])), ((ad 8), .inr (2, [.ref (ad 13), .ref (ad 18)])), ((ad 9), .inr (2, [.ref (ad 14), .ref (ad 19)])), ((ad 10), .inr (2, [.ref (ad 15), .ref (ad 20)])), ((ad 11), .inr (0, [.long (eL ((cu 0 : Nat) : Int)), .long (eL ((cl 0 : Nat) : Int))])), ((ad 12), .inr (0, [.long (eL ((cu 1 : Nat) : Int)), .long (eL ((cl 1 : Nat) : Int))])), ((ad 13), .inr (0, [.long (eL ((cu 2 : Nat) : Int)), .long (eL ((cl 2 : Nat) : Int))])), ((ad 14), .inr (0, [.long (eL ((cu 3 : Nat) : Int)), .long (eL ((cl 3 : Nat) : Int))])), ((ad 15), .inr (0, [.long (eL ((cu 4 : Nat) : Int)), .long (eL ((cl 4 : Nat) : Int))])), ((ad 16), .inr (0, [.long (eL ((fu 0 : Nat) : Int)), .long (eL ((fl 0 : Nat) : Int))])), ((ad 17), .inr (0, [.long (eL ((fu 1 : Nat) : Int)), .long (eL ((fl 1 : Nat) : Int))])), ((ad 18), .inr (0, [.long (eL ((fu 2 : Nat) : Int)), .long (eL ((fl 2 : Nat) : Int))])), ((ad 19), .inr (0, [.long (eL ((fu 3 : Nat) : Int)), .long (eL ((fl 3 : Nat) : Int))])), ((ad 20), .inr (0, [.long (eL ((fu 4 : Nat) : Int)), .long (eL ((fl 4 : Nat) : Int))])), ((ad 21), .inr (3, [.int (eI (ys 0)), .int (eI (yl 0)), .int (eI (yp 0))])), ((ad 22), .inr (3, [.int (eI (ys 1)), .int (eI (yl 1)), .int (eI (yp 1))])), ((ad 23), .inr (3, [.int (eI (ys 2)), .int (eI (yl 2)), .int (eI (yp 2))]))] s.heap := hP
  have hl := lv_entry ([.ref (ad 0), .int (eI y), .int (eI x1), .int (eI x2), .int (eI x3), .int (eI w), .ref ou]) (n := 8) (Nat.le_of_ble_eq_true rfl)
  rw [lg_entry_eq]
  generalize (lg_sl ([.ref (ad 0), .int (eI y), .int (eI x1), .int (eI x2), .int (eI x3), .int (eI w), .ref ou]) ++ List.replicate (8 - (lg_sl ([.ref (ad 0), .int (eI y), .int (eI x1), .int (eI x2), .int (eI x3), .int (eI w), .ref ou])).length) Slot.unset).toArray = ls at hl ⊢
  have hl : lv_has ls 8 [(0, .ref (ad 0)), (1, .int (eI y)), (2, .int (eI x1)), (3, .int (eI x2)), (4, .int (eI x3)), (5, .int (eI w)), (6, .ref ou)] := hl
  refine lv_aload hx hb d_L_station_0 (lv_at hl 6 rfl) ?_
  refine lv_iconst (v := eI 0) hx hb d_L_station_2 rfl ?_
  refine lv_aload_n hx hb d_L_station_3 rfl (lv_at hl 0 rfl) ?_
  refine lv_iload_n hx hb d_L_station_4 rfl (lv_at hl 1 rfl) ?_
  refine lv_iload_n hx hb d_L_station_5 rfl (lv_at hl 2 rfl) ?_
  refine lv_iload_n hx hb d_L_station_6 rfl (lv_at hl 3 rfl) ?_
  refine lv_iload hx hb d_L_station_7 (lv_at hl 4 rfl) ?_
  refine lv_iload hx hb d_L_station_9 (lv_at hl 5 rfl) ?_
  refine eh_cTV2 (nm := eh_IA) (As := [.int (eI y), .int (eI x1), .int (eI x2), .int (eI x3), .int (eI w)]) (rest := [.int (eI 0), .ref ou]) (q := (R_E, T_E, 11)) hx hb hml hown htb hN hst (fun _ _ h => h) (va_Nw.use rfl (ew_n_12 hN)) htab (by decide) (by decide) (htb _ tb_324) hap.1 (by decide) (by decide) (htb _ tb_325) (t_E_station_IS l D cI cL cZ cS cY ad n sh ra plv pco ln cb la cu cl fu fl ys yl yp y x1 x2 x3 w hy hx1 hx2 hx3 hw hgood hfull hE hl0) 5 ⟨tb_326, tb_327, tb_328, tb_1, kin_E_station⟩ dv_E_station ⟨by rw [hR1]; decide, by rw [hR2]; decide⟩ hK hP 0 rfl rfl [0, 1, 2, 3, 4, 5, 6, 7, 8, 9, 10, 11, 12, 13, 14, 15, 16, 17, 18, 19, 20, 21, 22, 23] rfl [0, 1, 2, 3, 4] rfl rfl rfl hl.1 (Nat.le_of_ble_eq_true rfl) d_L_station_11 ⟨by rw [hR3]; decide, by rw [hR4]; decide⟩ (fun a9 H hz1 hz2 => ?_)
  refine lv_astore hx hb d_L_station_23 hl (by decide) rfl (fun ls hl => ?_)
  have hl : lv_has ls 8 [(7, .ref a9), (0, .ref (ad 0)), (1, .int (eI y)), (2, .int (eI x1)), (3, .int (eI x2)), (4, .int (eI x3)), (5, .int (eI w)), (6, .ref ou)] := hl
  refine lv_iconst (v := eI 2) hx hb d_L_station_25 rfl ?_
  subst hQ
  exact W.iret hx hb hrt (fun t9 ht hW => ⟨rfl, by rw [ht]; exact hz1, by rw [ht]; exact hz2⟩) (fun q h => by cases h) d_L_station_26
abbrev c_L_set : ByteArray := method_4_code
def y_L_set : MethodName := ⟨"EarthHaulsLaw", "set", "(LEarthHauls;II)I"⟩
abbrev h_L_set : List (Nat × Nat × Nat × Nat) := [(0, 6, 9, 13)]
abbrev k_L_set : Cond := .codeWith y_L_set c_L_set 4 (some .int) h_L_set
theorem kin_L_set : k_L_set ∈ ew_t := tb_440
theorem dv_L_set : eh_dS y_L_set 3 := ⟨by decide, by decide, by decide +kernel⟩
theorem d_L_set_0 : decode c_L_set 0 = .ok (.aload_n 0, 1) := by decide +kernel
theorem d_L_set_1 : decode c_L_set 1 = .ok (.iload_n 1, 1) := by decide +kernel
theorem d_L_set_2 : decode c_L_set 2 = .ok (.iload_n 2, 1) := by decide +kernel
theorem d_L_set_3 : decode c_L_set 3 = .ok (.invokevirtual 17, 3) := by decide +kernel
theorem d_L_set_6 : decode c_L_set 6 = .ok (.goto 6, 3) := by decide +kernel
theorem d_L_set_9 : decode c_L_set 9 = .ok (.astore_n 3, 1) := by decide +kernel
theorem d_L_set_10 : decode c_L_set 10 = .ok (.iconst 1, 1) := by decide +kernel
theorem d_L_set_11 : decode c_L_set 11 = .ok (.ireturn, 1) := by decide +kernel
theorem d_L_set_12 : decode c_L_set 12 = .ok (.iconst 0, 1) := by decide +kernel
theorem d_L_set_13 : decode c_L_set 13 = .ok (.ireturn, 1) := by decide +kernel
set_option maxHeartbeats 1000000 in
set_option maxRecDepth 100000 in
theorem x_L_set_IA (l : Launch) (D : va_G) (cI cL cZ cS cY : ClassId) (ad : Nat → Nat) (n : Nat) (sh ra plv pco : Int) (ln cb la : Nat → Int) (cu cl fu fl : Nat → Nat) (ys yl yp : Nat → Int) (ou : Nat) (y z : Int) (hy : -2147483648 ≤ y ∧ y < 2147483648) (hz : -2147483648 ≤ z ∧ z < 2147483648) (hbad : ¬ (y = 0 ∧ 500 ≤ z ∧ z ≤ 1000) ∧ ¬ (y = 1 ∧ 0 ≤ z ∧ z ≤ 100)) (hE : eh_ES n sh ra ln cb la cu cl fu fl ys yl yp) (hl0 : l.stackTraces = false) : eh_X l y_L_set k_L_set 7 111 D classes [(cI, .int), (cL, .long), (cZ, .boolean), (cS, .object "EarthHauls$Section"), (cY, .object "EarthHauls$Yard")] [.ref (ad 0), .int (eI y), .int (eI z)] [((ad 0), .inr (4, [.ref (ad 1), .ref (ad 2), .ref (ad 3), .ref (ad 4), .ref (ad 5), .ref (ad 24), .int (eI ((n : Nat) : Int)), .int (eI sh), .int (eI ra), .int (eI plv), .long (eL pco)])), ((ad 1), .inl (cS, 5, .inr (.inr (.inr (.inr (eh_o5 (ad 6) (ad 7) (ad 8) (ad 9) (ad 10))))))), ((ad 2), aI cI 4 ln), ((ad 3), aI cZ 3 cb), ((ad 4), .inl (cY, 3, .inr (.inr (.inr (.inr (eh_o3 (ad 21) (ad 22) (ad 23))))))), ((ad 5), aI cI 30 la), ((ad 6), .inr (2, [.ref (ad 11), .ref (ad 16)])), ((ad 7), .inr (2, [.ref (ad 12), .ref (ad 17)])), ((ad 8), .inr (2, [.ref (ad 13), .ref (ad 18)])), ((ad 9), .inr (2, [.ref (ad 14), .ref (ad 19)])), ((ad 10), .inr (2, [.ref (ad 15), .ref (ad 20)])), ((ad 11), .inr (0, [.long (eL ((cu 0 : Nat) : Int)), .long (eL ((cl 0 : Nat) : Int))])), ((ad 12), .inr (0, [.long (eL ((cu 1 : Nat) : Int)), .long (eL ((cl 1 : Nat) : Int))])), ((ad 13), .inr (0, [.long (eL ((cu 2 : Nat) : Int)), .long (eL ((cl 2 : Nat) : Int))])), ((ad 14), .inr (0, [.long (eL ((cu 3 : Nat) : Int)), .long (eL ((cl 3 : Nat) : Int))])), ((ad 15), .inr (0, [.long (eL ((cu 4 : Nat) : Int)), .long (eL ((cl 4 : Nat) : Int))])), ((ad 16), .inr (0, [.long (eL ((fu 0 : Nat) : Int)), .long (eL ((fl 0 : Nat) : Int))])), ((ad 17), .inr (0, [.long (eL ((fu 1 : Nat) : Int)), .long (eL ((fl 1 : Nat) : Int))])), ((ad 18), .inr (0, [.long (eL ((fu 2 : Nat) : Int)), .long (eL ((fl 2 : Nat) : Int))])), ((ad 19), .inr (0, [.long (eL ((fu 3 : Nat) : Int)), .long (eL ((fl 3 : Nat) : Int))])), ((ad 20), .inr (0, [.long (eL ((fu 4 : Nat) : Int)), .long (eL ((fl 4 : Nat) : Int))])), ((ad 21), .inr (3, [.int (eI (ys 0)), .int (eI (yl 0)), .int (eI (yp 0))])), ((ad 22), .inr (3, [.int (eI (ys 1)), .int (eI (yl 1)), .int (eI (yp 1))])), ((ad 23), .inr (3, [.int (eI (ys 2)), .int (eI (yl 2)), .int (eI (yp 2))]))] 1 := by
  refine eh_ofWL (cc := c_L_set) (maxL := 4) (ret := some .int) (hs := h_L_set) (by decide) rfl ?_
  intro p e s m args below meth c s₁ B hml htb0 hv
  obtain ⟨hargs, hP, hK, hN, hst, hap⟩ := hv
  have hx := B.exec
  have hb := B.bytes
  have hrt := B.returns
  have hts := atoms_spec (ws := k_L_set :: ew_t) B.pre
  have htb : ∀ w ∈ ew_t, w.before args s = true := fun w h => hts w (List.mem_cons_of_mem _ h)
  have hown : s.vm.findClass "EarthHaulsLaw" = some m.cls := findClass_of_methodNamed B.named
  have hlocks := B.notSynchronized
  have htab := eh_tab1 htb0
  have hE9 : entryFrame m args 4 = entryFrame m ([.ref (ad 0), .int (eI y), .int (eI z)] : List Value).toArray 4 := by rw [hargs]
  rw [hE9]
  clear hE9 hts B hargs htb0
  generalize hRe : (headSpec _ _).room = R
  have hR1 : R.frames = 7 := by rw [← hRe]; rfl
  have hR2 : R.locals = 111 := by rw [← hRe]; rfl
  have hR3 : R.cells = 1 := by rw [← hRe]; rfl
  have hR4 : R.slots = 6 := by rw [← hRe]; rfl
  clear hRe
  generalize hQ : MQ below _ _ s 1 6 _ = Q
  have hP : va_P D classes [((ad 0), .inr (4, [.ref (ad 1), .ref (ad 2), .ref (ad 3), .ref (ad 4), .ref (ad 5), .ref (ad 24), .int (eI ((n : Nat) : Int)), .int (eI sh), .int (eI ra), .int (eI plv), .long (eL pco)])), ((ad 1), .inl (cS, 5, .inr (.inr (.inr (.inr (eh_o5 (ad 6) (ad 7) (ad 8) (ad 9) (ad 10))))))), ((ad 2), aI cI 4 ln), ((ad 3), aI cZ 3 cb), ((ad 4), .inl (cY, 3, .inr (.inr (.inr (.inr (eh_o3 (ad 21) (ad 22) (ad 23))))))), ((ad 5), aI cI 30 la), ((ad 6), .inr (2, [.ref (ad 11), .ref (ad 16)])), ((ad 7), .inr (2, [.ref (ad 12), .ref (ad 17)])), ((ad 8), .inr (2, [.ref (ad 13), .ref (ad 18)])), ((ad 9), .inr (2, [.ref (ad 14), .ref (ad 19)])), ((ad 10), .inr (2, [.ref (ad 15), .ref (ad 20)])), ((ad 11), .inr (0, [.long (eL ((cu 0 : Nat) : Int)), .long (eL ((cl 0 : Nat) : Int))])), ((ad 12), .inr (0, [.long (eL ((cu 1 : Nat) : Int)), .long (eL ((cl 1 : Nat) : Int))])), ((ad 13), .inr (0, [.long (eL ((cu 2 : Nat) : Int)), .long (eL ((cl 2 : Nat) : Int))])), ((ad 14), .inr (0, [.long (eL ((cu 3 : Nat) : Int)), .long (eL ((cl 3 : Nat) : Int))])), ((ad 15), .inr (0, [.long (eL ((cu 4 : Nat) : Int)), .long (eL ((cl 4 : Nat) : Int))])), ((ad 16), .inr (0, [.long (eL ((fu 0 : Nat) : Int)), .long (eL ((fl 0 : Nat) : Int))])), ((ad 17), .inr (0, [.long (eL ((fu 1 : Nat) : Int)), .long (eL ((fl 1 : Nat) : Int))])), ((ad 18), .inr (0, [.long (eL ((fu 2 : Nat) : Int)), .long (eL ((fl 2 : Nat) : Int))])), ((ad 19), .inr (0, [.long (eL ((fu 3 : Nat) : Int)), .long (eL ((fl 3 : Nat) : Int))])), ((ad 20), .inr (0, [.long (eL ((fu 4 : Nat) : Int)), .long (eL ((fl 4 : Nat) : Int))])), ((ad 21), .inr (3, [.int (eI (ys 0)), .int (eI (yl 0)), .int (eI (yp 0))])), ((ad 22), .inr (3, [.int (eI (ys 1)), .int (eI (yl 1)), .int (eI (yp 1))])), ((ad 23), .inr (3, [.int (eI (ys 2)), .int (eI (yl 2)), .int (eI (yp 2))]))] s.heap := hP
  have hl := lv_entry ([.ref (ad 0), .int (eI y), .int (eI z)]) (n := 4) (Nat.le_of_ble_eq_true rfl)
  rw [lg_entry_eq]
  generalize (lg_sl ([.ref (ad 0), .int (eI y), .int (eI z)]) ++ List.replicate (4 - (lg_sl ([.ref (ad 0), .int (eI y), .int (eI z)])).length) Slot.unset).toArray = ls at hl ⊢
  have hl : lv_has ls 4 [(0, .ref (ad 0)), (1, .int (eI y)), (2, .int (eI z))] := hl
  refine lv_aload_n hx hb d_L_set_0 rfl (lv_at hl 0 rfl) ?_
  refine lv_iload_n hx hb d_L_set_1 rfl (lv_at hl 1 rfl) ?_
  refine lv_iload_n hx hb d_L_set_2 rfl (lv_at hl 2 rfl) ?_
  refine eh_cTV1 (As := [.int (eI y), .int (eI z)]) (rest := []) (q := (R_E, T_E, 11)) hx hb hml hown htb hN hst (fun _ _ h => h) (va_Nw.use rfl (ew_n_11 hN)) htab (by decide) (by decide) (htb _ tb_324) (t_E_set_IA l D cI cL cZ cS cY ad n sh ra plv pco ln cb la cu cl fu fl ys yl yp y z hy hz hbad hE hl0) 2 ⟨tb_441, tb_442, tb_443, tb_1, kin_E_set⟩ dv_E_set ⟨by rw [hR1]; decide, by rw [hR2]; decide⟩ hK hP 0 rfl rfl [0, 1, 2, 3, 4, 5, 6, 7, 8, 9, 10, 11, 12, 13, 14, 15, 16, 17, 18, 19, 20, 21, 22, 23] rfl [0, 1, 2, 3, 4] rfl rfl rfl hl.1 (Nat.le_of_ble_eq_true rfl) d_L_set_3 ⟨by rw [hR3]; decide, by rw [hR4]; decide⟩ (fun a9 H hz1 hz2 => ?_)
  refine lv_astore_n hx hb d_L_set_9 rfl hl (by decide) rfl (fun ls hl => ?_)
  have hl : lv_has ls 4 [(3, .ref a9), (0, .ref (ad 0)), (1, .int (eI y)), (2, .int (eI z))] := hl
  refine lv_iconst (v := eI 1) hx hb d_L_set_10 rfl ?_
  subst hQ
  exact W.iret hx hb hrt (fun t9 ht hW => ⟨rfl, by rw [ht]; exact hz1, by rw [ht]; exact hz2⟩) (fun q h => by cases h) d_L_set_11
abbrev c_L_border : ByteArray := method_5_code
def y_L_border : MethodName := ⟨"EarthHaulsLaw", "border", "(LEarthHauls;IZ)I"⟩
abbrev h_L_border : List (Nat × Nat × Nat × Nat) := [(0, 6, 9, 25), (0, 6, 12, 15)]
abbrev k_L_border : Cond := .codeWith y_L_border c_L_border 4 (some .int) h_L_border
theorem kin_L_border : k_L_border ∈ ew_t := tb_447
theorem dv_L_border : eh_dS y_L_border 3 := ⟨by decide, by decide, by decide +kernel⟩
theorem d_L_border_0 : decode c_L_border 0 = .ok (.aload_n 0, 1) := by decide +kernel
theorem d_L_border_1 : decode c_L_border 1 = .ok (.iload_n 1, 1) := by decide +kernel
theorem d_L_border_2 : decode c_L_border 2 = .ok (.iload_n 2, 1) := by decide +kernel
theorem d_L_border_3 : decode c_L_border 3 = .ok (.invokevirtual 21, 3) := by decide +kernel
theorem d_L_border_6 : decode c_L_border 6 = .ok (.goto 9, 3) := by decide +kernel
theorem d_L_border_9 : decode c_L_border 9 = .ok (.astore_n 3, 1) := by decide +kernel
theorem d_L_border_10 : decode c_L_border 10 = .ok (.iconst 1, 1) := by decide +kernel
theorem d_L_border_11 : decode c_L_border 11 = .ok (.ireturn, 1) := by decide +kernel
theorem d_L_border_12 : decode c_L_border 12 = .ok (.astore_n 3, 1) := by decide +kernel
theorem d_L_border_13 : decode c_L_border 13 = .ok (.iconst 2, 1) := by decide +kernel
theorem d_L_border_14 : decode c_L_border 14 = .ok (.ireturn, 1) := by decide +kernel
theorem d_L_border_15 : decode c_L_border 15 = .ok (.iconst 0, 1) := by decide +kernel
theorem d_L_border_16 : decode c_L_border 16 = .ok (.ireturn, 1) := by decide +kernel
set_option maxHeartbeats 1000000 in
set_option maxRecDepth 100000 in
theorem x_L_border_IB_1 (l : Launch) (D : va_G) (cI cL cZ cS cY : ClassId) (ad : Nat → Nat) (n : Nat) (sh ra plv pco : Int) (ln cb la : Nat → Int) (cu cl fu fl : Nat → Nat) (ys yl yp : Nat → Int) (ou : Nat) (y : Int) (hy : -2147483648 ≤ y ∧ y < 2147483648) (hbad : y < 0 ∨ (n : Int) ≤ y + 2) (hE : eh_ES n sh ra ln cb la cu cl fu fl ys yl yp) (hl0 : l.stackTraces = false) : eh_X l y_L_border k_L_border 7 111 D classes [(cI, .int), (cL, .long), (cZ, .boolean), (cS, .object "EarthHauls$Section"), (cY, .object "EarthHauls$Yard")] [.ref (ad 0), .int (eI y), .int (eI 1)] [((ad 0), .inr (4, [.ref (ad 1), .ref (ad 2), .ref (ad 3), .ref (ad 4), .ref (ad 5), .ref (ad 24), .int (eI ((n : Nat) : Int)), .int (eI sh), .int (eI ra), .int (eI plv), .long (eL pco)])), ((ad 1), .inl (cS, 5, .inr (.inr (.inr (.inr (eh_o5 (ad 6) (ad 7) (ad 8) (ad 9) (ad 10))))))), ((ad 2), aI cI 4 ln), ((ad 3), aI cZ 3 cb), ((ad 4), .inl (cY, 3, .inr (.inr (.inr (.inr (eh_o3 (ad 21) (ad 22) (ad 23))))))), ((ad 5), aI cI 30 la), ((ad 6), .inr (2, [.ref (ad 11), .ref (ad 16)])), ((ad 7), .inr (2, [.ref (ad 12), .ref (ad 17)])), ((ad 8), .inr (2, [.ref (ad 13), .ref (ad 18)])), ((ad 9), .inr (2, [.ref (ad 14), .ref (ad 19)])), ((ad 10), .inr (2, [.ref (ad 15), .ref (ad 20)])), ((ad 11), .inr (0, [.long (eL ((cu 0 : Nat) : Int)), .long (eL ((cl 0 : Nat) : Int))])), ((ad 12), .inr (0, [.long (eL ((cu 1 : Nat) : Int)), .long (eL ((cl 1 : Nat) : Int))])), ((ad 13), .inr (0, [.long (eL ((cu 2 : Nat) : Int)), .long (eL ((cl 2 : Nat) : Int))])), ((ad 14), .inr (0, [.long (eL ((cu 3 : Nat) : Int)), .long (eL ((cl 3 : Nat) : Int))])), ((ad 15), .inr (0, [.long (eL ((cu 4 : Nat) : Int)), .long (eL ((cl 4 : Nat) : Int))])), ((ad 16), .inr (0, [.long (eL ((fu 0 : Nat) : Int)), .long (eL ((fl 0 : Nat) : Int))])), ((ad 17), .inr (0, [.long (eL ((fu 1 : Nat) : Int)), .long (eL ((fl 1 : Nat) : Int))])), ((ad 18), .inr (0, [.long (eL ((fu 2 : Nat) : Int)), .long (eL ((fl 2 : Nat) : Int))])), ((ad 19), .inr (0, [.long (eL ((fu 3 : Nat) : Int)), .long (eL ((fl 3 : Nat) : Int))])), ((ad 20), .inr (0, [.long (eL ((fu 4 : Nat) : Int)), .long (eL ((fl 4 : Nat) : Int))])), ((ad 21), .inr (3, [.int (eI (ys 0)), .int (eI (yl 0)), .int (eI (yp 0))])), ((ad 22), .inr (3, [.int (eI (ys 1)), .int (eI (yl 1)), .int (eI (yp 1))])), ((ad 23), .inr (3, [.int (eI (ys 2)), .int (eI (yl 2)), .int (eI (yp 2))]))] 1 := by
  refine eh_ofWL (cc := c_L_border) (maxL := 4) (ret := some .int) (hs := h_L_border) (by decide) rfl ?_
  intro p e s m args below meth c s₁ B hml htb0 hv
  obtain ⟨hargs, hP, hK, hN, hst, hap⟩ := hv
  have hx := B.exec
  have hb := B.bytes
  have hrt := B.returns
  have hts := atoms_spec (ws := k_L_border :: ew_t) B.pre
  have htb : ∀ w ∈ ew_t, w.before args s = true := fun w h => hts w (List.mem_cons_of_mem _ h)
  have hown : s.vm.findClass "EarthHaulsLaw" = some m.cls := findClass_of_methodNamed B.named
  have hlocks := B.notSynchronized
  have htab := eh_tab2 htb0
  have hE9 : entryFrame m args 4 = entryFrame m ([.ref (ad 0), .int (eI y), .int (eI 1)] : List Value).toArray 4 := by rw [hargs]
  rw [hE9]
  clear hE9 hts B hargs htb0
  generalize hRe : (headSpec _ _).room = R
  have hR1 : R.frames = 7 := by rw [← hRe]; rfl
  have hR2 : R.locals = 111 := by rw [← hRe]; rfl
  have hR3 : R.cells = 1 := by rw [← hRe]; rfl
  have hR4 : R.slots = 6 := by rw [← hRe]; rfl
  clear hRe
  generalize hQ : MQ below _ _ s 1 6 _ = Q
  have hP : va_P D classes [((ad 0), .inr (4, [.ref (ad 1), .ref (ad 2), .ref (ad 3), .ref (ad 4), .ref (ad 5), .ref (ad 24), .int (eI ((n : Nat) : Int)), .int (eI sh), .int (eI ra), .int (eI plv), .long (eL pco)])), ((ad 1), .inl (cS, 5, .inr (.inr (.inr (.inr (eh_o5 (ad 6) (ad 7) (ad 8) (ad 9) (ad 10))))))), ((ad 2), aI cI 4 ln), ((ad 3), aI cZ 3 cb), ((ad 4), .inl (cY, 3, .inr (.inr (.inr (.inr (eh_o3 (ad 21) (ad 22) (ad 23))))))), ((ad 5), aI cI 30 la), ((ad 6), .inr (2, [.ref (ad 11), .ref (ad 16)])), ((ad 7), .inr (2, [.ref (ad 12), .ref (ad 17)])), ((ad 8), .inr (2, [.ref (ad 13), .ref (ad 18)])), ((ad 9), .inr (2, [.ref (ad 14), .ref (ad 19)])), ((ad 10), .inr (2, [.ref (ad 15), .ref (ad 20)])), ((ad 11), .inr (0, [.long (eL ((cu 0 : Nat) : Int)), .long (eL ((cl 0 : Nat) : Int))])), ((ad 12), .inr (0, [.long (eL ((cu 1 : Nat) : Int)), .long (eL ((cl 1 : Nat) : Int))])), ((ad 13), .inr (0, [.long (eL ((cu 2 : Nat) : Int)), .long (eL ((cl 2 : Nat) : Int))])), ((ad 14), .inr (0, [.long (eL ((cu 3 : Nat) : Int)), .long (eL ((cl 3 : Nat) : Int))])), ((ad 15), .inr (0, [.long (eL ((cu 4 : Nat) : Int)), .long (eL ((cl 4 : Nat) : Int))])), ((ad 16), .inr (0, [.long (eL ((fu 0 : Nat) : Int)), .long (eL ((fl 0 : Nat) : Int))])), ((ad 17), .inr (0, [.long (eL ((fu 1 : Nat) : Int)), .long (eL ((fl 1 : Nat) : Int))])), ((ad 18), .inr (0, [.long (eL ((fu 2 : Nat) : Int)), .long (eL ((fl 2 : Nat) : Int))])), ((ad 19), .inr (0, [.long (eL ((fu 3 : Nat) : Int)), .long (eL ((fl 3 : Nat) : Int))])), ((ad 20), .inr (0, [.long (eL ((fu 4 : Nat) : Int)), .long (eL ((fl 4 : Nat) : Int))])), ((ad 21), .inr (3, [.int (eI (ys 0)), .int (eI (yl 0)), .int (eI (yp 0))])), ((ad 22), .inr (3, [.int (eI (ys 1)), .int (eI (yl 1)), .int (eI (yp 1))])), ((ad 23), .inr (3, [.int (eI (ys 2)), .int (eI (yl 2)), .int (eI (yp 2))]))] s.heap := hP
  have hl := lv_entry ([.ref (ad 0), .int (eI y), .int (eI 1)]) (n := 4) (Nat.le_of_ble_eq_true rfl)
  rw [lg_entry_eq]
  generalize (lg_sl ([.ref (ad 0), .int (eI y), .int (eI 1)]) ++ List.replicate (4 - (lg_sl ([.ref (ad 0), .int (eI y), .int (eI 1)])).length) Slot.unset).toArray = ls at hl ⊢
  have hl : lv_has ls 4 [(0, .ref (ad 0)), (1, .int (eI y)), (2, .int (eI 1))] := hl
  refine lv_aload_n hx hb d_L_border_0 rfl (lv_at hl 0 rfl) ?_
  refine lv_iload_n hx hb d_L_border_1 rfl (lv_at hl 1 rfl) ?_
  refine lv_iload_n hx hb d_L_border_2 rfl (lv_at hl 2 rfl) ?_
  refine eh_cTV1 (As := [.int (eI y), .int (eI 1)]) (rest := []) (q := (R_E, T_E, 11)) hx hb hml hown htb hN hst (fun _ _ h => h) (va_Nw.use rfl (ew_n_13 hN)) htab (by decide) (by decide) (htb _ tb_448) (t_E_border_IB_1 l D cI cL cZ cS cY ad n sh ra plv pco ln cb la cu cl fu fl ys yl yp y hy hbad hE hl0) 2 ⟨tb_449, tb_450, tb_451, tb_1, kin_E_border⟩ dv_E_border ⟨by rw [hR1]; decide, by rw [hR2]; decide⟩ hK hP 0 rfl rfl [0, 1, 2, 3, 4, 5, 6, 7, 8, 9, 10, 11, 12, 13, 14, 15, 16, 17, 18, 19, 20, 21, 22, 23] rfl [0, 1, 2, 3, 4] rfl rfl rfl hl.1 (Nat.le_of_ble_eq_true rfl) d_L_border_3 ⟨by rw [hR3]; decide, by rw [hR4]; decide⟩ (fun a9 H hz1 hz2 => ?_)
  refine lv_astore_n hx hb d_L_border_9 rfl hl (by decide) rfl (fun ls hl => ?_)
  have hl : lv_has ls 4 [(3, .ref a9), (0, .ref (ad 0)), (1, .int (eI y)), (2, .int (eI 1))] := hl
  refine lv_iconst (v := eI 1) hx hb d_L_border_10 rfl ?_
  subst hQ
  exact W.iret hx hb hrt (fun t9 ht hW => ⟨rfl, by rw [ht]; exact hz1, by rw [ht]; exact hz2⟩) (fun q h => by cases h) d_L_border_11
set_option maxHeartbeats 1000000 in
set_option maxRecDepth 100000 in
theorem x_L_border_IS_1 (l : Launch) (D : va_G) (cI cL cZ cS cY : ClassId) (ad : Nat → Nat) (n : Nat) (sh ra plv pco : Int) (ln cb la : Nat → Int) (cu cl fu fl : Nat → Nat) (ys yl yp : Nat → Int) (ou : Nat) (y : Int) (hy : -2147483648 ≤ y ∧ y < 2147483648) (hgood : ¬ (y < 0 ∨ (n : Int) ≤ y + 2)) (hsame : cb y.toNat = 1) (hE : eh_ES n sh ra ln cb la cu cl fu fl ys yl yp) (hl0 : l.stackTraces = false) : eh_X l y_L_border k_L_border 7 111 D classes [(cI, .int), (cL, .long), (cZ, .boolean), (cS, .object "EarthHauls$Section"), (cY, .object "EarthHauls$Yard")] [.ref (ad 0), .int (eI y), .int (eI 1)] [((ad 0), .inr (4, [.ref (ad 1), .ref (ad 2), .ref (ad 3), .ref (ad 4), .ref (ad 5), .ref (ad 24), .int (eI ((n : Nat) : Int)), .int (eI sh), .int (eI ra), .int (eI plv), .long (eL pco)])), ((ad 1), .inl (cS, 5, .inr (.inr (.inr (.inr (eh_o5 (ad 6) (ad 7) (ad 8) (ad 9) (ad 10))))))), ((ad 2), aI cI 4 ln), ((ad 3), aI cZ 3 cb), ((ad 4), .inl (cY, 3, .inr (.inr (.inr (.inr (eh_o3 (ad 21) (ad 22) (ad 23))))))), ((ad 5), aI cI 30 la), ((ad 6), .inr (2, [.ref (ad 11), .ref (ad 16)])), ((ad 7), .inr (2, [.ref (ad 12), .ref (ad 17)])), ((ad 8), .inr (2, [.ref (ad 13), .ref (ad 18)])), ((ad 9), .inr (2, [.ref (ad 14), .ref (ad 19)])), ((ad 10), .inr (2, [.ref (ad 15), .ref (ad 20)])), ((ad 11), .inr (0, [.long (eL ((cu 0 : Nat) : Int)), .long (eL ((cl 0 : Nat) : Int))])), ((ad 12), .inr (0, [.long (eL ((cu 1 : Nat) : Int)), .long (eL ((cl 1 : Nat) : Int))])), ((ad 13), .inr (0, [.long (eL ((cu 2 : Nat) : Int)), .long (eL ((cl 2 : Nat) : Int))])), ((ad 14), .inr (0, [.long (eL ((cu 3 : Nat) : Int)), .long (eL ((cl 3 : Nat) : Int))])), ((ad 15), .inr (0, [.long (eL ((cu 4 : Nat) : Int)), .long (eL ((cl 4 : Nat) : Int))])), ((ad 16), .inr (0, [.long (eL ((fu 0 : Nat) : Int)), .long (eL ((fl 0 : Nat) : Int))])), ((ad 17), .inr (0, [.long (eL ((fu 1 : Nat) : Int)), .long (eL ((fl 1 : Nat) : Int))])), ((ad 18), .inr (0, [.long (eL ((fu 2 : Nat) : Int)), .long (eL ((fl 2 : Nat) : Int))])), ((ad 19), .inr (0, [.long (eL ((fu 3 : Nat) : Int)), .long (eL ((fl 3 : Nat) : Int))])), ((ad 20), .inr (0, [.long (eL ((fu 4 : Nat) : Int)), .long (eL ((fl 4 : Nat) : Int))])), ((ad 21), .inr (3, [.int (eI (ys 0)), .int (eI (yl 0)), .int (eI (yp 0))])), ((ad 22), .inr (3, [.int (eI (ys 1)), .int (eI (yl 1)), .int (eI (yp 1))])), ((ad 23), .inr (3, [.int (eI (ys 2)), .int (eI (yl 2)), .int (eI (yp 2))]))] 2 := by
  refine eh_ofWL (cc := c_L_border) (maxL := 4) (ret := some .int) (hs := h_L_border) (by decide) rfl ?_
  intro p e s m args below meth c s₁ B hml htb0 hv
  obtain ⟨hargs, hP, hK, hN, hst, hap⟩ := hv
  have hx := B.exec
  have hb := B.bytes
  have hrt := B.returns
  have hts := atoms_spec (ws := k_L_border :: ew_t) B.pre
  have htb : ∀ w ∈ ew_t, w.before args s = true := fun w h => hts w (List.mem_cons_of_mem _ h)
  have hown : s.vm.findClass "EarthHaulsLaw" = some m.cls := findClass_of_methodNamed B.named
  have hlocks := B.notSynchronized
  have htab := eh_tab2 htb0
  have hE9 : entryFrame m args 4 = entryFrame m ([.ref (ad 0), .int (eI y), .int (eI 1)] : List Value).toArray 4 := by rw [hargs]
  rw [hE9]
  clear hE9 hts B hargs htb0
  generalize hRe : (headSpec _ _).room = R
  have hR1 : R.frames = 7 := by rw [← hRe]; rfl
  have hR2 : R.locals = 111 := by rw [← hRe]; rfl
  have hR3 : R.cells = 1 := by rw [← hRe]; rfl
  have hR4 : R.slots = 6 := by rw [← hRe]; rfl
  clear hRe
  generalize hQ : MQ below _ _ s 1 6 _ = Q
  have hP : va_P D classes [((ad 0), .inr (4, [.ref (ad 1), .ref (ad 2), .ref (ad 3), .ref (ad 4), .ref (ad 5), .ref (ad 24), .int (eI ((n : Nat) : Int)), .int (eI sh), .int (eI ra), .int (eI plv), .long (eL pco)])), ((ad 1), .inl (cS, 5, .inr (.inr (.inr (.inr (eh_o5 (ad 6) (ad 7) (ad 8) (ad 9) (ad 10))))))), ((ad 2), aI cI 4 ln), ((ad 3), aI cZ 3 cb), ((ad 4), .inl (cY, 3, .inr (.inr (.inr (.inr (eh_o3 (ad 21) (ad 22) (ad 23))))))), ((ad 5), aI cI 30 la), ((ad 6), .inr (2, [.ref (ad 11), .ref (ad 16)])), ((ad 7), .inr (2, [.ref (ad 12), .ref (ad 17)])), ((ad 8), .inr (2, [.ref (ad 13), .ref (ad 18)])), ((ad 9), .inr (2, [.ref (ad 14), .ref (ad 19)])), ((ad 10), .inr (2, [.ref (ad 15), .ref (ad 20)])), ((ad 11), .inr (0, [.long (eL ((cu 0 : Nat) : Int)), .long (eL ((cl 0 : Nat) : Int))])), ((ad 12), .inr (0, [.long (eL ((cu 1 : Nat) : Int)), .long (eL ((cl 1 : Nat) : Int))])), ((ad 13), .inr (0, [.long (eL ((cu 2 : Nat) : Int)), .long (eL ((cl 2 : Nat) : Int))])), ((ad 14), .inr (0, [.long (eL ((cu 3 : Nat) : Int)), .long (eL ((cl 3 : Nat) : Int))])), ((ad 15), .inr (0, [.long (eL ((cu 4 : Nat) : Int)), .long (eL ((cl 4 : Nat) : Int))])), ((ad 16), .inr (0, [.long (eL ((fu 0 : Nat) : Int)), .long (eL ((fl 0 : Nat) : Int))])), ((ad 17), .inr (0, [.long (eL ((fu 1 : Nat) : Int)), .long (eL ((fl 1 : Nat) : Int))])), ((ad 18), .inr (0, [.long (eL ((fu 2 : Nat) : Int)), .long (eL ((fl 2 : Nat) : Int))])), ((ad 19), .inr (0, [.long (eL ((fu 3 : Nat) : Int)), .long (eL ((fl 3 : Nat) : Int))])), ((ad 20), .inr (0, [.long (eL ((fu 4 : Nat) : Int)), .long (eL ((fl 4 : Nat) : Int))])), ((ad 21), .inr (3, [.int (eI (ys 0)), .int (eI (yl 0)), .int (eI (yp 0))])), ((ad 22), .inr (3, [.int (eI (ys 1)), .int (eI (yl 1)), .int (eI (yp 1))])), ((ad 23), .inr (3, [.int (eI (ys 2)), .int (eI (yl 2)), .int (eI (yp 2))]))] s.heap := hP
  have hl := lv_entry ([.ref (ad 0), .int (eI y), .int (eI 1)]) (n := 4) (Nat.le_of_ble_eq_true rfl)
  rw [lg_entry_eq]
  generalize (lg_sl ([.ref (ad 0), .int (eI y), .int (eI 1)]) ++ List.replicate (4 - (lg_sl ([.ref (ad 0), .int (eI y), .int (eI 1)])).length) Slot.unset).toArray = ls at hl ⊢
  have hl : lv_has ls 4 [(0, .ref (ad 0)), (1, .int (eI y)), (2, .int (eI 1))] := hl
  refine lv_aload_n hx hb d_L_border_0 rfl (lv_at hl 0 rfl) ?_
  refine lv_iload_n hx hb d_L_border_1 rfl (lv_at hl 1 rfl) ?_
  refine lv_iload_n hx hb d_L_border_2 rfl (lv_at hl 2 rfl) ?_
  refine eh_cTV2 (nm := eh_IB) (As := [.int (eI y), .int (eI 1)]) (rest := []) (q := (R_E, T_E, 11)) hx hb hml hown htb hN hst (fun _ _ h => h) (va_Nw.use rfl (ew_n_12 hN)) htab (by decide) (by decide) (htb _ tb_448) hap.2.1 (by decide) (by decide) (htb _ tb_325) (t_E_border_IS_1 l D cI cL cZ cS cY ad n sh ra plv pco ln cb la cu cl fu fl ys yl yp y hy hgood hsame hE hl0) 2 ⟨tb_449, tb_450, tb_451, tb_1, kin_E_border⟩ dv_E_border ⟨by rw [hR1]; decide, by rw [hR2]; decide⟩ hK hP 0 rfl rfl [0, 1, 2, 3, 4, 5, 6, 7, 8, 9, 10, 11, 12, 13, 14, 15, 16, 17, 18, 19, 20, 21, 22, 23] rfl [0, 1, 2, 3, 4] rfl rfl rfl hl.1 (Nat.le_of_ble_eq_true rfl) d_L_border_3 ⟨by rw [hR3]; decide, by rw [hR4]; decide⟩ (fun a9 H hz1 hz2 => ?_)
  refine lv_astore_n hx hb d_L_border_12 rfl hl (by decide) rfl (fun ls hl => ?_)
  have hl : lv_has ls 4 [(3, .ref a9), (0, .ref (ad 0)), (1, .int (eI y)), (2, .int (eI 1))] := hl
  refine lv_iconst (v := eI 2) hx hb d_L_border_13 rfl ?_
  subst hQ
  exact W.iret hx hb hrt (fun t9 ht hW => ⟨rfl, by rw [ht]; exact hz1, by rw [ht]; exact hz2⟩) (fun q h => by cases h) d_L_border_14
set_option maxHeartbeats 1000000 in
set_option maxRecDepth 100000 in
theorem x_L_border_IB_0 (l : Launch) (D : va_G) (cI cL cZ cS cY : ClassId) (ad : Nat → Nat) (n : Nat) (sh ra plv pco : Int) (ln cb la : Nat → Int) (cu cl fu fl : Nat → Nat) (ys yl yp : Nat → Int) (ou : Nat) (y : Int) (hy : -2147483648 ≤ y ∧ y < 2147483648) (hbad : y < 0 ∨ (n : Int) ≤ y + 2) (hE : eh_ES n sh ra ln cb la cu cl fu fl ys yl yp) (hl0 : l.stackTraces = false) : eh_X l y_L_border k_L_border 7 111 D classes [(cI, .int), (cL, .long), (cZ, .boolean), (cS, .object "EarthHauls$Section"), (cY, .object "EarthHauls$Yard")] [.ref (ad 0), .int (eI y), .int (eI 0)] [((ad 0), .inr (4, [.ref (ad 1), .ref (ad 2), .ref (ad 3), .ref (ad 4), .ref (ad 5), .ref (ad 24), .int (eI ((n : Nat) : Int)), .int (eI sh), .int (eI ra), .int (eI plv), .long (eL pco)])), ((ad 1), .inl (cS, 5, .inr (.inr (.inr (.inr (eh_o5 (ad 6) (ad 7) (ad 8) (ad 9) (ad 10))))))), ((ad 2), aI cI 4 ln), ((ad 3), aI cZ 3 cb), ((ad 4), .inl (cY, 3, .inr (.inr (.inr (.inr (eh_o3 (ad 21) (ad 22) (ad 23))))))), ((ad 5), aI cI 30 la), ((ad 6), .inr (2, [.ref (ad 11), .ref (ad 16)])), ((ad 7), .inr (2, [.ref (ad 12), .ref (ad 17)])), ((ad 8), .inr (2, [.ref (ad 13), .ref (ad 18)])), ((ad 9), .inr (2, [.ref (ad 14), .ref (ad 19)])), ((ad 10), .inr (2, [.ref (ad 15), .ref (ad 20)])), ((ad 11), .inr (0, [.long (eL ((cu 0 : Nat) : Int)), .long (eL ((cl 0 : Nat) : Int))])), ((ad 12), .inr (0, [.long (eL ((cu 1 : Nat) : Int)), .long (eL ((cl 1 : Nat) : Int))])), ((ad 13), .inr (0, [.long (eL ((cu 2 : Nat) : Int)), .long (eL ((cl 2 : Nat) : Int))])), ((ad 14), .inr (0, [.long (eL ((cu 3 : Nat) : Int)), .long (eL ((cl 3 : Nat) : Int))])), ((ad 15), .inr (0, [.long (eL ((cu 4 : Nat) : Int)), .long (eL ((cl 4 : Nat) : Int))])), ((ad 16), .inr (0, [.long (eL ((fu 0 : Nat) : Int)), .long (eL ((fl 0 : Nat) : Int))])), ((ad 17), .inr (0, [.long (eL ((fu 1 : Nat) : Int)), .long (eL ((fl 1 : Nat) : Int))])), ((ad 18), .inr (0, [.long (eL ((fu 2 : Nat) : Int)), .long (eL ((fl 2 : Nat) : Int))])), ((ad 19), .inr (0, [.long (eL ((fu 3 : Nat) : Int)), .long (eL ((fl 3 : Nat) : Int))])), ((ad 20), .inr (0, [.long (eL ((fu 4 : Nat) : Int)), .long (eL ((fl 4 : Nat) : Int))])), ((ad 21), .inr (3, [.int (eI (ys 0)), .int (eI (yl 0)), .int (eI (yp 0))])), ((ad 22), .inr (3, [.int (eI (ys 1)), .int (eI (yl 1)), .int (eI (yp 1))])), ((ad 23), .inr (3, [.int (eI (ys 2)), .int (eI (yl 2)), .int (eI (yp 2))]))] 1 := by
  refine eh_ofWL (cc := c_L_border) (maxL := 4) (ret := some .int) (hs := h_L_border) (by decide) rfl ?_
  intro p e s m args below meth c s₁ B hml htb0 hv
  obtain ⟨hargs, hP, hK, hN, hst, hap⟩ := hv
  have hx := B.exec
  have hb := B.bytes
  have hrt := B.returns
  have hts := atoms_spec (ws := k_L_border :: ew_t) B.pre
  have htb : ∀ w ∈ ew_t, w.before args s = true := fun w h => hts w (List.mem_cons_of_mem _ h)
  have hown : s.vm.findClass "EarthHaulsLaw" = some m.cls := findClass_of_methodNamed B.named
  have hlocks := B.notSynchronized
  have htab := eh_tab2 htb0
  have hE9 : entryFrame m args 4 = entryFrame m ([.ref (ad 0), .int (eI y), .int (eI 0)] : List Value).toArray 4 := by rw [hargs]
  rw [hE9]
  clear hE9 hts B hargs htb0
  generalize hRe : (headSpec _ _).room = R
  have hR1 : R.frames = 7 := by rw [← hRe]; rfl
  have hR2 : R.locals = 111 := by rw [← hRe]; rfl
  have hR3 : R.cells = 1 := by rw [← hRe]; rfl
  have hR4 : R.slots = 6 := by rw [← hRe]; rfl
  clear hRe
  generalize hQ : MQ below _ _ s 1 6 _ = Q
  have hP : va_P D classes [((ad 0), .inr (4, [.ref (ad 1), .ref (ad 2), .ref (ad 3), .ref (ad 4), .ref (ad 5), .ref (ad 24), .int (eI ((n : Nat) : Int)), .int (eI sh), .int (eI ra), .int (eI plv), .long (eL pco)])), ((ad 1), .inl (cS, 5, .inr (.inr (.inr (.inr (eh_o5 (ad 6) (ad 7) (ad 8) (ad 9) (ad 10))))))), ((ad 2), aI cI 4 ln), ((ad 3), aI cZ 3 cb), ((ad 4), .inl (cY, 3, .inr (.inr (.inr (.inr (eh_o3 (ad 21) (ad 22) (ad 23))))))), ((ad 5), aI cI 30 la), ((ad 6), .inr (2, [.ref (ad 11), .ref (ad 16)])), ((ad 7), .inr (2, [.ref (ad 12), .ref (ad 17)])), ((ad 8), .inr (2, [.ref (ad 13), .ref (ad 18)])), ((ad 9), .inr (2, [.ref (ad 14), .ref (ad 19)])), ((ad 10), .inr (2, [.ref (ad 15), .ref (ad 20)])), ((ad 11), .inr (0, [.long (eL ((cu 0 : Nat) : Int)), .long (eL ((cl 0 : Nat) : Int))])), ((ad 12), .inr (0, [.long (eL ((cu 1 : Nat) : Int)), .long (eL ((cl 1 : Nat) : Int))])), ((ad 13), .inr (0, [.long (eL ((cu 2 : Nat) : Int)), .long (eL ((cl 2 : Nat) : Int))])), ((ad 14), .inr (0, [.long (eL ((cu 3 : Nat) : Int)), .long (eL ((cl 3 : Nat) : Int))])), ((ad 15), .inr (0, [.long (eL ((cu 4 : Nat) : Int)), .long (eL ((cl 4 : Nat) : Int))])), ((ad 16), .inr (0, [.long (eL ((fu 0 : Nat) : Int)), .long (eL ((fl 0 : Nat) : Int))])), ((ad 17), .inr (0, [.long (eL ((fu 1 : Nat) : Int)), .long (eL ((fl 1 : Nat) : Int))])), ((ad 18), .inr (0, [.long (eL ((fu 2 : Nat) : Int)), .long (eL ((fl 2 : Nat) : Int))])), ((ad 19), .inr (0, [.long (eL ((fu 3 : Nat) : Int)), .long (eL ((fl 3 : Nat) : Int))])), ((ad 20), .inr (0, [.long (eL ((fu 4 : Nat) : Int)), .long (eL ((fl 4 : Nat) : Int))])), ((ad 21), .inr (3, [.int (eI (ys 0)), .int (eI (yl 0)), .int (eI (yp 0))])), ((ad 22), .inr (3, [.int (eI (ys 1)), .int (eI (yl 1)), .int (eI (yp 1))])), ((ad 23), .inr (3, [.int (eI (ys 2)), .int (eI (yl 2)), .int (eI (yp 2))]))] s.heap := hP
  have hl := lv_entry ([.ref (ad 0), .int (eI y), .int (eI 0)]) (n := 4) (Nat.le_of_ble_eq_true rfl)
  rw [lg_entry_eq]
  generalize (lg_sl ([.ref (ad 0), .int (eI y), .int (eI 0)]) ++ List.replicate (4 - (lg_sl ([.ref (ad 0), .int (eI y), .int (eI 0)])).length) Slot.unset).toArray = ls at hl ⊢
  have hl : lv_has ls 4 [(0, .ref (ad 0)), (1, .int (eI y)), (2, .int (eI 0))] := hl
  refine lv_aload_n hx hb d_L_border_0 rfl (lv_at hl 0 rfl) ?_
  refine lv_iload_n hx hb d_L_border_1 rfl (lv_at hl 1 rfl) ?_
  refine lv_iload_n hx hb d_L_border_2 rfl (lv_at hl 2 rfl) ?_
  refine eh_cTV1 (As := [.int (eI y), .int (eI 0)]) (rest := []) (q := (R_E, T_E, 11)) hx hb hml hown htb hN hst (fun _ _ h => h) (va_Nw.use rfl (ew_n_13 hN)) htab (by decide) (by decide) (htb _ tb_448) (t_E_border_IB_0 l D cI cL cZ cS cY ad n sh ra plv pco ln cb la cu cl fu fl ys yl yp y hy hbad hE hl0) 2 ⟨tb_449, tb_450, tb_451, tb_1, kin_E_border⟩ dv_E_border ⟨by rw [hR1]; decide, by rw [hR2]; decide⟩ hK hP 0 rfl rfl [0, 1, 2, 3, 4, 5, 6, 7, 8, 9, 10, 11, 12, 13, 14, 15, 16, 17, 18, 19, 20, 21, 22, 23] rfl [0, 1, 2, 3, 4] rfl rfl rfl hl.1 (Nat.le_of_ble_eq_true rfl) d_L_border_3 ⟨by rw [hR3]; decide, by rw [hR4]; decide⟩ (fun a9 H hz1 hz2 => ?_)
  refine lv_astore_n hx hb d_L_border_9 rfl hl (by decide) rfl (fun ls hl => ?_)
  have hl : lv_has ls 4 [(3, .ref a9), (0, .ref (ad 0)), (1, .int (eI y)), (2, .int (eI 0))] := hl
  refine lv_iconst (v := eI 1) hx hb d_L_border_10 rfl ?_
  subst hQ
  exact W.iret hx hb hrt (fun t9 ht hW => ⟨rfl, by rw [ht]; exact hz1, by rw [ht]; exact hz2⟩) (fun q h => by cases h) d_L_border_11
set_option maxHeartbeats 1000000 in
set_option maxRecDepth 100000 in
theorem x_L_border_IS_0 (l : Launch) (D : va_G) (cI cL cZ cS cY : ClassId) (ad : Nat → Nat) (n : Nat) (sh ra plv pco : Int) (ln cb la : Nat → Int) (cu cl fu fl : Nat → Nat) (ys yl yp : Nat → Int) (ou : Nat) (y : Int) (hy : -2147483648 ≤ y ∧ y < 2147483648) (hgood : ¬ (y < 0 ∨ (n : Int) ≤ y + 2)) (hsame : cb y.toNat = 0) (hE : eh_ES n sh ra ln cb la cu cl fu fl ys yl yp) (hl0 : l.stackTraces = false) : eh_X l y_L_border k_L_border 7 111 D classes [(cI, .int), (cL, .long), (cZ, .boolean), (cS, .object "EarthHauls$Section"), (cY, .object "EarthHauls$Yard")] [.ref (ad 0), .int (eI y), .int (eI 0)] [((ad 0), .inr (4, [.ref (ad 1), .ref (ad 2), .ref (ad 3), .ref (ad 4), .ref (ad 5), .ref (ad 24), .int (eI ((n : Nat) : Int)), .int (eI sh), .int (eI ra), .int (eI plv), .long (eL pco)])), ((ad 1), .inl (cS, 5, .inr (.inr (.inr (.inr (eh_o5 (ad 6) (ad 7) (ad 8) (ad 9) (ad 10))))))), ((ad 2), aI cI 4 ln), ((ad 3), aI cZ 3 cb), ((ad 4), .inl (cY, 3, .inr (.inr (.inr (.inr (eh_o3 (ad 21) (ad 22) (ad 23))))))), ((ad 5), aI cI 30 la), ((ad 6), .inr (2, [.ref (ad 11), .ref (ad 16)])), ((ad 7), .inr (2, [.ref (ad 12), .ref (ad 17)])), ((ad 8), .inr (2, [.ref (ad 13), .ref (ad 18)])), ((ad 9), .inr (2, [.ref (ad 14), .ref (ad 19)])), ((ad 10), .inr (2, [.ref (ad 15), .ref (ad 20)])), ((ad 11), .inr (0, [.long (eL ((cu 0 : Nat) : Int)), .long (eL ((cl 0 : Nat) : Int))])), ((ad 12), .inr (0, [.long (eL ((cu 1 : Nat) : Int)), .long (eL ((cl 1 : Nat) : Int))])), ((ad 13), .inr (0, [.long (eL ((cu 2 : Nat) : Int)), .long (eL ((cl 2 : Nat) : Int))])), ((ad 14), .inr (0, [.long (eL ((cu 3 : Nat) : Int)), .long (eL ((cl 3 : Nat) : Int))])), ((ad 15), .inr (0, [.long (eL ((cu 4 : Nat) : Int)), .long (eL ((cl 4 : Nat) : Int))])), ((ad 16), .inr (0, [.long (eL ((fu 0 : Nat) : Int)), .long (eL ((fl 0 : Nat) : Int))])), ((ad 17), .inr (0, [.long (eL ((fu 1 : Nat) : Int)), .long (eL ((fl 1 : Nat) : Int))])), ((ad 18), .inr (0, [.long (eL ((fu 2 : Nat) : Int)), .long (eL ((fl 2 : Nat) : Int))])), ((ad 19), .inr (0, [.long (eL ((fu 3 : Nat) : Int)), .long (eL ((fl 3 : Nat) : Int))])), ((ad 20), .inr (0, [.long (eL ((fu 4 : Nat) : Int)), .long (eL ((fl 4 : Nat) : Int))])), ((ad 21), .inr (3, [.int (eI (ys 0)), .int (eI (yl 0)), .int (eI (yp 0))])), ((ad 22), .inr (3, [.int (eI (ys 1)), .int (eI (yl 1)), .int (eI (yp 1))])), ((ad 23), .inr (3, [.int (eI (ys 2)), .int (eI (yl 2)), .int (eI (yp 2))]))] 2 := by
  refine eh_ofWL (cc := c_L_border) (maxL := 4) (ret := some .int) (hs := h_L_border) (by decide) rfl ?_
  intro p e s m args below meth c s₁ B hml htb0 hv
  obtain ⟨hargs, hP, hK, hN, hst, hap⟩ := hv
  have hx := B.exec
  have hb := B.bytes
  have hrt := B.returns
  have hts := atoms_spec (ws := k_L_border :: ew_t) B.pre
  have htb : ∀ w ∈ ew_t, w.before args s = true := fun w h => hts w (List.mem_cons_of_mem _ h)
  have hown : s.vm.findClass "EarthHaulsLaw" = some m.cls := findClass_of_methodNamed B.named
  have hlocks := B.notSynchronized
  have htab := eh_tab2 htb0
  have hE9 : entryFrame m args 4 = entryFrame m ([.ref (ad 0), .int (eI y), .int (eI 0)] : List Value).toArray 4 := by rw [hargs]
  rw [hE9]
  clear hE9 hts B hargs htb0
  generalize hRe : (headSpec _ _).room = R
  have hR1 : R.frames = 7 := by rw [← hRe]; rfl
  have hR2 : R.locals = 111 := by rw [← hRe]; rfl
  have hR3 : R.cells = 1 := by rw [← hRe]; rfl
  have hR4 : R.slots = 6 := by rw [← hRe]; rfl
  clear hRe
  generalize hQ : MQ below _ _ s 1 6 _ = Q
  have hP : va_P D classes [((ad 0), .inr (4, [.ref (ad 1), .ref (ad 2), .ref (ad 3), .ref (ad 4), .ref (ad 5), .ref (ad 24), .int (eI ((n : Nat) : Int)), .int (eI sh), .int (eI ra), .int (eI plv), .long (eL pco)])), ((ad 1), .inl (cS, 5, .inr (.inr (.inr (.inr (eh_o5 (ad 6) (ad 7) (ad 8) (ad 9) (ad 10))))))), ((ad 2), aI cI 4 ln), ((ad 3), aI cZ 3 cb), ((ad 4), .inl (cY, 3, .inr (.inr (.inr (.inr (eh_o3 (ad 21) (ad 22) (ad 23))))))), ((ad 5), aI cI 30 la), ((ad 6), .inr (2, [.ref (ad 11), .ref (ad 16)])), ((ad 7), .inr (2, [.ref (ad 12), .ref (ad 17)])), ((ad 8), .inr (2, [.ref (ad 13), .ref (ad 18)])), ((ad 9), .inr (2, [.ref (ad 14), .ref (ad 19)])), ((ad 10), .inr (2, [.ref (ad 15), .ref (ad 20)])), ((ad 11), .inr (0, [.long (eL ((cu 0 : Nat) : Int)), .long (eL ((cl 0 : Nat) : Int))])), ((ad 12), .inr (0, [.long (eL ((cu 1 : Nat) : Int)), .long (eL ((cl 1 : Nat) : Int))])), ((ad 13), .inr (0, [.long (eL ((cu 2 : Nat) : Int)), .long (eL ((cl 2 : Nat) : Int))])), ((ad 14), .inr (0, [.long (eL ((cu 3 : Nat) : Int)), .long (eL ((cl 3 : Nat) : Int))])), ((ad 15), .inr (0, [.long (eL ((cu 4 : Nat) : Int)), .long (eL ((cl 4 : Nat) : Int))])), ((ad 16), .inr (0, [.long (eL ((fu 0 : Nat) : Int)), .long (eL ((fl 0 : Nat) : Int))])), ((ad 17), .inr (0, [.long (eL ((fu 1 : Nat) : Int)), .long (eL ((fl 1 : Nat) : Int))])), ((ad 18), .inr (0, [.long (eL ((fu 2 : Nat) : Int)), .long (eL ((fl 2 : Nat) : Int))])), ((ad 19), .inr (0, [.long (eL ((fu 3 : Nat) : Int)), .long (eL ((fl 3 : Nat) : Int))])), ((ad 20), .inr (0, [.long (eL ((fu 4 : Nat) : Int)), .long (eL ((fl 4 : Nat) : Int))])), ((ad 21), .inr (3, [.int (eI (ys 0)), .int (eI (yl 0)), .int (eI (yp 0))])), ((ad 22), .inr (3, [.int (eI (ys 1)), .int (eI (yl 1)), .int (eI (yp 1))])), ((ad 23), .inr (3, [.int (eI (ys 2)), .int (eI (yl 2)), .int (eI (yp 2))]))] s.heap := hP
  have hl := lv_entry ([.ref (ad 0), .int (eI y), .int (eI 0)]) (n := 4) (Nat.le_of_ble_eq_true rfl)
  rw [lg_entry_eq]
  generalize (lg_sl ([.ref (ad 0), .int (eI y), .int (eI 0)]) ++ List.replicate (4 - (lg_sl ([.ref (ad 0), .int (eI y), .int (eI 0)])).length) Slot.unset).toArray = ls at hl ⊢
  have hl : lv_has ls 4 [(0, .ref (ad 0)), (1, .int (eI y)), (2, .int (eI 0))] := hl
  refine lv_aload_n hx hb d_L_border_0 rfl (lv_at hl 0 rfl) ?_
  refine lv_iload_n hx hb d_L_border_1 rfl (lv_at hl 1 rfl) ?_
  refine lv_iload_n hx hb d_L_border_2 rfl (lv_at hl 2 rfl) ?_
  refine eh_cTV2 (nm := eh_IB) (As := [.int (eI y), .int (eI 0)]) (rest := []) (q := (R_E, T_E, 11)) hx hb hml hown htb hN hst (fun _ _ h => h) (va_Nw.use rfl (ew_n_12 hN)) htab (by decide) (by decide) (htb _ tb_448) hap.2.1 (by decide) (by decide) (htb _ tb_325) (t_E_border_IS_0 l D cI cL cZ cS cY ad n sh ra plv pco ln cb la cu cl fu fl ys yl yp y hy hgood hsame hE hl0) 2 ⟨tb_449, tb_450, tb_451, tb_1, kin_E_border⟩ dv_E_border ⟨by rw [hR1]; decide, by rw [hR2]; decide⟩ hK hP 0 rfl rfl [0, 1, 2, 3, 4, 5, 6, 7, 8, 9, 10, 11, 12, 13, 14, 15, 16, 17, 18, 19, 20, 21, 22, 23] rfl [0, 1, 2, 3, 4] rfl rfl rfl hl.1 (Nat.le_of_ble_eq_true rfl) d_L_border_3 ⟨by rw [hR3]; decide, by rw [hR4]; decide⟩ (fun a9 H hz1 hz2 => ?_)
  refine lv_astore_n hx hb d_L_border_12 rfl hl (by decide) rfl (fun ls hl => ?_)
  have hl : lv_has ls 4 [(3, .ref a9), (0, .ref (ad 0)), (1, .int (eI y)), (2, .int (eI 0))] := hl
  refine lv_iconst (v := eI 2) hx hb d_L_border_13 rfl ?_
  subst hQ
  exact W.iret hx hb hrt (fun t9 ht hW => ⟨rfl, by rw [ht]; exact hz1, by rw [ht]; exact hz2⟩) (fun q h => by cases h) d_L_border_14
abbrev c_L_beside : ByteArray := method_6_code
def y_L_beside : MethodName := ⟨"EarthHaulsLaw", "beside", "(LEarthHauls;IIII)I"⟩
abbrev h_L_beside : List (Nat × Nat × Nat × Nat) := [(0, 9, 12, 25), (0, 9, 16, 13)]
abbrev k_L_beside : Cond := .codeWith y_L_beside c_L_beside 6 (some .int) h_L_beside
theorem kin_L_beside : k_L_beside ∈ ew_t := tb_474
theorem dv_L_beside : eh_dS y_L_beside 5 := ⟨by decide, by decide, by decide +kernel⟩
theorem d_L_beside_0 : decode c_L_beside 0 = .ok (.aload_n 0, 1) := by decide +kernel
theorem d_L_beside_1 : decode c_L_beside 1 = .ok (.iload_n 1, 1) := by decide +kernel
theorem d_L_beside_2 : decode c_L_beside 2 = .ok (.iload_n 2, 1) := by decide +kernel
theorem d_L_beside_3 : decode c_L_beside 3 = .ok (.iload_n 3, 1) := by decide +kernel
theorem d_L_beside_4 : decode c_L_beside 4 = .ok (.iload 4, 2) := by decide +kernel
theorem d_L_beside_6 : decode c_L_beside 6 = .ok (.invokevirtual 27, 3) := by decide +kernel
theorem d_L_beside_9 : decode c_L_beside 9 = .ok (.goto 11, 3) := by decide +kernel
theorem d_L_beside_12 : decode c_L_beside 12 = .ok (.astore 5, 2) := by decide +kernel
theorem d_L_beside_14 : decode c_L_beside 14 = .ok (.iconst 1, 1) := by decide +kernel
theorem d_L_beside_15 : decode c_L_beside 15 = .ok (.ireturn, 1) := by decide +kernel
theorem d_L_beside_16 : decode c_L_beside 16 = .ok (.astore 5, 2) := by decide +kernel
theorem d_L_beside_18 : decode c_L_beside 18 = .ok (.iconst 2, 1) := by decide +kernel
theorem d_L_beside_19 : decode c_L_beside 19 = .ok (.ireturn, 1) := by decide +kernel
theorem d_L_beside_20 : decode c_L_beside 20 = .ok (.iconst 0, 1) := by decide +kernel
theorem d_L_beside_21 : decode c_L_beside 21 = .ok (.ireturn, 1) := by decide +kernel
set_option maxHeartbeats 1000000 in
set_option maxRecDepth 100000 in
theorem x_L_beside_IB (l : Launch) (D : va_G) (cI cL cZ cS cY : ClassId) (ad : Nat → Nat) (n : Nat) (sh ra plv pco : Int) (ln cb la : Nat → Int) (cu cl fu fl : Nat → Nat) (ys yl yp : Nat → Int) (ou : Nat) (y z x1 x2 : Int) (hy : -2147483648 ≤ y ∧ y < 2147483648) (hz : -2147483648 ≤ z ∧ z < 2147483648) (hx1 : -2147483648 ≤ x1 ∧ x1 < 2147483648) (hx2 : -2147483648 ≤ x2 ∧ x2 < 2147483648) (hbad : ¬ ((0 ≤ y ∧ y < 3) ∧ (0 ≤ z ∧ z + 1 < n))) (hE : eh_ES n sh ra ln cb la cu cl fu fl ys yl yp) (hl0 : l.stackTraces = false) : eh_X l y_L_beside k_L_beside 7 113 D classes [(cI, .int), (cL, .long), (cZ, .boolean), (cS, .object "EarthHauls$Section"), (cY, .object "EarthHauls$Yard")] [.ref (ad 0), .int (eI y), .int (eI z), .int (eI x1), .int (eI x2)] [((ad 0), .inr (4, [.ref (ad 1), .ref (ad 2), .ref (ad 3), .ref (ad 4), .ref (ad 5), .ref (ad 24), .int (eI ((n : Nat) : Int)), .int (eI sh), .int (eI ra), .int (eI plv), .long (eL pco)])), ((ad 1), .inl (cS, 5, .inr (.inr (.inr (.inr (eh_o5 (ad 6) (ad 7) (ad 8) (ad 9) (ad 10))))))), ((ad 2), aI cI 4 ln), ((ad 3), aI cZ 3 cb), ((ad 4), .inl (cY, 3, .inr (.inr (.inr (.inr (eh_o3 (ad 21) (ad 22) (ad 23))))))), ((ad 5), aI cI 30 la), ((ad 6), .inr (2, [.ref (ad 11), .ref (ad 16)])), ((ad 7), .inr (2, [.ref (ad 12), .ref (ad 17)])), ((ad 8), .inr (2, [.ref (ad 13), .ref (ad 18)])), ((ad 9), .inr (2, [.ref (ad 14), .ref (ad 19)])), ((ad 10), .inr (2, [.ref (ad 15), .ref (ad 20)])), ((ad 11), .inr (0, [.long (eL ((cu 0 : Nat) : Int)), .long (eL ((cl 0 : Nat) : Int))])), ((ad 12), .inr (0, [.long (eL ((cu 1 : Nat) : Int)), .long (eL ((cl 1 : Nat) : Int))])), ((ad 13), .inr (0, [.long (eL ((cu 2 : Nat) : Int)), .long (eL ((cl 2 : Nat) : Int))])), ((ad 14), .inr (0, [.long (eL ((cu 3 : Nat) : Int)), .long (eL ((cl 3 : Nat) : Int))])), ((ad 15), .inr (0, [.long (eL ((cu 4 : Nat) : Int)), .long (eL ((cl 4 : Nat) : Int))])), ((ad 16), .inr (0, [.long (eL ((fu 0 : Nat) : Int)), .long (eL ((fl 0 : Nat) : Int))])), ((ad 17), .inr (0, [.long (eL ((fu 1 : Nat) : Int)), .long (eL ((fl 1 : Nat) : Int))])), ((ad 18), .inr (0, [.long (eL ((fu 2 : Nat) : Int)), .long (eL ((fl 2 : Nat) : Int))])), ((ad 19), .inr (0, [.long (eL ((fu 3 : Nat) : Int)), .long (eL ((fl 3 : Nat) : Int))])), ((ad 20), .inr (0, [.long (eL ((fu 4 : Nat) : Int)), .long (eL ((fl 4 : Nat) : Int))])), ((ad 21), .inr (3, [.int (eI (ys 0)), .int (eI (yl 0)), .int (eI (yp 0))])), ((ad 22), .inr (3, [.int (eI (ys 1)), .int (eI (yl 1)), .int (eI (yp 1))])), ((ad 23), .inr (3, [.int (eI (ys 2)), .int (eI (yl 2)), .int (eI (yp 2))]))] 1 := by
  refine eh_ofWL (cc := c_L_beside) (maxL := 6) (ret := some .int) (hs := h_L_beside) (by decide) rfl ?_
  intro p e s m args below meth c s₁ B hml htb0 hv
  obtain ⟨hargs, hP, hK, hN, hst, hap⟩ := hv
  have hx := B.exec
  have hb := B.bytes
  have hrt := B.returns
  have hts := atoms_spec (ws := k_L_beside :: ew_t) B.pre
  have htb : ∀ w ∈ ew_t, w.before args s = true := fun w h => hts w (List.mem_cons_of_mem _ h)
  have hown : s.vm.findClass "EarthHaulsLaw" = some m.cls := findClass_of_methodNamed B.named
  have hlocks := B.notSynchronized
  have htab := eh_tab2 htb0
  have hE9 : entryFrame m args 6 = entryFrame m ([.ref (ad 0), .int (eI y), .int (eI z), .int (eI x1), .int (eI x2)] : List Value).toArray 6 := by rw [hargs]
  rw [hE9]
  clear hE9 hts B hargs htb0
  generalize hRe : (headSpec _ _).room = R
  have hR1 : R.frames = 7 := by rw [← hRe]; rfl
  have hR2 : R.locals = 113 := by rw [← hRe]; rfl
  have hR3 : R.cells = 1 := by rw [← hRe]; rfl
  have hR4 : R.slots = 6 := by rw [← hRe]; rfl
  clear hRe
  generalize hQ : MQ below _ _ s 1 6 _ = Q
  have hP : va_P D classes [((ad 0), .inr (4, [.ref (ad 1), .ref (ad 2), .ref (ad 3), .ref (ad 4), .ref (ad 5), .ref (ad 24), .int (eI ((n : Nat) : Int)), .int (eI sh), .int (eI ra), .int (eI plv), .long (eL pco)])), ((ad 1), .inl (cS, 5, .inr (.inr (.inr (.inr (eh_o5 (ad 6) (ad 7) (ad 8) (ad 9) (ad 10))))))), ((ad 2), aI cI 4 ln), ((ad 3), aI cZ 3 cb), ((ad 4), .inl (cY, 3, .inr (.inr (.inr (.inr (eh_o3 (ad 21) (ad 22) (ad 23))))))), ((ad 5), aI cI 30 la), ((ad 6), .inr (2, [.ref (ad 11), .ref (ad 16)])), ((ad 7), .inr (2, [.ref (ad 12), .ref (ad 17)])), ((ad 8), .inr (2, [.ref (ad 13), .ref (ad 18)])), ((ad 9), .inr (2, [.ref (ad 14), .ref (ad 19)])), ((ad 10), .inr (2, [.ref (ad 15), .ref (ad 20)])), ((ad 11), .inr (0, [.long (eL ((cu 0 : Nat) : Int)), .long (eL ((cl 0 : Nat) : Int))])), ((ad 12), .inr (0, [.long (eL ((cu 1 : Nat) : Int)), .long (eL ((cl 1 : Nat) : Int))])), ((ad 13), .inr (0, [.long (eL ((cu 2 : Nat) : Int)), .long (eL ((cl 2 : Nat) : Int))])), ((ad 14), .inr (0, [.long (eL ((cu 3 : Nat) : Int)), .long (eL ((cl 3 : Nat) : Int))])), ((ad 15), .inr (0, [.long (eL ((cu 4 : Nat) : Int)), .long (eL ((cl 4 : Nat) : Int))])), ((ad 16), .inr (0, [.long (eL ((fu 0 : Nat) : Int)), .long (eL ((fl 0 : Nat) : Int))])), ((ad 17), .inr (0, [.long (eL ((fu 1 : Nat) : Int)), .long (eL ((fl 1 : Nat) : Int))])), ((ad 18), .inr (0, [.long (eL ((fu 2 : Nat) : Int)), .long (eL ((fl 2 : Nat) : Int))])), ((ad 19), .inr (0, [.long (eL ((fu 3 : Nat) : Int)), .long (eL ((fl 3 : Nat) : Int))])), ((ad 20), .inr (0, [.long (eL ((fu 4 : Nat) : Int)), .long (eL ((fl 4 : Nat) : Int))])), ((ad 21), .inr (3, [.int (eI (ys 0)), .int (eI (yl 0)), .int (eI (yp 0))])), ((ad 22), .inr (3, [.int (eI (ys 1)), .int (eI (yl 1)), .int (eI (yp 1))])), ((ad 23), .inr (3, [.int (eI (ys 2)), .int (eI (yl 2)), .int (eI (yp 2))]))] s.heap := hP
  have hl := lv_entry ([.ref (ad 0), .int (eI y), .int (eI z), .int (eI x1), .int (eI x2)]) (n := 6) (Nat.le_of_ble_eq_true rfl)
  rw [lg_entry_eq]
  generalize (lg_sl ([.ref (ad 0), .int (eI y), .int (eI z), .int (eI x1), .int (eI x2)]) ++ List.replicate (6 - (lg_sl ([.ref (ad 0), .int (eI y), .int (eI z), .int (eI x1), .int (eI x2)])).length) Slot.unset).toArray = ls at hl ⊢
  have hl : lv_has ls 6 [(0, .ref (ad 0)), (1, .int (eI y)), (2, .int (eI z)), (3, .int (eI x1)), (4, .int (eI x2))] := hl
  refine lv_aload_n hx hb d_L_beside_0 rfl (lv_at hl 0 rfl) ?_
  refine lv_iload_n hx hb d_L_beside_1 rfl (lv_at hl 1 rfl) ?_
  refine lv_iload_n hx hb d_L_beside_2 rfl (lv_at hl 2 rfl) ?_
  refine lv_iload_n hx hb d_L_beside_3 rfl (lv_at hl 3 rfl) ?_
  refine lv_iload hx hb d_L_beside_4 (lv_at hl 4 rfl) ?_
  refine eh_cTV1 (As := [.int (eI y), .int (eI z), .int (eI x1), .int (eI x2)]) (rest := []) (q := (R_E, T_E, 11)) hx hb hml hown htb hN hst (fun _ _ h => h) (va_Nw.use rfl (ew_n_13 hN)) htab (by decide) (by decide) (htb _ tb_448) (t_E_beside_IB l D cI cL cZ cS cY ad n sh ra plv pco ln cb la cu cl fu fl ys yl yp y z x1 x2 hy hz hx1 hx2 hbad hE hl0) 4 ⟨tb_475, tb_476, tb_477, tb_1, kin_E_beside⟩ dv_E_beside ⟨by rw [hR1]; decide, by rw [hR2]; decide⟩ hK hP 0 rfl rfl [0, 1, 2, 3, 4, 5, 6, 7, 8, 9, 10, 11, 12, 13, 14, 15, 16, 17, 18, 19, 20, 21, 22, 23] rfl [0, 1, 2, 3, 4] rfl rfl rfl hl.1 (Nat.le_of_ble_eq_true rfl) d_L_beside_6 ⟨by rw [hR3]; decide, by rw [hR4]; decide⟩ (fun a9 H hz1 hz2 => ?_)
  refine lv_astore hx hb d_L_beside_12 hl (by decide) rfl (fun ls hl => ?_)
  have hl : lv_has ls 6 [(5, .ref a9), (0, .ref (ad 0)), (1, .int (eI y)), (2, .int (eI z)), (3, .int (eI x1)), (4, .int (eI x2))] := hl
  refine lv_iconst (v := eI 1) hx hb d_L_beside_14 rfl ?_
  subst hQ
  exact W.iret hx hb hrt (fun t9 ht hW => ⟨rfl, by rw [ht]; exact hz1, by rw [ht]; exact hz2⟩) (fun q h => by cases h) d_L_beside_15
set_option maxHeartbeats 1000000 in
set_option maxRecDepth 100000 in
theorem x_L_beside_IA (l : Launch) (D : va_G) (cI cL cZ cS cY : ClassId) (ad : Nat → Nat) (n : Nat) (sh ra plv pco : Int) (ln cb la : Nat → Int) (cu cl fu fl : Nat → Nat) (ys yl yp : Nat → Int) (ou : Nat) (y z x1 x2 : Int) (hy : -2147483648 ≤ y ∧ y < 2147483648) (hz : -2147483648 ≤ z ∧ z < 2147483648) (hx1 : -2147483648 ≤ x1 ∧ x1 < 2147483648) (hx2 : -2147483648 ≤ x2 ∧ x2 < 2147483648) (hgood : (0 ≤ y ∧ y < 3) ∧ (0 ≤ z ∧ z + 1 < n)) (hbad : ¬ ((0 ≤ x1 ∧ x1 ≤ 100000000) ∧ 0 ≤ x2 ∧ x2 ≤ 1000)) (hE : eh_ES n sh ra ln cb la cu cl fu fl ys yl yp) (hl0 : l.stackTraces = false) : eh_X l y_L_beside k_L_beside 7 113 D classes [(cI, .int), (cL, .long), (cZ, .boolean), (cS, .object "EarthHauls$Section"), (cY, .object "EarthHauls$Yard")] [.ref (ad 0), .int (eI y), .int (eI z), .int (eI x1), .int (eI x2)] [((ad 0), .inr (4, [.ref (ad 1), .ref (ad 2), .ref (ad 3), .ref (ad 4), .ref (ad 5), .ref (ad 24), .int (eI ((n : Nat) : Int)), .int (eI sh), .int (eI ra), .int (eI plv), .long (eL pco)])), ((ad 1), .inl (cS, 5, .inr (.inr (.inr (.inr (eh_o5 (ad 6) (ad 7) (ad 8) (ad 9) (ad 10))))))), ((ad 2), aI cI 4 ln), ((ad 3), aI cZ 3 cb), ((ad 4), .inl (cY, 3, .inr (.inr (.inr (.inr (eh_o3 (ad 21) (ad 22) (ad 23))))))), ((ad 5), aI cI 30 la), ((ad 6), .inr (2, [.ref (ad 11), .ref (ad 16)])), ((ad 7), .inr (2, [.ref (ad 12), .ref (ad 17)])), ((ad 8), .inr (2, [.ref (ad 13), .ref (ad 18)])), ((ad 9), .inr (2, [.ref (ad 14), .ref (ad 19)])), ((ad 10), .inr (2, [.ref (ad 15), .ref (ad 20)])), ((ad 11), .inr (0, [.long (eL ((cu 0 : Nat) : Int)), .long (eL ((cl 0 : Nat) : Int))])), ((ad 12), .inr (0, [.long (eL ((cu 1 : Nat) : Int)), .long (eL ((cl 1 : Nat) : Int))])), ((ad 13), .inr (0, [.long (eL ((cu 2 : Nat) : Int)), .long (eL ((cl 2 : Nat) : Int))])), ((ad 14), .inr (0, [.long (eL ((cu 3 : Nat) : Int)), .long (eL ((cl 3 : Nat) : Int))])), ((ad 15), .inr (0, [.long (eL ((cu 4 : Nat) : Int)), .long (eL ((cl 4 : Nat) : Int))])), ((ad 16), .inr (0, [.long (eL ((fu 0 : Nat) : Int)), .long (eL ((fl 0 : Nat) : Int))])), ((ad 17), .inr (0, [.long (eL ((fu 1 : Nat) : Int)), .long (eL ((fl 1 : Nat) : Int))])), ((ad 18), .inr (0, [.long (eL ((fu 2 : Nat) : Int)), .long (eL ((fl 2 : Nat) : Int))])), ((ad 19), .inr (0, [.long (eL ((fu 3 : Nat) : Int)), .long (eL ((fl 3 : Nat) : Int))])), ((ad 20), .inr (0, [.long (eL ((fu 4 : Nat) : Int)), .long (eL ((fl 4 : Nat) : Int))])), ((ad 21), .inr (3, [.int (eI (ys 0)), .int (eI (yl 0)), .int (eI (yp 0))])), ((ad 22), .inr (3, [.int (eI (ys 1)), .int (eI (yl 1)), .int (eI (yp 1))])), ((ad 23), .inr (3, [.int (eI (ys 2)), .int (eI (yl 2)), .int (eI (yp 2))]))] 2 := by
  refine eh_ofWL (cc := c_L_beside) (maxL := 6) (ret := some .int) (hs := h_L_beside) (by decide) rfl ?_
  intro p e s m args below meth c s₁ B hml htb0 hv
  obtain ⟨hargs, hP, hK, hN, hst, hap⟩ := hv
  have hx := B.exec
  have hb := B.bytes
  have hrt := B.returns
  have hts := atoms_spec (ws := k_L_beside :: ew_t) B.pre
  have htb : ∀ w ∈ ew_t, w.before args s = true := fun w h => hts w (List.mem_cons_of_mem _ h)
  have hown : s.vm.findClass "EarthHaulsLaw" = some m.cls := findClass_of_methodNamed B.named
  have hlocks := B.notSynchronized
  have htab := eh_tab2 htb0
  have hE9 : entryFrame m args 6 = entryFrame m ([.ref (ad 0), .int (eI y), .int (eI z), .int (eI x1), .int (eI x2)] : List Value).toArray 6 := by rw [hargs]
  rw [hE9]
  clear hE9 hts B hargs htb0
  generalize hRe : (headSpec _ _).room = R
  have hR1 : R.frames = 7 := by rw [← hRe]; rfl
  have hR2 : R.locals = 113 := by rw [← hRe]; rfl
  have hR3 : R.cells = 1 := by rw [← hRe]; rfl
  have hR4 : R.slots = 6 := by rw [← hRe]; rfl
  clear hRe
  generalize hQ : MQ below _ _ s 1 6 _ = Q
  have hP : va_P D classes [((ad 0), .inr (4, [.ref (ad 1), .ref (ad 2), .ref (ad 3), .ref (ad 4), .ref (ad 5), .ref (ad 24), .int (eI ((n : Nat) : Int)), .int (eI sh), .int (eI ra), .int (eI plv), .long (eL pco)])), ((ad 1), .inl (cS, 5, .inr (.inr (.inr (.inr (eh_o5 (ad 6) (ad 7) (ad 8) (ad 9) (ad 10))))))), ((ad 2), aI cI 4 ln), ((ad 3), aI cZ 3 cb), ((ad 4), .inl (cY, 3, .inr (.inr (.inr (.inr (eh_o3 (ad 21) (ad 22) (ad 23))))))), ((ad 5), aI cI 30 la), ((ad 6), .inr (2, [.ref (ad 11), .ref (ad 16)])), ((ad 7), .inr (2, [.ref (ad 12), .ref (ad 17)])), ((ad 8), .inr (2, [.ref (ad 13), .ref (ad 18)])), ((ad 9), .inr (2, [.ref (ad 14), .ref (ad 19)])), ((ad 10), .inr (2, [.ref (ad 15), .ref (ad 20)])), ((ad 11), .inr (0, [.long (eL ((cu 0 : Nat) : Int)), .long (eL ((cl 0 : Nat) : Int))])), ((ad 12), .inr (0, [.long (eL ((cu 1 : Nat) : Int)), .long (eL ((cl 1 : Nat) : Int))])), ((ad 13), .inr (0, [.long (eL ((cu 2 : Nat) : Int)), .long (eL ((cl 2 : Nat) : Int))])), ((ad 14), .inr (0, [.long (eL ((cu 3 : Nat) : Int)), .long (eL ((cl 3 : Nat) : Int))])), ((ad 15), .inr (0, [.long (eL ((cu 4 : Nat) : Int)), .long (eL ((cl 4 : Nat) : Int))])), ((ad 16), .inr (0, [.long (eL ((fu 0 : Nat) : Int)), .long (eL ((fl 0 : Nat) : Int))])), ((ad 17), .inr (0, [.long (eL ((fu 1 : Nat) : Int)), .long (eL ((fl 1 : Nat) : Int))])), ((ad 18), .inr (0, [.long (eL ((fu 2 : Nat) : Int)), .long (eL ((fl 2 : Nat) : Int))])), ((ad 19), .inr (0, [.long (eL ((fu 3 : Nat) : Int)), .long (eL ((fl 3 : Nat) : Int))])), ((ad 20), .inr (0, [.long (eL ((fu 4 : Nat) : Int)), .long (eL ((fl 4 : Nat) : Int))])), ((ad 21), .inr (3, [.int (eI (ys 0)), .int (eI (yl 0)), .int (eI (yp 0))])), ((ad 22), .inr (3, [.int (eI (ys 1)), .int (eI (yl 1)), .int (eI (yp 1))])), ((ad 23), .inr (3, [.int (eI (ys 2)), .int (eI (yl 2)), .int (eI (yp 2))]))] s.heap := hP
  have hl := lv_entry ([.ref (ad 0), .int (eI y), .int (eI z), .int (eI x1), .int (eI x2)]) (n := 6) (Nat.le_of_ble_eq_true rfl)
  rw [lg_entry_eq]
  generalize (lg_sl ([.ref (ad 0), .int (eI y), .int (eI z), .int (eI x1), .int (eI x2)]) ++ List.replicate (6 - (lg_sl ([.ref (ad 0), .int (eI y), .int (eI z), .int (eI x1), .int (eI x2)])).length) Slot.unset).toArray = ls at hl ⊢
  have hl : lv_has ls 6 [(0, .ref (ad 0)), (1, .int (eI y)), (2, .int (eI z)), (3, .int (eI x1)), (4, .int (eI x2))] := hl
  refine lv_aload_n hx hb d_L_beside_0 rfl (lv_at hl 0 rfl) ?_
  refine lv_iload_n hx hb d_L_beside_1 rfl (lv_at hl 1 rfl) ?_
  refine lv_iload_n hx hb d_L_beside_2 rfl (lv_at hl 2 rfl) ?_
  refine lv_iload_n hx hb d_L_beside_3 rfl (lv_at hl 3 rfl) ?_
  refine lv_iload hx hb d_L_beside_4 (lv_at hl 4 rfl) ?_
  refine eh_cTV2 (nm := eh_IB) (As := [.int (eI y), .int (eI z), .int (eI x1), .int (eI x2)]) (rest := []) (q := (R_E, T_E, 11)) hx hb hml hown htb hN hst (fun _ _ h => h) (va_Nw.use rfl (ew_n_11 hN)) htab (by decide) (by decide) (htb _ tb_448) hap.2.2 (by decide) (by decide) (htb _ tb_324) (t_E_beside_IA l D cI cL cZ cS cY ad n sh ra plv pco ln cb la cu cl fu fl ys yl yp y z x1 x2 hy hz hx1 hx2 hgood hbad hE hl0) 4 ⟨tb_475, tb_476, tb_477, tb_1, kin_E_beside⟩ dv_E_beside ⟨by rw [hR1]; decide, by rw [hR2]; decide⟩ hK hP 0 rfl rfl [0, 1, 2, 3, 4, 5, 6, 7, 8, 9, 10, 11, 12, 13, 14, 15, 16, 17, 18, 19, 20, 21, 22, 23] rfl [0, 1, 2, 3, 4] rfl rfl rfl hl.1 (Nat.le_of_ble_eq_true rfl) d_L_beside_6 ⟨by rw [hR3]; decide, by rw [hR4]; decide⟩ (fun a9 H hz1 hz2 => ?_)
  refine lv_astore hx hb d_L_beside_16 hl (by decide) rfl (fun ls hl => ?_)
  have hl : lv_has ls 6 [(5, .ref a9), (0, .ref (ad 0)), (1, .int (eI y)), (2, .int (eI z)), (3, .int (eI x1)), (4, .int (eI x2))] := hl
  refine lv_iconst (v := eI 2) hx hb d_L_beside_18 rfl ?_
  subst hQ
  exact W.iret hx hb hrt (fun t9 ht hW => ⟨rfl, by rw [ht]; exact hz1, by rw [ht]; exact hz2⟩) (fun q h => by cases h) d_L_beside_19
abbrev c_L_area : ByteArray := method_7_code
def y_L_area : MethodName := ⟨"EarthHaulsLaw", "area", "(LEarthHauls;II[J)I"⟩
abbrev h_L_area : List (Nat × Nat × Nat × Nat) := [(0, 9, 12, 25), (0, 9, 16, 13)]
abbrev k_L_area : Cond := .codeWith y_L_area c_L_area 5 (some .int) h_L_area
theorem kin_L_area : k_L_area ∈ ew_t := tb_486
theorem dv_L_area : eh_dS y_L_area 4 := ⟨by decide, by decide, by decide +kernel⟩
theorem d_L_area_0 : decode c_L_area 0 = .ok (.aload_n 3, 1) := by decide +kernel
theorem d_L_area_1 : decode c_L_area 1 = .ok (.iconst 0, 1) := by decide +kernel
theorem d_L_area_2 : decode c_L_area 2 = .ok (.aload_n 0, 1) := by decide +kernel
theorem d_L_area_3 : decode c_L_area 3 = .ok (.iload_n 1, 1) := by decide +kernel
theorem d_L_area_4 : decode c_L_area 4 = .ok (.iload_n 2, 1) := by decide +kernel
theorem d_L_area_5 : decode c_L_area 5 = .ok (.invokevirtual 31, 3) := by decide +kernel
theorem d_L_area_8 : decode c_L_area 8 = .ok (.lastore, 1) := by decide +kernel
theorem d_L_area_9 : decode c_L_area 9 = .ok (.goto 11, 3) := by decide +kernel
theorem d_L_area_12 : decode c_L_area 12 = .ok (.astore 4, 2) := by decide +kernel
theorem d_L_area_14 : decode c_L_area 14 = .ok (.iconst 1, 1) := by decide +kernel
theorem d_L_area_15 : decode c_L_area 15 = .ok (.ireturn, 1) := by decide +kernel
theorem d_L_area_16 : decode c_L_area 16 = .ok (.astore 4, 2) := by decide +kernel
theorem d_L_area_18 : decode c_L_area 18 = .ok (.iconst 2, 1) := by decide +kernel
theorem d_L_area_19 : decode c_L_area 19 = .ok (.ireturn, 1) := by decide +kernel
theorem d_L_area_20 : decode c_L_area 20 = .ok (.iconst 0, 1) := by decide +kernel
theorem d_L_area_21 : decode c_L_area 21 = .ok (.ireturn, 1) := by decide +kernel
set_option maxHeartbeats 1000000 in
set_option maxRecDepth 100000 in
theorem x_L_area_IB (l : Launch) (D : va_G) (cI cL cZ cS cY : ClassId) (ad : Nat → Nat) (n : Nat) (sh ra plv pco : Int) (ln cb la : Nat → Int) (cu cl fu fl : Nat → Nat) (ys yl yp : Nat → Int) (ou : Nat) (y z : Int) (hy : -2147483648 ≤ y ∧ y < 2147483648) (hz : -2147483648 ≤ z ∧ z < 2147483648) (hbad : ¬ (0 ≤ y ∧ y < n)) (hE : eh_ES n sh ra ln cb la cu cl fu fl ys yl yp) (hl0 : l.stackTraces = false) : eh_X l y_L_area k_L_area 7 111 D classes [(cI, .int), (cL, .long), (cZ, .boolean), (cS, .object "EarthHauls$Section"), (cY, .object "EarthHauls$Yard")] [.ref (ad 0), .int (eI y), .int (eI z), .ref ou] [((ad 0), .inr (4, [.ref (ad 1), .ref (ad 2), .ref (ad 3), .ref (ad 4), .ref (ad 5), .ref (ad 24), .int (eI ((n : Nat) : Int)), .int (eI sh), .int (eI ra), .int (eI plv), .long (eL pco)])), ((ad 1), .inl (cS, 5, .inr (.inr (.inr (.inr (eh_o5 (ad 6) (ad 7) (ad 8) (ad 9) (ad 10))))))), ((ad 2), aI cI 4 ln), ((ad 3), aI cZ 3 cb), ((ad 4), .inl (cY, 3, .inr (.inr (.inr (.inr (eh_o3 (ad 21) (ad 22) (ad 23))))))), ((ad 5), aI cI 30 la), ((ad 6), .inr (2, [.ref (ad 11), .ref (ad 16)])), ((ad 7), .inr (2, [.ref (ad 12), .ref (ad 17)])), ((ad 8), .inr (2, [.ref (ad 13), .ref (ad 18)])), ((ad 9), .inr (2, [.ref (ad 14), .ref (ad 19)])), ((ad 10), .inr (2, [.ref (ad 15), .ref (ad 20)])), ((ad 11), .inr (0, [.long (eL ((cu 0 : Nat) : Int)), .long (eL ((cl 0 : Nat) : Int))])), ((ad 12), .inr (0, [.long (eL ((cu 1 : Nat) : Int)), .long (eL ((cl 1 : Nat) : Int))])), ((ad 13), .inr (0, [.long (eL ((cu 2 : Nat) : Int)), .long (eL ((cl 2 : Nat) : Int))])), ((ad 14), .inr (0, [.long (eL ((cu 3 : Nat) : Int)), .long (eL ((cl 3 : Nat) : Int))])), ((ad 15), .inr (0, [.long (eL ((cu 4 : Nat) : Int)), .long (eL ((cl 4 : Nat) : Int))])), ((ad 16), .inr (0, [.long (eL ((fu 0 : Nat) : Int)), .long (eL ((fl 0 : Nat) : Int))])), ((ad 17), .inr (0, [.long (eL ((fu 1 : Nat) : Int)), .long (eL ((fl 1 : Nat) : Int))])), ((ad 18), .inr (0, [.long (eL ((fu 2 : Nat) : Int)), .long (eL ((fl 2 : Nat) : Int))])), ((ad 19), .inr (0, [.long (eL ((fu 3 : Nat) : Int)), .long (eL ((fl 3 : Nat) : Int))])), ((ad 20), .inr (0, [.long (eL ((fu 4 : Nat) : Int)), .long (eL ((fl 4 : Nat) : Int))])), ((ad 21), .inr (3, [.int (eI (ys 0)), .int (eI (yl 0)), .int (eI (yp 0))])), ((ad 22), .inr (3, [.int (eI (ys 1)), .int (eI (yl 1)), .int (eI (yp 1))])), ((ad 23), .inr (3, [.int (eI (ys 2)), .int (eI (yl 2)), .int (eI (yp 2))]))] 1 := by
  refine eh_ofWL (cc := c_L_area) (maxL := 5) (ret := some .int) (hs := h_L_area) (by decide) rfl ?_
  intro p e s m args below meth c s₁ B hml htb0 hv
  obtain ⟨hargs, hP, hK, hN, hst, hap⟩ := hv
  have hx := B.exec
  have hb := B.bytes
  have hrt := B.returns
  have hts := atoms_spec (ws := k_L_area :: ew_t) B.pre
  have htb : ∀ w ∈ ew_t, w.before args s = true := fun w h => hts w (List.mem_cons_of_mem _ h)
  have hown : s.vm.findClass "EarthHaulsLaw" = some m.cls := findClass_of_methodNamed B.named
  have hlocks := B.notSynchronized
  have htab := eh_tab2 htb0
  have hE9 : entryFrame m args 5 = entryFrame m ([.ref (ad 0), .int (eI y), .int (eI z), .ref ou] : List Value).toArray 5 := by rw [hargs]
  rw [hE9]
  clear hE9 hts B hargs htb0
  generalize hRe : (headSpec _ _).room = R
  have hR1 : R.frames = 7 := by rw [← hRe]; rfl
  have hR2 : R.locals = 111 := by rw [← hRe]; rfl
  have hR3 : R.cells = 1 := by rw [← hRe]; rfl
  have hR4 : R.slots = 6 := by rw [← hRe]; rfl
  clear hRe
  generalize hQ : MQ below _ _ s 1 6 _ = Q
  have hP : va_P D classes [((ad 0), .inr (4, [.ref (ad 1), .ref (ad 2), .ref (ad 3), .ref (ad 4), .ref (ad 5), .ref (ad 24), .int (eI ((n : Nat) : Int)), .int (eI sh), .int (eI ra), .int (eI plv), .long (eL pco)])), ((ad 1), .inl (cS, 5, .inr (.inr (.inr (.inr (eh_o5 (ad 6) (ad 7) (ad 8) (ad 9) (ad 10))))))), ((ad 2), aI cI 4 ln), ((ad 3), aI cZ 3 cb), ((ad 4), .inl (cY, 3, .inr (.inr (.inr (.inr (eh_o3 (ad 21) (ad 22) (ad 23))))))), ((ad 5), aI cI 30 la), ((ad 6), .inr (2, [.ref (ad 11), .ref (ad 16)])), ((ad 7), .inr (2, [.ref (ad 12), .ref (ad 17)])), ((ad 8), .inr (2, [.ref (ad 13), .ref (ad 18)])), ((ad 9), .inr (2, [.ref (ad 14), .ref (ad 19)])), ((ad 10), .inr (2, [.ref (ad 15), .ref (ad 20)])), ((ad 11), .inr (0, [.long (eL ((cu 0 : Nat) : Int)), .long (eL ((cl 0 : Nat) : Int))])), ((ad 12), .inr (0, [.long (eL ((cu 1 : Nat) : Int)), .long (eL ((cl 1 : Nat) : Int))])), ((ad 13), .inr (0, [.long (eL ((cu 2 : Nat) : Int)), .long (eL ((cl 2 : Nat) : Int))])), ((ad 14), .inr (0, [.long (eL ((cu 3 : Nat) : Int)), .long (eL ((cl 3 : Nat) : Int))])), ((ad 15), .inr (0, [.long (eL ((cu 4 : Nat) : Int)), .long (eL ((cl 4 : Nat) : Int))])), ((ad 16), .inr (0, [.long (eL ((fu 0 : Nat) : Int)), .long (eL ((fl 0 : Nat) : Int))])), ((ad 17), .inr (0, [.long (eL ((fu 1 : Nat) : Int)), .long (eL ((fl 1 : Nat) : Int))])), ((ad 18), .inr (0, [.long (eL ((fu 2 : Nat) : Int)), .long (eL ((fl 2 : Nat) : Int))])), ((ad 19), .inr (0, [.long (eL ((fu 3 : Nat) : Int)), .long (eL ((fl 3 : Nat) : Int))])), ((ad 20), .inr (0, [.long (eL ((fu 4 : Nat) : Int)), .long (eL ((fl 4 : Nat) : Int))])), ((ad 21), .inr (3, [.int (eI (ys 0)), .int (eI (yl 0)), .int (eI (yp 0))])), ((ad 22), .inr (3, [.int (eI (ys 1)), .int (eI (yl 1)), .int (eI (yp 1))])), ((ad 23), .inr (3, [.int (eI (ys 2)), .int (eI (yl 2)), .int (eI (yp 2))]))] s.heap := hP
  have hl := lv_entry ([.ref (ad 0), .int (eI y), .int (eI z), .ref ou]) (n := 5) (Nat.le_of_ble_eq_true rfl)
  rw [lg_entry_eq]
  generalize (lg_sl ([.ref (ad 0), .int (eI y), .int (eI z), .ref ou]) ++ List.replicate (5 - (lg_sl ([.ref (ad 0), .int (eI y), .int (eI z), .ref ou])).length) Slot.unset).toArray = ls at hl ⊢
  have hl : lv_has ls 5 [(0, .ref (ad 0)), (1, .int (eI y)), (2, .int (eI z)), (3, .ref ou)] := hl
  refine lv_aload_n hx hb d_L_area_0 rfl (lv_at hl 3 rfl) ?_
  refine lv_iconst (v := eI 0) hx hb d_L_area_1 rfl ?_
  refine lv_aload_n hx hb d_L_area_2 rfl (lv_at hl 0 rfl) ?_
  refine lv_iload_n hx hb d_L_area_3 rfl (lv_at hl 1 rfl) ?_
  refine lv_iload_n hx hb d_L_area_4 rfl (lv_at hl 2 rfl) ?_
  refine eh_cTV1 (As := [.int (eI y), .int (eI z)]) (rest := [.int (eI 0), .ref ou]) (q := (R_E, T_E, 11)) hx hb hml hown htb hN hst (fun _ _ h => h) (va_Nw.use rfl (ew_n_13 hN)) htab (by decide) (by decide) (htb _ tb_448) (t_E_area_IB l D cI cL cZ cS cY ad n sh ra plv pco ln cb la cu cl fu fl ys yl yp y z hy hz hbad hE hl0) 2 ⟨tb_487, tb_488, tb_489, tb_1, kin_E_area⟩ dv_E_area ⟨by rw [hR1]; decide, by rw [hR2]; decide⟩ hK hP 0 rfl rfl [0, 1, 2, 3, 4, 5, 6, 7, 8, 9, 10, 11, 12, 13, 14, 15, 16, 17, 18, 19, 20, 21, 22, 23] rfl [0, 1, 2, 3, 4] rfl rfl rfl hl.1 (Nat.le_of_ble_eq_true rfl) d_L_area_5 ⟨by rw [hR3]; decide, by rw [hR4]; decide⟩ (fun a9 H hz1 hz2 => ?_)
  refine lv_astore hx hb d_L_area_12 hl (by decide) rfl (fun ls hl => ?_)
  have hl : lv_has ls 5 [(4, .ref a9), (0, .ref (ad 0)), (1, .int (eI y)), (2, .int (eI z)), (3, .ref ou)] := hl
  refine lv_iconst (v := eI 1) hx hb d_L_area_14 rfl ?_
  subst hQ
  exact W.iret hx hb hrt (fun t9 ht hW => ⟨rfl, by rw [ht]; exact hz1, by rw [ht]; exact hz2⟩) (fun q h => by cases h) d_L_area_15
set_option maxHeartbeats 1000000 in
set_option maxRecDepth 100000 in
theorem x_L_area_IA (l : Launch) (D : va_G) (cI cL cZ cS cY : ClassId) (ad : Nat → Nat) (n : Nat) (sh ra plv pco : Int) (ln cb la : Nat → Int) (cu cl fu fl : Nat → Nat) (ys yl yp : Nat → Int) (ou : Nat) (y z : Int) (hy : -2147483648 ≤ y ∧ y < 2147483648) (hz : -2147483648 ≤ z ∧ z < 2147483648) (hgood : 0 ≤ y ∧ y < n) (hbad : ¬ (0 ≤ z ∧ z ≤ 3)) (hE : eh_ES n sh ra ln cb la cu cl fu fl ys yl yp) (hl0 : l.stackTraces = false) : eh_X l y_L_area k_L_area 7 111 D classes [(cI, .int), (cL, .long), (cZ, .boolean), (cS, .object "EarthHauls$Section"), (cY, .object "EarthHauls$Yard")] [.ref (ad 0), .int (eI y), .int (eI z), .ref ou] [((ad 0), .inr (4, [.ref (ad 1), .ref (ad 2), .ref (ad 3), .ref (ad 4), .ref (ad 5), .ref (ad 24), .int (eI ((n : Nat) : Int)), .int (eI sh), .int (eI ra), .int (eI plv), .long (eL pco)])), ((ad 1), .inl (cS, 5, .inr (.inr (.inr (.inr (eh_o5 (ad 6) (ad 7) (ad 8) (ad 9) (ad 10))))))), ((ad 2), aI cI 4 ln), ((ad 3), aI cZ 3 cb), ((ad 4), .inl (cY, 3, .inr (.inr (.inr (.inr (eh_o3 (ad 21) (ad 22) (ad 23))))))), ((ad 5), aI cI 30 la), ((ad 6), .inr (2, [.ref (ad 11), .ref (ad 16)])), ((ad 7), .inr (2, [.ref (ad 12), .ref (ad 17)])), ((ad 8), .inr (2, [.ref (ad 13), .ref (ad 18)])), ((ad 9), .inr (2, [.ref (ad 14), .ref (ad 19)])), ((ad 10), .inr (2, [.ref (ad 15), .ref (ad 20)])), ((ad 11), .inr (0, [.long (eL ((cu 0 : Nat) : Int)), .long (eL ((cl 0 : Nat) : Int))])), ((ad 12), .inr (0, [.long (eL ((cu 1 : Nat) : Int)), .long (eL ((cl 1 : Nat) : Int))])), ((ad 13), .inr (0, [.long (eL ((cu 2 : Nat) : Int)), .long (eL ((cl 2 : Nat) : Int))])), ((ad 14), .inr (0, [.long (eL ((cu 3 : Nat) : Int)), .long (eL ((cl 3 : Nat) : Int))])), ((ad 15), .inr (0, [.long (eL ((cu 4 : Nat) : Int)), .long (eL ((cl 4 : Nat) : Int))])), ((ad 16), .inr (0, [.long (eL ((fu 0 : Nat) : Int)), .long (eL ((fl 0 : Nat) : Int))])), ((ad 17), .inr (0, [.long (eL ((fu 1 : Nat) : Int)), .long (eL ((fl 1 : Nat) : Int))])), ((ad 18), .inr (0, [.long (eL ((fu 2 : Nat) : Int)), .long (eL ((fl 2 : Nat) : Int))])), ((ad 19), .inr (0, [.long (eL ((fu 3 : Nat) : Int)), .long (eL ((fl 3 : Nat) : Int))])), ((ad 20), .inr (0, [.long (eL ((fu 4 : Nat) : Int)), .long (eL ((fl 4 : Nat) : Int))])), ((ad 21), .inr (3, [.int (eI (ys 0)), .int (eI (yl 0)), .int (eI (yp 0))])), ((ad 22), .inr (3, [.int (eI (ys 1)), .int (eI (yl 1)), .int (eI (yp 1))])), ((ad 23), .inr (3, [.int (eI (ys 2)), .int (eI (yl 2)), .int (eI (yp 2))]))] 2 := by
  refine eh_ofWL (cc := c_L_area) (maxL := 5) (ret := some .int) (hs := h_L_area) (by decide) rfl ?_
  intro p e s m args below meth c s₁ B hml htb0 hv
  obtain ⟨hargs, hP, hK, hN, hst, hap⟩ := hv
  have hx := B.exec
  have hb := B.bytes
  have hrt := B.returns
  have hts := atoms_spec (ws := k_L_area :: ew_t) B.pre
  have htb : ∀ w ∈ ew_t, w.before args s = true := fun w h => hts w (List.mem_cons_of_mem _ h)
  have hown : s.vm.findClass "EarthHaulsLaw" = some m.cls := findClass_of_methodNamed B.named
  have hlocks := B.notSynchronized
  have htab := eh_tab2 htb0
  have hE9 : entryFrame m args 5 = entryFrame m ([.ref (ad 0), .int (eI y), .int (eI z), .ref ou] : List Value).toArray 5 := by rw [hargs]
  rw [hE9]
  clear hE9 hts B hargs htb0
  generalize hRe : (headSpec _ _).room = R
  have hR1 : R.frames = 7 := by rw [← hRe]; rfl
  have hR2 : R.locals = 111 := by rw [← hRe]; rfl
  have hR3 : R.cells = 1 := by rw [← hRe]; rfl
  have hR4 : R.slots = 6 := by rw [← hRe]; rfl
  clear hRe
  generalize hQ : MQ below _ _ s 1 6 _ = Q
  have hP : va_P D classes [((ad 0), .inr (4, [.ref (ad 1), .ref (ad 2), .ref (ad 3), .ref (ad 4), .ref (ad 5), .ref (ad 24), .int (eI ((n : Nat) : Int)), .int (eI sh), .int (eI ra), .int (eI plv), .long (eL pco)])), ((ad 1), .inl (cS, 5, .inr (.inr (.inr (.inr (eh_o5 (ad 6) (ad 7) (ad 8) (ad 9) (ad 10))))))), ((ad 2), aI cI 4 ln), ((ad 3), aI cZ 3 cb), ((ad 4), .inl (cY, 3, .inr (.inr (.inr (.inr (eh_o3 (ad 21) (ad 22) (ad 23))))))), ((ad 5), aI cI 30 la), ((ad 6), .inr (2, [.ref (ad 11), .ref (ad 16)])), ((ad 7), .inr (2, [.ref (ad 12), .ref (ad 17)])), ((ad 8), .inr (2, [.ref (ad 13), .ref (ad 18)])), ((ad 9), .inr (2, [.ref (ad 14), .ref (ad 19)])), ((ad 10), .inr (2, [.ref (ad 15), .ref (ad 20)])), ((ad 11), .inr (0, [.long (eL ((cu 0 : Nat) : Int)), .long (eL ((cl 0 : Nat) : Int))])), ((ad 12), .inr (0, [.long (eL ((cu 1 : Nat) : Int)), .long (eL ((cl 1 : Nat) : Int))])), ((ad 13), .inr (0, [.long (eL ((cu 2 : Nat) : Int)), .long (eL ((cl 2 : Nat) : Int))])), ((ad 14), .inr (0, [.long (eL ((cu 3 : Nat) : Int)), .long (eL ((cl 3 : Nat) : Int))])), ((ad 15), .inr (0, [.long (eL ((cu 4 : Nat) : Int)), .long (eL ((cl 4 : Nat) : Int))])), ((ad 16), .inr (0, [.long (eL ((fu 0 : Nat) : Int)), .long (eL ((fl 0 : Nat) : Int))])), ((ad 17), .inr (0, [.long (eL ((fu 1 : Nat) : Int)), .long (eL ((fl 1 : Nat) : Int))])), ((ad 18), .inr (0, [.long (eL ((fu 2 : Nat) : Int)), .long (eL ((fl 2 : Nat) : Int))])), ((ad 19), .inr (0, [.long (eL ((fu 3 : Nat) : Int)), .long (eL ((fl 3 : Nat) : Int))])), ((ad 20), .inr (0, [.long (eL ((fu 4 : Nat) : Int)), .long (eL ((fl 4 : Nat) : Int))])), ((ad 21), .inr (3, [.int (eI (ys 0)), .int (eI (yl 0)), .int (eI (yp 0))])), ((ad 22), .inr (3, [.int (eI (ys 1)), .int (eI (yl 1)), .int (eI (yp 1))])), ((ad 23), .inr (3, [.int (eI (ys 2)), .int (eI (yl 2)), .int (eI (yp 2))]))] s.heap := hP
  have hl := lv_entry ([.ref (ad 0), .int (eI y), .int (eI z), .ref ou]) (n := 5) (Nat.le_of_ble_eq_true rfl)
  rw [lg_entry_eq]
  generalize (lg_sl ([.ref (ad 0), .int (eI y), .int (eI z), .ref ou]) ++ List.replicate (5 - (lg_sl ([.ref (ad 0), .int (eI y), .int (eI z), .ref ou])).length) Slot.unset).toArray = ls at hl ⊢
  have hl : lv_has ls 5 [(0, .ref (ad 0)), (1, .int (eI y)), (2, .int (eI z)), (3, .ref ou)] := hl
  refine lv_aload_n hx hb d_L_area_0 rfl (lv_at hl 3 rfl) ?_
  refine lv_iconst (v := eI 0) hx hb d_L_area_1 rfl ?_
  refine lv_aload_n hx hb d_L_area_2 rfl (lv_at hl 0 rfl) ?_
  refine lv_iload_n hx hb d_L_area_3 rfl (lv_at hl 1 rfl) ?_
  refine lv_iload_n hx hb d_L_area_4 rfl (lv_at hl 2 rfl) ?_
  refine eh_cTV2 (nm := eh_IB) (As := [.int (eI y), .int (eI z)]) (rest := [.int (eI 0), .ref ou]) (q := (R_E, T_E, 11)) hx hb hml hown htb hN hst (fun _ _ h => h) (va_Nw.use rfl (ew_n_11 hN)) htab (by decide) (by decide) (htb _ tb_448) hap.2.2 (by decide) (by decide) (htb _ tb_324) (t_E_area_IA l D cI cL cZ cS cY ad n sh ra plv pco ln cb la cu cl fu fl ys yl yp y z hy hz hgood hbad hE hl0) 2 ⟨tb_487, tb_488, tb_489, tb_1, kin_E_area⟩ dv_E_area ⟨by rw [hR1]; decide, by rw [hR2]; decide⟩ hK hP 0 rfl rfl [0, 1, 2, 3, 4, 5, 6, 7, 8, 9, 10, 11, 12, 13, 14, 15, 16, 17, 18, 19, 20, 21, 22, 23] rfl [0, 1, 2, 3, 4] rfl rfl rfl hl.1 (Nat.le_of_ble_eq_true rfl) d_L_area_5 ⟨by rw [hR3]; decide, by rw [hR4]; decide⟩ (fun a9 H hz1 hz2 => ?_)
  refine lv_astore hx hb d_L_area_16 hl (by decide) rfl (fun ls hl => ?_)
  have hl : lv_has ls 5 [(4, .ref a9), (0, .ref (ad 0)), (1, .int (eI y)), (2, .int (eI z)), (3, .ref ou)] := hl
  refine lv_iconst (v := eI 2) hx hb d_L_area_18 rfl ?_
  subst hQ
  exact W.iret hx hb hrt (fun t9 ht hW => ⟨rfl, by rw [ht]; exact hz1, by rw [ht]; exact hz2⟩) (fun q h => by cases h) d_L_area_19
abbrev c_L_litres : ByteArray := method_8_code
def y_L_litres : MethodName := ⟨"EarthHaulsLaw", "litres", "(LEarthHauls;II[J)I"⟩
abbrev h_L_litres : List (Nat × Nat × Nat × Nat) := [(0, 10, 13, 25), (0, 10, 17, 13)]
abbrev k_L_litres : Cond := .codeWith y_L_litres c_L_litres 5 (some .int) h_L_litres
theorem kin_L_litres : k_L_litres ∈ ew_t := tb_497
theorem dv_L_litres : eh_dS y_L_litres 4 := ⟨by decide, by decide, by decide +kernel⟩
theorem d_L_litres_0 : decode c_L_litres 0 = .ok (.aload_n 3, 1) := by decide +kernel
theorem d_L_litres_1 : decode c_L_litres 1 = .ok (.iconst 0, 1) := by decide +kernel
theorem d_L_litres_2 : decode c_L_litres 2 = .ok (.aload_n 0, 1) := by decide +kernel
theorem d_L_litres_3 : decode c_L_litres 3 = .ok (.iload_n 1, 1) := by decide +kernel
theorem d_L_litres_4 : decode c_L_litres 4 = .ok (.iload_n 2, 1) := by decide +kernel
theorem d_L_litres_5 : decode c_L_litres 5 = .ok (.invokevirtual 35, 3) := by decide +kernel
theorem d_L_litres_8 : decode c_L_litres 8 = .ok (.i2l, 1) := by decide +kernel
theorem d_L_litres_9 : decode c_L_litres 9 = .ok (.lastore, 1) := by decide +kernel
theorem d_L_litres_10 : decode c_L_litres 10 = .ok (.goto 11, 3) := by decide +kernel
theorem d_L_litres_13 : decode c_L_litres 13 = .ok (.astore 4, 2) := by decide +kernel
theorem d_L_litres_15 : decode c_L_litres 15 = .ok (.iconst 1, 1) := by decide +kernel
theorem d_L_litres_16 : decode c_L_litres 16 = .ok (.ireturn, 1) := by decide +kernel
theorem d_L_litres_17 : decode c_L_litres 17 = .ok (.astore 4, 2) := by decide +kernel
theorem d_L_litres_19 : decode c_L_litres 19 = .ok (.iconst 2, 1) := by decide +kernel
theorem d_L_litres_20 : decode c_L_litres 20 = .ok (.ireturn, 1) := by decide +kernel
theorem d_L_litres_21 : decode c_L_litres 21 = .ok (.iconst 0, 1) := by decide +kernel
theorem d_L_litres_22 : decode c_L_litres 22 = .ok (.ireturn, 1) := by decide +kernel
set_option maxHeartbeats 1000000 in
set_option maxRecDepth 100000 in
theorem x_L_litres_IB (l : Launch) (D : va_G) (cI cL cZ cS cY : ClassId) (ad : Nat → Nat) (n : Nat) (sh ra plv pco : Int) (ln cb la : Nat → Int) (cu cl fu fl : Nat → Nat) (ys yl yp : Nat → Int) (ou : Nat) (y z : Int) (hy : -2147483648 ≤ y ∧ y < 2147483648) (hz : -2147483648 ≤ z ∧ z < 2147483648) (hbad : ¬ (0 ≤ y ∧ y + 1 < n)) (hE : eh_ES n sh ra ln cb la cu cl fu fl ys yl yp) (hl0 : l.stackTraces = false) : eh_X l y_L_litres k_L_litres 7 111 D classes [(cI, .int), (cL, .long), (cZ, .boolean), (cS, .object "EarthHauls$Section"), (cY, .object "EarthHauls$Yard")] [.ref (ad 0), .int (eI y), .int (eI z), .ref ou] [((ad 0), .inr (4, [.ref (ad 1), .ref (ad 2), .ref (ad 3), .ref (ad 4), .ref (ad 5), .ref (ad 24), .int (eI ((n : Nat) : Int)), .int (eI sh), .int (eI ra), .int (eI plv), .long (eL pco)])), ((ad 1), .inl (cS, 5, .inr (.inr (.inr (.inr (eh_o5 (ad 6) (ad 7) (ad 8) (ad 9) (ad 10))))))), ((ad 2), aI cI 4 ln), ((ad 3), aI cZ 3 cb), ((ad 4), .inl (cY, 3, .inr (.inr (.inr (.inr (eh_o3 (ad 21) (ad 22) (ad 23))))))), ((ad 5), aI cI 30 la), ((ad 6), .inr (2, [.ref (ad 11), .ref (ad 16)])), ((ad 7), .inr (2, [.ref (ad 12), .ref (ad 17)])), ((ad 8), .inr (2, [.ref (ad 13), .ref (ad 18)])), ((ad 9), .inr (2, [.ref (ad 14), .ref (ad 19)])), ((ad 10), .inr (2, [.ref (ad 15), .ref (ad 20)])), ((ad 11), .inr (0, [.long (eL ((cu 0 : Nat) : Int)), .long (eL ((cl 0 : Nat) : Int))])), ((ad 12), .inr (0, [.long (eL ((cu 1 : Nat) : Int)), .long (eL ((cl 1 : Nat) : Int))])), ((ad 13), .inr (0, [.long (eL ((cu 2 : Nat) : Int)), .long (eL ((cl 2 : Nat) : Int))])), ((ad 14), .inr (0, [.long (eL ((cu 3 : Nat) : Int)), .long (eL ((cl 3 : Nat) : Int))])), ((ad 15), .inr (0, [.long (eL ((cu 4 : Nat) : Int)), .long (eL ((cl 4 : Nat) : Int))])), ((ad 16), .inr (0, [.long (eL ((fu 0 : Nat) : Int)), .long (eL ((fl 0 : Nat) : Int))])), ((ad 17), .inr (0, [.long (eL ((fu 1 : Nat) : Int)), .long (eL ((fl 1 : Nat) : Int))])), ((ad 18), .inr (0, [.long (eL ((fu 2 : Nat) : Int)), .long (eL ((fl 2 : Nat) : Int))])), ((ad 19), .inr (0, [.long (eL ((fu 3 : Nat) : Int)), .long (eL ((fl 3 : Nat) : Int))])), ((ad 20), .inr (0, [.long (eL ((fu 4 : Nat) : Int)), .long (eL ((fl 4 : Nat) : Int))])), ((ad 21), .inr (3, [.int (eI (ys 0)), .int (eI (yl 0)), .int (eI (yp 0))])), ((ad 22), .inr (3, [.int (eI (ys 1)), .int (eI (yl 1)), .int (eI (yp 1))])), ((ad 23), .inr (3, [.int (eI (ys 2)), .int (eI (yl 2)), .int (eI (yp 2))]))] 1 := by
  refine eh_ofWL (cc := c_L_litres) (maxL := 5) (ret := some .int) (hs := h_L_litres) (by decide) rfl ?_
  intro p e s m args below meth c s₁ B hml htb0 hv
  obtain ⟨hargs, hP, hK, hN, hst, hap⟩ := hv
  have hx := B.exec
  have hb := B.bytes
  have hrt := B.returns
  have hts := atoms_spec (ws := k_L_litres :: ew_t) B.pre
  have htb : ∀ w ∈ ew_t, w.before args s = true := fun w h => hts w (List.mem_cons_of_mem _ h)
  have hown : s.vm.findClass "EarthHaulsLaw" = some m.cls := findClass_of_methodNamed B.named
  have hlocks := B.notSynchronized
  have htab := eh_tab2 htb0
  have hE9 : entryFrame m args 5 = entryFrame m ([.ref (ad 0), .int (eI y), .int (eI z), .ref ou] : List Value).toArray 5 := by rw [hargs]
  rw [hE9]
  clear hE9 hts B hargs htb0
  generalize hRe : (headSpec _ _).room = R
  have hR1 : R.frames = 7 := by rw [← hRe]; rfl
  have hR2 : R.locals = 111 := by rw [← hRe]; rfl
  have hR3 : R.cells = 1 := by rw [← hRe]; rfl
  have hR4 : R.slots = 6 := by rw [← hRe]; rfl
  clear hRe
  generalize hQ : MQ below _ _ s 1 6 _ = Q
  have hP : va_P D classes [((ad 0), .inr (4, [.ref (ad 1), .ref (ad 2), .ref (ad 3), .ref (ad 4), .ref (ad 5), .ref (ad 24), .int (eI ((n : Nat) : Int)), .int (eI sh), .int (eI ra), .int (eI plv), .long (eL pco)])), ((ad 1), .inl (cS, 5, .inr (.inr (.inr (.inr (eh_o5 (ad 6) (ad 7) (ad 8) (ad 9) (ad 10))))))), ((ad 2), aI cI 4 ln), ((ad 3), aI cZ 3 cb), ((ad 4), .inl (cY, 3, .inr (.inr (.inr (.inr (eh_o3 (ad 21) (ad 22) (ad 23))))))), ((ad 5), aI cI 30 la), ((ad 6), .inr (2, [.ref (ad 11), .ref (ad 16)])), ((ad 7), .inr (2, [.ref (ad 12), .ref (ad 17)])), ((ad 8), .inr (2, [.ref (ad 13), .ref (ad 18)])), ((ad 9), .inr (2, [.ref (ad 14), .ref (ad 19)])), ((ad 10), .inr (2, [.ref (ad 15), .ref (ad 20)])), ((ad 11), .inr (0, [.long (eL ((cu 0 : Nat) : Int)), .long (eL ((cl 0 : Nat) : Int))])), ((ad 12), .inr (0, [.long (eL ((cu 1 : Nat) : Int)), .long (eL ((cl 1 : Nat) : Int))])), ((ad 13), .inr (0, [.long (eL ((cu 2 : Nat) : Int)), .long (eL ((cl 2 : Nat) : Int))])), ((ad 14), .inr (0, [.long (eL ((cu 3 : Nat) : Int)), .long (eL ((cl 3 : Nat) : Int))])), ((ad 15), .inr (0, [.long (eL ((cu 4 : Nat) : Int)), .long (eL ((cl 4 : Nat) : Int))])), ((ad 16), .inr (0, [.long (eL ((fu 0 : Nat) : Int)), .long (eL ((fl 0 : Nat) : Int))])), ((ad 17), .inr (0, [.long (eL ((fu 1 : Nat) : Int)), .long (eL ((fl 1 : Nat) : Int))])), ((ad 18), .inr (0, [.long (eL ((fu 2 : Nat) : Int)), .long (eL ((fl 2 : Nat) : Int))])), ((ad 19), .inr (0, [.long (eL ((fu 3 : Nat) : Int)), .long (eL ((fl 3 : Nat) : Int))])), ((ad 20), .inr (0, [.long (eL ((fu 4 : Nat) : Int)), .long (eL ((fl 4 : Nat) : Int))])), ((ad 21), .inr (3, [.int (eI (ys 0)), .int (eI (yl 0)), .int (eI (yp 0))])), ((ad 22), .inr (3, [.int (eI (ys 1)), .int (eI (yl 1)), .int (eI (yp 1))])), ((ad 23), .inr (3, [.int (eI (ys 2)), .int (eI (yl 2)), .int (eI (yp 2))]))] s.heap := hP
  have hl := lv_entry ([.ref (ad 0), .int (eI y), .int (eI z), .ref ou]) (n := 5) (Nat.le_of_ble_eq_true rfl)
  rw [lg_entry_eq]
  generalize (lg_sl ([.ref (ad 0), .int (eI y), .int (eI z), .ref ou]) ++ List.replicate (5 - (lg_sl ([.ref (ad 0), .int (eI y), .int (eI z), .ref ou])).length) Slot.unset).toArray = ls at hl ⊢
  have hl : lv_has ls 5 [(0, .ref (ad 0)), (1, .int (eI y)), (2, .int (eI z)), (3, .ref ou)] := hl
  refine lv_aload_n hx hb d_L_litres_0 rfl (lv_at hl 3 rfl) ?_
  refine lv_iconst (v := eI 0) hx hb d_L_litres_1 rfl ?_
  refine lv_aload_n hx hb d_L_litres_2 rfl (lv_at hl 0 rfl) ?_
  refine lv_iload_n hx hb d_L_litres_3 rfl (lv_at hl 1 rfl) ?_
  refine lv_iload_n hx hb d_L_litres_4 rfl (lv_at hl 2 rfl) ?_
  refine eh_cTV1 (As := [.int (eI y), .int (eI z)]) (rest := [.int (eI 0), .ref ou]) (q := (R_E, T_E, 11)) hx hb hml hown htb hN hst (fun _ _ h => h) (va_Nw.use rfl (ew_n_13 hN)) htab (by decide) (by decide) (htb _ tb_448) (t_E_litres_IB l D cI cL cZ cS cY ad n sh ra plv pco ln cb la cu cl fu fl ys yl yp y z hy hz hbad hE hl0) 2 ⟨tb_498, tb_499, tb_500, tb_1, kin_E_litres⟩ dv_E_litres ⟨by rw [hR1]; decide, by rw [hR2]; decide⟩ hK hP 0 rfl rfl [0, 1, 2, 3, 4, 5, 6, 7, 8, 9, 10, 11, 12, 13, 14, 15, 16, 17, 18, 19, 20, 21, 22, 23] rfl [0, 1, 2, 3, 4] rfl rfl rfl hl.1 (Nat.le_of_ble_eq_true rfl) d_L_litres_5 ⟨by rw [hR3]; decide, by rw [hR4]; decide⟩ (fun a9 H hz1 hz2 => ?_)
  refine lv_astore hx hb d_L_litres_13 hl (by decide) rfl (fun ls hl => ?_)
  have hl : lv_has ls 5 [(4, .ref a9), (0, .ref (ad 0)), (1, .int (eI y)), (2, .int (eI z)), (3, .ref ou)] := hl
  refine lv_iconst (v := eI 1) hx hb d_L_litres_15 rfl ?_
  subst hQ
  exact W.iret hx hb hrt (fun t9 ht hW => ⟨rfl, by rw [ht]; exact hz1, by rw [ht]; exact hz2⟩) (fun q h => by cases h) d_L_litres_16
set_option maxHeartbeats 1000000 in
set_option maxRecDepth 100000 in
theorem x_L_litres_IA (l : Launch) (D : va_G) (cI cL cZ cS cY : ClassId) (ad : Nat → Nat) (n : Nat) (sh ra plv pco : Int) (ln cb la : Nat → Int) (cu cl fu fl : Nat → Nat) (ys yl yp : Nat → Int) (ou : Nat) (y z : Int) (hy : -2147483648 ≤ y ∧ y < 2147483648) (hz : -2147483648 ≤ z ∧ z < 2147483648) (hgood : 0 ≤ y ∧ y + 1 < n) (hbad : ¬ (0 ≤ z ∧ z ≤ 2)) (hE : eh_ES n sh ra ln cb la cu cl fu fl ys yl yp) (hl0 : l.stackTraces = false) : eh_X l y_L_litres k_L_litres 7 111 D classes [(cI, .int), (cL, .long), (cZ, .boolean), (cS, .object "EarthHauls$Section"), (cY, .object "EarthHauls$Yard")] [.ref (ad 0), .int (eI y), .int (eI z), .ref ou] [((ad 0), .inr (4, [.ref (ad 1), .ref (ad 2), .ref (ad 3), .ref (ad 4), .ref (ad 5), .ref (ad 24), .int (eI ((n : Nat) : Int)), .int (eI sh), .int (eI ra), .int (eI plv), .long (eL pco)])), ((ad 1), .inl (cS, 5, .inr (.inr (.inr (.inr (eh_o5 (ad 6) (ad 7) (ad 8) (ad 9) (ad 10))))))), ((ad 2), aI cI 4 ln), ((ad 3), aI cZ 3 cb), ((ad 4), .inl (cY, 3, .inr (.inr (.inr (.inr (eh_o3 (ad 21) (ad 22) (ad 23))))))), ((ad 5), aI cI 30 la), ((ad 6), .inr (2, [.ref (ad 11), .ref (ad 16)])), ((ad 7), .inr (2, [.ref (ad 12), .ref (ad 17)])), ((ad 8), .inr (2, [.ref (ad 13), .ref (ad 18)])), ((ad 9), .inr (2, [.ref (ad 14), .ref (ad 19)])), ((ad 10), .inr (2, [.ref (ad 15), .ref (ad 20)])), ((ad 11), .inr (0, [.long (eL ((cu 0 : Nat) : Int)), .long (eL ((cl 0 : Nat) : Int))])), ((ad 12), .inr (0, [.long (eL ((cu 1 : Nat) : Int)), .long (eL ((cl 1 : Nat) : Int))])), ((ad 13), .inr (0, [.long (eL ((cu 2 : Nat) : Int)), .long (eL ((cl 2 : Nat) : Int))])), ((ad 14), .inr (0, [.long (eL ((cu 3 : Nat) : Int)), .long (eL ((cl 3 : Nat) : Int))])), ((ad 15), .inr (0, [.long (eL ((cu 4 : Nat) : Int)), .long (eL ((cl 4 : Nat) : Int))])), ((ad 16), .inr (0, [.long (eL ((fu 0 : Nat) : Int)), .long (eL ((fl 0 : Nat) : Int))])), ((ad 17), .inr (0, [.long (eL ((fu 1 : Nat) : Int)), .long (eL ((fl 1 : Nat) : Int))])), ((ad 18), .inr (0, [.long (eL ((fu 2 : Nat) : Int)), .long (eL ((fl 2 : Nat) : Int))])), ((ad 19), .inr (0, [.long (eL ((fu 3 : Nat) : Int)), .long (eL ((fl 3 : Nat) : Int))])), ((ad 20), .inr (0, [.long (eL ((fu 4 : Nat) : Int)), .long (eL ((fl 4 : Nat) : Int))])), ((ad 21), .inr (3, [.int (eI (ys 0)), .int (eI (yl 0)), .int (eI (yp 0))])), ((ad 22), .inr (3, [.int (eI (ys 1)), .int (eI (yl 1)), .int (eI (yp 1))])), ((ad 23), .inr (3, [.int (eI (ys 2)), .int (eI (yl 2)), .int (eI (yp 2))]))] 2 := by
  refine eh_ofWL (cc := c_L_litres) (maxL := 5) (ret := some .int) (hs := h_L_litres) (by decide) rfl ?_
  intro p e s m args below meth c s₁ B hml htb0 hv
  obtain ⟨hargs, hP, hK, hN, hst, hap⟩ := hv
  have hx := B.exec
  have hb := B.bytes
  have hrt := B.returns
  have hts := atoms_spec (ws := k_L_litres :: ew_t) B.pre
  have htb : ∀ w ∈ ew_t, w.before args s = true := fun w h => hts w (List.mem_cons_of_mem _ h)
  have hown : s.vm.findClass "EarthHaulsLaw" = some m.cls := findClass_of_methodNamed B.named
  have hlocks := B.notSynchronized
  have htab := eh_tab2 htb0
  have hE9 : entryFrame m args 5 = entryFrame m ([.ref (ad 0), .int (eI y), .int (eI z), .ref ou] : List Value).toArray 5 := by rw [hargs]
  rw [hE9]
  clear hE9 hts B hargs htb0
  generalize hRe : (headSpec _ _).room = R
  have hR1 : R.frames = 7 := by rw [← hRe]; rfl
  have hR2 : R.locals = 111 := by rw [← hRe]; rfl
  have hR3 : R.cells = 1 := by rw [← hRe]; rfl
  have hR4 : R.slots = 6 := by rw [← hRe]; rfl
  clear hRe
  generalize hQ : MQ below _ _ s 1 6 _ = Q
  have hP : va_P D classes [((ad 0), .inr (4, [.ref (ad 1), .ref (ad 2), .ref (ad 3), .ref (ad 4), .ref (ad 5), .ref (ad 24), .int (eI ((n : Nat) : Int)), .int (eI sh), .int (eI ra), .int (eI plv), .long (eL pco)])), ((ad 1), .inl (cS, 5, .inr (.inr (.inr (.inr (eh_o5 (ad 6) (ad 7) (ad 8) (ad 9) (ad 10))))))), ((ad 2), aI cI 4 ln), ((ad 3), aI cZ 3 cb), ((ad 4), .inl (cY, 3, .inr (.inr (.inr (.inr (eh_o3 (ad 21) (ad 22) (ad 23))))))), ((ad 5), aI cI 30 la), ((ad 6), .inr (2, [.ref (ad 11), .ref (ad 16)])), ((ad 7), .inr (2, [.ref (ad 12), .ref (ad 17)])), ((ad 8), .inr (2, [.ref (ad 13), .ref (ad 18)])), ((ad 9), .inr (2, [.ref (ad 14), .ref (ad 19)])), ((ad 10), .inr (2, [.ref (ad 15), .ref (ad 20)])), ((ad 11), .inr (0, [.long (eL ((cu 0 : Nat) : Int)), .long (eL ((cl 0 : Nat) : Int))])), ((ad 12), .inr (0, [.long (eL ((cu 1 : Nat) : Int)), .long (eL ((cl 1 : Nat) : Int))])), ((ad 13), .inr (0, [.long (eL ((cu 2 : Nat) : Int)), .long (eL ((cl 2 : Nat) : Int))])), ((ad 14), .inr (0, [.long (eL ((cu 3 : Nat) : Int)), .long (eL ((cl 3 : Nat) : Int))])), ((ad 15), .inr (0, [.long (eL ((cu 4 : Nat) : Int)), .long (eL ((cl 4 : Nat) : Int))])), ((ad 16), .inr (0, [.long (eL ((fu 0 : Nat) : Int)), .long (eL ((fl 0 : Nat) : Int))])), ((ad 17), .inr (0, [.long (eL ((fu 1 : Nat) : Int)), .long (eL ((fl 1 : Nat) : Int))])), ((ad 18), .inr (0, [.long (eL ((fu 2 : Nat) : Int)), .long (eL ((fl 2 : Nat) : Int))])), ((ad 19), .inr (0, [.long (eL ((fu 3 : Nat) : Int)), .long (eL ((fl 3 : Nat) : Int))])), ((ad 20), .inr (0, [.long (eL ((fu 4 : Nat) : Int)), .long (eL ((fl 4 : Nat) : Int))])), ((ad 21), .inr (3, [.int (eI (ys 0)), .int (eI (yl 0)), .int (eI (yp 0))])), ((ad 22), .inr (3, [.int (eI (ys 1)), .int (eI (yl 1)), .int (eI (yp 1))])), ((ad 23), .inr (3, [.int (eI (ys 2)), .int (eI (yl 2)), .int (eI (yp 2))]))] s.heap := hP
  have hl := lv_entry ([.ref (ad 0), .int (eI y), .int (eI z), .ref ou]) (n := 5) (Nat.le_of_ble_eq_true rfl)
  rw [lg_entry_eq]
  generalize (lg_sl ([.ref (ad 0), .int (eI y), .int (eI z), .ref ou]) ++ List.replicate (5 - (lg_sl ([.ref (ad 0), .int (eI y), .int (eI z), .ref ou])).length) Slot.unset).toArray = ls at hl ⊢
  have hl : lv_has ls 5 [(0, .ref (ad 0)), (1, .int (eI y)), (2, .int (eI z)), (3, .ref ou)] := hl
  refine lv_aload_n hx hb d_L_litres_0 rfl (lv_at hl 3 rfl) ?_
  refine lv_iconst (v := eI 0) hx hb d_L_litres_1 rfl ?_
  refine lv_aload_n hx hb d_L_litres_2 rfl (lv_at hl 0 rfl) ?_
  refine lv_iload_n hx hb d_L_litres_3 rfl (lv_at hl 1 rfl) ?_
  refine lv_iload_n hx hb d_L_litres_4 rfl (lv_at hl 2 rfl) ?_
  refine eh_cTV2 (nm := eh_IB) (As := [.int (eI y), .int (eI z)]) (rest := [.int (eI 0), .ref ou]) (q := (R_E, T_E, 11)) hx hb hml hown htb hN hst (fun _ _ h => h) (va_Nw.use rfl (ew_n_11 hN)) htab (by decide) (by decide) (htb _ tb_448) hap.2.2 (by decide) (by decide) (htb _ tb_324) (t_E_litres_IA l D cI cL cZ cS cY ad n sh ra plv pco ln cb la cu cl fu fl ys yl yp y z hy hz hgood hbad hE hl0) 2 ⟨tb_498, tb_499, tb_500, tb_1, kin_E_litres⟩ dv_E_litres ⟨by rw [hR1]; decide, by rw [hR2]; decide⟩ hK hP 0 rfl rfl [0, 1, 2, 3, 4, 5, 6, 7, 8, 9, 10, 11, 12, 13, 14, 15, 16, 17, 18, 19, 20, 21, 22, 23] rfl [0, 1, 2, 3, 4] rfl rfl rfl hl.1 (Nat.le_of_ble_eq_true rfl) d_L_litres_5 ⟨by rw [hR3]; decide, by rw [hR4]; decide⟩ (fun a9 H hz1 hz2 => ?_)
  refine lv_astore hx hb d_L_litres_17 hl (by decide) rfl (fun ls hl => ?_)
  have hl : lv_has ls 5 [(4, .ref a9), (0, .ref (ad 0)), (1, .int (eI y)), (2, .int (eI z)), (3, .ref ou)] := hl
  refine lv_iconst (v := eI 2) hx hb d_L_litres_19 rfl ?_
  subst hQ
  exact W.iret hx hb hrt (fun t9 ht hW => ⟨rfl, by rw [ht]; exact hz1, by rw [ht]; exact hz2⟩) (fun q h => by cases h) d_L_litres_20
abbrev c_L_curve : ByteArray := method_9_code
def y_L_curve : MethodName := ⟨"EarthHaulsLaw", "curve", "(LEarthHauls;I[J)I"⟩
abbrev h_L_curve : List (Nat × Nat × Nat × Nat) := [(0, 9, 12, 25)]
abbrev k_L_curve : Cond := .codeWith y_L_curve c_L_curve 4 (some .int) h_L_curve
theorem kin_L_curve : k_L_curve ∈ ew_t := tb_504
theorem dv_L_curve : eh_dS y_L_curve 3 := ⟨by decide, by decide, by decide +kernel⟩
theorem d_L_curve_0 : decode c_L_curve 0 = .ok (.aload_n 2, 1) := by decide +kernel
theorem d_L_curve_1 : decode c_L_curve 1 = .ok (.iconst 0, 1) := by decide +kernel
theorem d_L_curve_2 : decode c_L_curve 2 = .ok (.aload_n 0, 1) := by decide +kernel
theorem d_L_curve_3 : decode c_L_curve 3 = .ok (.iload_n 1, 1) := by decide +kernel
theorem d_L_curve_4 : decode c_L_curve 4 = .ok (.invokevirtual 39, 3) := by decide +kernel
theorem d_L_curve_7 : decode c_L_curve 7 = .ok (.i2l, 1) := by decide +kernel
theorem d_L_curve_8 : decode c_L_curve 8 = .ok (.lastore, 1) := by decide +kernel
theorem d_L_curve_9 : decode c_L_curve 9 = .ok (.goto 6, 3) := by decide +kernel
theorem d_L_curve_12 : decode c_L_curve 12 = .ok (.astore_n 3, 1) := by decide +kernel
theorem d_L_curve_13 : decode c_L_curve 13 = .ok (.iconst 1, 1) := by decide +kernel
theorem d_L_curve_14 : decode c_L_curve 14 = .ok (.ireturn, 1) := by decide +kernel
theorem d_L_curve_15 : decode c_L_curve 15 = .ok (.iconst 0, 1) := by decide +kernel
theorem d_L_curve_16 : decode c_L_curve 16 = .ok (.ireturn, 1) := by decide +kernel
set_option maxHeartbeats 1000000 in
set_option maxRecDepth 100000 in
theorem x_L_curve_IB (l : Launch) (D : va_G) (cI cL cZ cS cY : ClassId) (ad : Nat → Nat) (n : Nat) (sh ra plv pco : Int) (ln cb la : Nat → Int) (cu cl fu fl : Nat → Nat) (ys yl yp : Nat → Int) (ou : Nat) (y : Int) (hy : -2147483648 ≤ y ∧ y < 2147483648) (hbad : ¬ (0 ≤ y ∧ y < n)) (hE : eh_ES n sh ra ln cb la cu cl fu fl ys yl yp) (hl0 : l.stackTraces = false) : eh_X l y_L_curve k_L_curve 7 112 D classes [(cI, .int), (cL, .long), (cZ, .boolean), (cS, .object "EarthHauls$Section"), (cY, .object "EarthHauls$Yard")] [.ref (ad 0), .int (eI y), .ref ou] [((ad 0), .inr (4, [.ref (ad 1), .ref (ad 2), .ref (ad 3), .ref (ad 4), .ref (ad 5), .ref (ad 24), .int (eI ((n : Nat) : Int)), .int (eI sh), .int (eI ra), .int (eI plv), .long (eL pco)])), ((ad 1), .inl (cS, 5, .inr (.inr (.inr (.inr (eh_o5 (ad 6) (ad 7) (ad 8) (ad 9) (ad 10))))))), ((ad 2), aI cI 4 ln), ((ad 3), aI cZ 3 cb), ((ad 4), .inl (cY, 3, .inr (.inr (.inr (.inr (eh_o3 (ad 21) (ad 22) (ad 23))))))), ((ad 5), aI cI 30 la), ((ad 6), .inr (2, [.ref (ad 11), .ref (ad 16)])), ((ad 7), .inr (2, [.ref (ad 12), .ref (ad 17)])), ((ad 8), .inr (2, [.ref (ad 13), .ref (ad 18)])), ((ad 9), .inr (2, [.ref (ad 14), .ref (ad 19)])), ((ad 10), .inr (2, [.ref (ad 15), .ref (ad 20)])), ((ad 11), .inr (0, [.long (eL ((cu 0 : Nat) : Int)), .long (eL ((cl 0 : Nat) : Int))])), ((ad 12), .inr (0, [.long (eL ((cu 1 : Nat) : Int)), .long (eL ((cl 1 : Nat) : Int))])), ((ad 13), .inr (0, [.long (eL ((cu 2 : Nat) : Int)), .long (eL ((cl 2 : Nat) : Int))])), ((ad 14), .inr (0, [.long (eL ((cu 3 : Nat) : Int)), .long (eL ((cl 3 : Nat) : Int))])), ((ad 15), .inr (0, [.long (eL ((cu 4 : Nat) : Int)), .long (eL ((cl 4 : Nat) : Int))])), ((ad 16), .inr (0, [.long (eL ((fu 0 : Nat) : Int)), .long (eL ((fl 0 : Nat) : Int))])), ((ad 17), .inr (0, [.long (eL ((fu 1 : Nat) : Int)), .long (eL ((fl 1 : Nat) : Int))])), ((ad 18), .inr (0, [.long (eL ((fu 2 : Nat) : Int)), .long (eL ((fl 2 : Nat) : Int))])), ((ad 19), .inr (0, [.long (eL ((fu 3 : Nat) : Int)), .long (eL ((fl 3 : Nat) : Int))])), ((ad 20), .inr (0, [.long (eL ((fu 4 : Nat) : Int)), .long (eL ((fl 4 : Nat) : Int))])), ((ad 21), .inr (3, [.int (eI (ys 0)), .int (eI (yl 0)), .int (eI (yp 0))])), ((ad 22), .inr (3, [.int (eI (ys 1)), .int (eI (yl 1)), .int (eI (yp 1))])), ((ad 23), .inr (3, [.int (eI (ys 2)), .int (eI (yl 2)), .int (eI (yp 2))]))] 1 := by
  refine eh_ofWL (cc := c_L_curve) (maxL := 4) (ret := some .int) (hs := h_L_curve) (by decide) rfl ?_
  intro p e s m args below meth c s₁ B hml htb0 hv
  obtain ⟨hargs, hP, hK, hN, hst, hap⟩ := hv
  have hx := B.exec
  have hb := B.bytes
  have hrt := B.returns
  have hts := atoms_spec (ws := k_L_curve :: ew_t) B.pre
  have htb : ∀ w ∈ ew_t, w.before args s = true := fun w h => hts w (List.mem_cons_of_mem _ h)
  have hown : s.vm.findClass "EarthHaulsLaw" = some m.cls := findClass_of_methodNamed B.named
  have hlocks := B.notSynchronized
  have htab := eh_tab1 htb0
  have hE9 : entryFrame m args 4 = entryFrame m ([.ref (ad 0), .int (eI y), .ref ou] : List Value).toArray 4 := by rw [hargs]
  rw [hE9]
  clear hE9 hts B hargs htb0
  generalize hRe : (headSpec _ _).room = R
  have hR1 : R.frames = 7 := by rw [← hRe]; rfl
  have hR2 : R.locals = 112 := by rw [← hRe]; rfl
  have hR3 : R.cells = 1 := by rw [← hRe]; rfl
  have hR4 : R.slots = 6 := by rw [← hRe]; rfl
  clear hRe
  generalize hQ : MQ below _ _ s 1 6 _ = Q
  have hP : va_P D classes [((ad 0), .inr (4, [.ref (ad 1), .ref (ad 2), .ref (ad 3), .ref (ad 4), .ref (ad 5), .ref (ad 24), .int (eI ((n : Nat) : Int)), .int (eI sh), .int (eI ra), .int (eI plv), .long (eL pco)])), ((ad 1), .inl (cS, 5, .inr (.inr (.inr (.inr (eh_o5 (ad 6) (ad 7) (ad 8) (ad 9) (ad 10))))))), ((ad 2), aI cI 4 ln), ((ad 3), aI cZ 3 cb), ((ad 4), .inl (cY, 3, .inr (.inr (.inr (.inr (eh_o3 (ad 21) (ad 22) (ad 23))))))), ((ad 5), aI cI 30 la), ((ad 6), .inr (2, [.ref (ad 11), .ref (ad 16)])), ((ad 7), .inr (2, [.ref (ad 12), .ref (ad 17)])), ((ad 8), .inr (2, [.ref (ad 13), .ref (ad 18)])), ((ad 9), .inr (2, [.ref (ad 14), .ref (ad 19)])), ((ad 10), .inr (2, [.ref (ad 15), .ref (ad 20)])), ((ad 11), .inr (0, [.long (eL ((cu 0 : Nat) : Int)), .long (eL ((cl 0 : Nat) : Int))])), ((ad 12), .inr (0, [.long (eL ((cu 1 : Nat) : Int)), .long (eL ((cl 1 : Nat) : Int))])), ((ad 13), .inr (0, [.long (eL ((cu 2 : Nat) : Int)), .long (eL ((cl 2 : Nat) : Int))])), ((ad 14), .inr (0, [.long (eL ((cu 3 : Nat) : Int)), .long (eL ((cl 3 : Nat) : Int))])), ((ad 15), .inr (0, [.long (eL ((cu 4 : Nat) : Int)), .long (eL ((cl 4 : Nat) : Int))])), ((ad 16), .inr (0, [.long (eL ((fu 0 : Nat) : Int)), .long (eL ((fl 0 : Nat) : Int))])), ((ad 17), .inr (0, [.long (eL ((fu 1 : Nat) : Int)), .long (eL ((fl 1 : Nat) : Int))])), ((ad 18), .inr (0, [.long (eL ((fu 2 : Nat) : Int)), .long (eL ((fl 2 : Nat) : Int))])), ((ad 19), .inr (0, [.long (eL ((fu 3 : Nat) : Int)), .long (eL ((fl 3 : Nat) : Int))])), ((ad 20), .inr (0, [.long (eL ((fu 4 : Nat) : Int)), .long (eL ((fl 4 : Nat) : Int))])), ((ad 21), .inr (3, [.int (eI (ys 0)), .int (eI (yl 0)), .int (eI (yp 0))])), ((ad 22), .inr (3, [.int (eI (ys 1)), .int (eI (yl 1)), .int (eI (yp 1))])), ((ad 23), .inr (3, [.int (eI (ys 2)), .int (eI (yl 2)), .int (eI (yp 2))]))] s.heap := hP
  have hl := lv_entry ([.ref (ad 0), .int (eI y), .ref ou]) (n := 4) (Nat.le_of_ble_eq_true rfl)
  rw [lg_entry_eq]
  generalize (lg_sl ([.ref (ad 0), .int (eI y), .ref ou]) ++ List.replicate (4 - (lg_sl ([.ref (ad 0), .int (eI y), .ref ou])).length) Slot.unset).toArray = ls at hl ⊢
  have hl : lv_has ls 4 [(0, .ref (ad 0)), (1, .int (eI y)), (2, .ref ou)] := hl
  refine lv_aload_n hx hb d_L_curve_0 rfl (lv_at hl 2 rfl) ?_
  refine lv_iconst (v := eI 0) hx hb d_L_curve_1 rfl ?_
  refine lv_aload_n hx hb d_L_curve_2 rfl (lv_at hl 0 rfl) ?_
  refine lv_iload_n hx hb d_L_curve_3 rfl (lv_at hl 1 rfl) ?_
  refine eh_cTV1 (As := [.int (eI y)]) (rest := [.int (eI 0), .ref ou]) (q := (R_E, T_E, 11)) hx hb hml hown htb hN hst (fun _ _ h => h) (va_Nw.use rfl (ew_n_13 hN)) htab (by decide) (by decide) (htb _ tb_448) (t_E_curve_IB l D cI cL cZ cS cY ad n sh ra plv pco ln cb la cu cl fu fl ys yl yp y hy hbad hE hl0) 1 ⟨tb_505, tb_506, tb_507, tb_1, kin_E_curve⟩ dv_E_curve ⟨by rw [hR1]; decide, by rw [hR2]; decide⟩ hK hP 0 rfl rfl [0, 1, 2, 3, 4, 5, 6, 7, 8, 9, 10, 11, 12, 13, 14, 15, 16, 17, 18, 19, 20, 21, 22, 23] rfl [0, 1, 2, 3, 4] rfl rfl rfl hl.1 (Nat.le_of_ble_eq_true rfl) d_L_curve_4 ⟨by rw [hR3]; decide, by rw [hR4]; decide⟩ (fun a9 H hz1 hz2 => ?_)
  refine lv_astore_n hx hb d_L_curve_12 rfl hl (by decide) rfl (fun ls hl => ?_)
  have hl : lv_has ls 4 [(3, .ref a9), (0, .ref (ad 0)), (1, .int (eI y)), (2, .ref ou)] := hl
  refine lv_iconst (v := eI 1) hx hb d_L_curve_13 rfl ?_
  subst hQ
  exact W.iret hx hb hrt (fun t9 ht hW => ⟨rfl, by rw [ht]; exact hz1, by rw [ht]; exact hz2⟩) (fun q h => by cases h) d_L_curve_14
abbrev c_L_cost : ByteArray := method_10_code
def y_L_cost : MethodName := ⟨"EarthHaulsLaw", "cost", "(LEarthHauls;II[J)I"⟩
abbrev h_L_cost : List (Nat × Nat × Nat × Nat) := [(0, 10, 13, 25)]
abbrev k_L_cost : Cond := .codeWith y_L_cost c_L_cost 5 (some .int) h_L_cost
theorem kin_L_cost : k_L_cost ∈ ew_t := tb_511
theorem dv_L_cost : eh_dS y_L_cost 4 := ⟨by decide, by decide, by decide +kernel⟩
theorem d_L_cost_0 : decode c_L_cost 0 = .ok (.aload_n 3, 1) := by decide +kernel
theorem d_L_cost_1 : decode c_L_cost 1 = .ok (.iconst 0, 1) := by decide +kernel
theorem d_L_cost_2 : decode c_L_cost 2 = .ok (.aload_n 0, 1) := by decide +kernel
theorem d_L_cost_3 : decode c_L_cost 3 = .ok (.iload_n 1, 1) := by decide +kernel
theorem d_L_cost_4 : decode c_L_cost 4 = .ok (.iload_n 2, 1) := by decide +kernel
theorem d_L_cost_5 : decode c_L_cost 5 = .ok (.invokevirtual 43, 3) := by decide +kernel
theorem d_L_cost_8 : decode c_L_cost 8 = .ok (.i2l, 1) := by decide +kernel
theorem d_L_cost_9 : decode c_L_cost 9 = .ok (.lastore, 1) := by decide +kernel
theorem d_L_cost_10 : decode c_L_cost 10 = .ok (.goto 7, 3) := by decide +kernel
theorem d_L_cost_13 : decode c_L_cost 13 = .ok (.astore 4, 2) := by decide +kernel
theorem d_L_cost_15 : decode c_L_cost 15 = .ok (.iconst 1, 1) := by decide +kernel
theorem d_L_cost_16 : decode c_L_cost 16 = .ok (.ireturn, 1) := by decide +kernel
theorem d_L_cost_17 : decode c_L_cost 17 = .ok (.iconst 0, 1) := by decide +kernel
theorem d_L_cost_18 : decode c_L_cost 18 = .ok (.ireturn, 1) := by decide +kernel
set_option maxHeartbeats 1000000 in
set_option maxRecDepth 100000 in
theorem x_L_cost_IB (l : Launch) (D : va_G) (cI cL cZ cS cY : ClassId) (ad : Nat → Nat) (n : Nat) (sh ra plv pco : Int) (ln cb la : Nat → Int) (cu cl fu fl : Nat → Nat) (ys yl yp : Nat → Int) (ou : Nat) (y z : Int) (hy : -2147483648 ≤ y ∧ y < 2147483648) (hz : -2147483648 ≤ z ∧ z < 2147483648) (hbad : ¬ ((0 ≤ y ∧ y < 6) ∧ 0 ≤ z ∧ z < 5)) (hE : eh_ES n sh ra ln cb la cu cl fu fl ys yl yp) (hl0 : l.stackTraces = false) : eh_X l y_L_cost k_L_cost 7 111 D classes [(cI, .int), (cL, .long), (cZ, .boolean), (cS, .object "EarthHauls$Section"), (cY, .object "EarthHauls$Yard")] [.ref (ad 0), .int (eI y), .int (eI z), .ref ou] [((ad 0), .inr (4, [.ref (ad 1), .ref (ad 2), .ref (ad 3), .ref (ad 4), .ref (ad 5), .ref (ad 24), .int (eI ((n : Nat) : Int)), .int (eI sh), .int (eI ra), .int (eI plv), .long (eL pco)])), ((ad 1), .inl (cS, 5, .inr (.inr (.inr (.inr (eh_o5 (ad 6) (ad 7) (ad 8) (ad 9) (ad 10))))))), ((ad 2), aI cI 4 ln), ((ad 3), aI cZ 3 cb), ((ad 4), .inl (cY, 3, .inr (.inr (.inr (.inr (eh_o3 (ad 21) (ad 22) (ad 23))))))), ((ad 5), aI cI 30 la), ((ad 6), .inr (2, [.ref (ad 11), .ref (ad 16)])), ((ad 7), .inr (2, [.ref (ad 12), .ref (ad 17)])), ((ad 8), .inr (2, [.ref (ad 13), .ref (ad 18)])), ((ad 9), .inr (2, [.ref (ad 14), .ref (ad 19)])), ((ad 10), .inr (2, [.ref (ad 15), .ref (ad 20)])), ((ad 11), .inr (0, [.long (eL ((cu 0 : Nat) : Int)), .long (eL ((cl 0 : Nat) : Int))])), ((ad 12), .inr (0, [.long (eL ((cu 1 : Nat) : Int)), .long (eL ((cl 1 : Nat) : Int))])), ((ad 13), .inr (0, [.long (eL ((cu 2 : Nat) : Int)), .long (eL ((cl 2 : Nat) : Int))])), ((ad 14), .inr (0, [.long (eL ((cu 3 : Nat) : Int)), .long (eL ((cl 3 : Nat) : Int))])), ((ad 15), .inr (0, [.long (eL ((cu 4 : Nat) : Int)), .long (eL ((cl 4 : Nat) : Int))])), ((ad 16), .inr (0, [.long (eL ((fu 0 : Nat) : Int)), .long (eL ((fl 0 : Nat) : Int))])), ((ad 17), .inr (0, [.long (eL ((fu 1 : Nat) : Int)), .long (eL ((fl 1 : Nat) : Int))])), ((ad 18), .inr (0, [.long (eL ((fu 2 : Nat) : Int)), .long (eL ((fl 2 : Nat) : Int))])), ((ad 19), .inr (0, [.long (eL ((fu 3 : Nat) : Int)), .long (eL ((fl 3 : Nat) : Int))])), ((ad 20), .inr (0, [.long (eL ((fu 4 : Nat) : Int)), .long (eL ((fl 4 : Nat) : Int))])), ((ad 21), .inr (3, [.int (eI (ys 0)), .int (eI (yl 0)), .int (eI (yp 0))])), ((ad 22), .inr (3, [.int (eI (ys 1)), .int (eI (yl 1)), .int (eI (yp 1))])), ((ad 23), .inr (3, [.int (eI (ys 2)), .int (eI (yl 2)), .int (eI (yp 2))]))] 1 := by
  refine eh_ofWL (cc := c_L_cost) (maxL := 5) (ret := some .int) (hs := h_L_cost) (by decide) rfl ?_
  intro p e s m args below meth c s₁ B hml htb0 hv
  obtain ⟨hargs, hP, hK, hN, hst, hap⟩ := hv
  have hx := B.exec
  have hb := B.bytes
  have hrt := B.returns
  have hts := atoms_spec (ws := k_L_cost :: ew_t) B.pre
  have htb : ∀ w ∈ ew_t, w.before args s = true := fun w h => hts w (List.mem_cons_of_mem _ h)
  have hown : s.vm.findClass "EarthHaulsLaw" = some m.cls := findClass_of_methodNamed B.named
  have hlocks := B.notSynchronized
  have htab := eh_tab1 htb0
  have hE9 : entryFrame m args 5 = entryFrame m ([.ref (ad 0), .int (eI y), .int (eI z), .ref ou] : List Value).toArray 5 := by rw [hargs]
  rw [hE9]
  clear hE9 hts B hargs htb0
  generalize hRe : (headSpec _ _).room = R
  have hR1 : R.frames = 7 := by rw [← hRe]; rfl
  have hR2 : R.locals = 111 := by rw [← hRe]; rfl
  have hR3 : R.cells = 1 := by rw [← hRe]; rfl
  have hR4 : R.slots = 6 := by rw [← hRe]; rfl
  clear hRe
  generalize hQ : MQ below _ _ s 1 6 _ = Q
  have hP : va_P D classes [((ad 0), .inr (4, [.ref (ad 1), .ref (ad 2), .ref (ad 3), .ref (ad 4), .ref (ad 5), .ref (ad 24), .int (eI ((n : Nat) : Int)), .int (eI sh), .int (eI ra), .int (eI plv), .long (eL pco)])), ((ad 1), .inl (cS, 5, .inr (.inr (.inr (.inr (eh_o5 (ad 6) (ad 7) (ad 8) (ad 9) (ad 10))))))), ((ad 2), aI cI 4 ln), ((ad 3), aI cZ 3 cb), ((ad 4), .inl (cY, 3, .inr (.inr (.inr (.inr (eh_o3 (ad 21) (ad 22) (ad 23))))))), ((ad 5), aI cI 30 la), ((ad 6), .inr (2, [.ref (ad 11), .ref (ad 16)])), ((ad 7), .inr (2, [.ref (ad 12), .ref (ad 17)])), ((ad 8), .inr (2, [.ref (ad 13), .ref (ad 18)])), ((ad 9), .inr (2, [.ref (ad 14), .ref (ad 19)])), ((ad 10), .inr (2, [.ref (ad 15), .ref (ad 20)])), ((ad 11), .inr (0, [.long (eL ((cu 0 : Nat) : Int)), .long (eL ((cl 0 : Nat) : Int))])), ((ad 12), .inr (0, [.long (eL ((cu 1 : Nat) : Int)), .long (eL ((cl 1 : Nat) : Int))])), ((ad 13), .inr (0, [.long (eL ((cu 2 : Nat) : Int)), .long (eL ((cl 2 : Nat) : Int))])), ((ad 14), .inr (0, [.long (eL ((cu 3 : Nat) : Int)), .long (eL ((cl 3 : Nat) : Int))])), ((ad 15), .inr (0, [.long (eL ((cu 4 : Nat) : Int)), .long (eL ((cl 4 : Nat) : Int))])), ((ad 16), .inr (0, [.long (eL ((fu 0 : Nat) : Int)), .long (eL ((fl 0 : Nat) : Int))])), ((ad 17), .inr (0, [.long (eL ((fu 1 : Nat) : Int)), .long (eL ((fl 1 : Nat) : Int))])), ((ad 18), .inr (0, [.long (eL ((fu 2 : Nat) : Int)), .long (eL ((fl 2 : Nat) : Int))])), ((ad 19), .inr (0, [.long (eL ((fu 3 : Nat) : Int)), .long (eL ((fl 3 : Nat) : Int))])), ((ad 20), .inr (0, [.long (eL ((fu 4 : Nat) : Int)), .long (eL ((fl 4 : Nat) : Int))])), ((ad 21), .inr (3, [.int (eI (ys 0)), .int (eI (yl 0)), .int (eI (yp 0))])), ((ad 22), .inr (3, [.int (eI (ys 1)), .int (eI (yl 1)), .int (eI (yp 1))])), ((ad 23), .inr (3, [.int (eI (ys 2)), .int (eI (yl 2)), .int (eI (yp 2))]))] s.heap := hP
  have hl := lv_entry ([.ref (ad 0), .int (eI y), .int (eI z), .ref ou]) (n := 5) (Nat.le_of_ble_eq_true rfl)
  rw [lg_entry_eq]
  generalize (lg_sl ([.ref (ad 0), .int (eI y), .int (eI z), .ref ou]) ++ List.replicate (5 - (lg_sl ([.ref (ad 0), .int (eI y), .int (eI z), .ref ou])).length) Slot.unset).toArray = ls at hl ⊢
  have hl : lv_has ls 5 [(0, .ref (ad 0)), (1, .int (eI y)), (2, .int (eI z)), (3, .ref ou)] := hl
  refine lv_aload_n hx hb d_L_cost_0 rfl (lv_at hl 3 rfl) ?_
  refine lv_iconst (v := eI 0) hx hb d_L_cost_1 rfl ?_
  refine lv_aload_n hx hb d_L_cost_2 rfl (lv_at hl 0 rfl) ?_
  refine lv_iload_n hx hb d_L_cost_3 rfl (lv_at hl 1 rfl) ?_
  refine lv_iload_n hx hb d_L_cost_4 rfl (lv_at hl 2 rfl) ?_
  refine eh_cTV1 (As := [.int (eI y), .int (eI z)]) (rest := [.int (eI 0), .ref ou]) (q := (R_E, T_E, 11)) hx hb hml hown htb hN hst (fun _ _ h => h) (va_Nw.use rfl (ew_n_13 hN)) htab (by decide) (by decide) (htb _ tb_448) (t_E_cost_IB l D cI cL cZ cS cY ad n sh ra plv pco ln cb la cu cl fu fl ys yl yp y z hy hz hbad hE hl0) 2 ⟨tb_512, tb_513, tb_514, tb_1, kin_E_cost⟩ dv_E_cost ⟨by rw [hR1]; decide, by rw [hR2]; decide⟩ hK hP 0 rfl rfl [0, 1, 2, 3, 4, 5, 6, 7, 8, 9, 10, 11, 12, 13, 14, 15, 16, 17, 18, 19, 20, 21, 22, 23] rfl [0, 1, 2, 3, 4] rfl rfl rfl hl.1 (Nat.le_of_ble_eq_true rfl) d_L_cost_5 ⟨by rw [hR3]; decide, by rw [hR4]; decide⟩ (fun a9 H hz1 hz2 => ?_)
  refine lv_astore hx hb d_L_cost_13 hl (by decide) rfl (fun ls hl => ?_)
  have hl : lv_has ls 5 [(4, .ref a9), (0, .ref (ad 0)), (1, .int (eI y)), (2, .int (eI z)), (3, .ref ou)] := hl
  refine lv_iconst (v := eI 1) hx hb d_L_cost_15 rfl ?_
  subst hQ
  exact W.iret hx hb hrt (fun t9 ht hW => ⟨rfl, by rw [ht]; exact hz1, by rw [ht]; exact hz2⟩) (fun q h => by cases h) d_L_cost_16
abbrev c_L_hauled : ByteArray := method_11_code
def y_L_hauled : MethodName := ⟨"EarthHaulsLaw", "hauled", "(LEarthHauls;II[J)I"⟩
abbrev h_L_hauled : List (Nat × Nat × Nat × Nat) := [(0, 10, 13, 25)]
abbrev k_L_hauled : Cond := .codeWith y_L_hauled c_L_hauled 5 (some .int) h_L_hauled
theorem kin_L_hauled : k_L_hauled ∈ ew_t := tb_521
theorem dv_L_hauled : eh_dS y_L_hauled 4 := ⟨by decide, by decide, by decide +kernel⟩
theorem d_L_hauled_0 : decode c_L_hauled 0 = .ok (.aload_n 3, 1) := by decide +kernel
theorem d_L_hauled_1 : decode c_L_hauled 1 = .ok (.iconst 0, 1) := by decide +kernel
theorem d_L_hauled_2 : decode c_L_hauled 2 = .ok (.aload_n 0, 1) := by decide +kernel
theorem d_L_hauled_3 : decode c_L_hauled 3 = .ok (.iload_n 1, 1) := by decide +kernel
theorem d_L_hauled_4 : decode c_L_hauled 4 = .ok (.iload_n 2, 1) := by decide +kernel
theorem d_L_hauled_5 : decode c_L_hauled 5 = .ok (.invokevirtual 46, 3) := by decide +kernel
theorem d_L_hauled_8 : decode c_L_hauled 8 = .ok (.i2l, 1) := by decide +kernel
theorem d_L_hauled_9 : decode c_L_hauled 9 = .ok (.lastore, 1) := by decide +kernel
theorem d_L_hauled_10 : decode c_L_hauled 10 = .ok (.goto 7, 3) := by decide +kernel
theorem d_L_hauled_13 : decode c_L_hauled 13 = .ok (.astore 4, 2) := by decide +kernel
theorem d_L_hauled_15 : decode c_L_hauled 15 = .ok (.iconst 1, 1) := by decide +kernel
theorem d_L_hauled_16 : decode c_L_hauled 16 = .ok (.ireturn, 1) := by decide +kernel
theorem d_L_hauled_17 : decode c_L_hauled 17 = .ok (.iconst 0, 1) := by decide +kernel
theorem d_L_hauled_18 : decode c_L_hauled 18 = .ok (.ireturn, 1) := by decide +kernel
set_option maxHeartbeats 1000000 in
set_option maxRecDepth 100000 in
theorem x_L_hauled_IB (l : Launch) (D : va_G) (cI cL cZ cS cY : ClassId) (ad : Nat → Nat) (n : Nat) (sh ra plv pco : Int) (ln cb la : Nat → Int) (cu cl fu fl : Nat → Nat) (ys yl yp : Nat → Int) (ou : Nat) (y z : Int) (hy : -2147483648 ≤ y ∧ y < 2147483648) (hz : -2147483648 ≤ z ∧ z < 2147483648) (hbad : ¬ ((0 ≤ y ∧ y < 6) ∧ 0 ≤ z ∧ z < 5)) (hE : eh_ES n sh ra ln cb la cu cl fu fl ys yl yp) (hl0 : l.stackTraces = false) : eh_X l y_L_hauled k_L_hauled 7 111 D classes [(cI, .int), (cL, .long), (cZ, .boolean), (cS, .object "EarthHauls$Section"), (cY, .object "EarthHauls$Yard")] [.ref (ad 0), .int (eI y), .int (eI z), .ref ou] [((ad 0), .inr (4, [.ref (ad 1), .ref (ad 2), .ref (ad 3), .ref (ad 4), .ref (ad 5), .ref (ad 24), .int (eI ((n : Nat) : Int)), .int (eI sh), .int (eI ra), .int (eI plv), .long (eL pco)])), ((ad 1), .inl (cS, 5, .inr (.inr (.inr (.inr (eh_o5 (ad 6) (ad 7) (ad 8) (ad 9) (ad 10))))))), ((ad 2), aI cI 4 ln), ((ad 3), aI cZ 3 cb), ((ad 4), .inl (cY, 3, .inr (.inr (.inr (.inr (eh_o3 (ad 21) (ad 22) (ad 23))))))), ((ad 5), aI cI 30 la), ((ad 6), .inr (2, [.ref (ad 11), .ref (ad 16)])), ((ad 7), .inr (2, [.ref (ad 12), .ref (ad 17)])), ((ad 8), .inr (2, [.ref (ad 13), .ref (ad 18)])), ((ad 9), .inr (2, [.ref (ad 14), .ref (ad 19)])), ((ad 10), .inr (2, [.ref (ad 15), .ref (ad 20)])), ((ad 11), .inr (0, [.long (eL ((cu 0 : Nat) : Int)), .long (eL ((cl 0 : Nat) : Int))])), ((ad 12), .inr (0, [.long (eL ((cu 1 : Nat) : Int)), .long (eL ((cl 1 : Nat) : Int))])), ((ad 13), .inr (0, [.long (eL ((cu 2 : Nat) : Int)), .long (eL ((cl 2 : Nat) : Int))])), ((ad 14), .inr (0, [.long (eL ((cu 3 : Nat) : Int)), .long (eL ((cl 3 : Nat) : Int))])), ((ad 15), .inr (0, [.long (eL ((cu 4 : Nat) : Int)), .long (eL ((cl 4 : Nat) : Int))])), ((ad 16), .inr (0, [.long (eL ((fu 0 : Nat) : Int)), .long (eL ((fl 0 : Nat) : Int))])), ((ad 17), .inr (0, [.long (eL ((fu 1 : Nat) : Int)), .long (eL ((fl 1 : Nat) : Int))])), ((ad 18), .inr (0, [.long (eL ((fu 2 : Nat) : Int)), .long (eL ((fl 2 : Nat) : Int))])), ((ad 19), .inr (0, [.long (eL ((fu 3 : Nat) : Int)), .long (eL ((fl 3 : Nat) : Int))])), ((ad 20), .inr (0, [.long (eL ((fu 4 : Nat) : Int)), .long (eL ((fl 4 : Nat) : Int))])), ((ad 21), .inr (3, [.int (eI (ys 0)), .int (eI (yl 0)), .int (eI (yp 0))])), ((ad 22), .inr (3, [.int (eI (ys 1)), .int (eI (yl 1)), .int (eI (yp 1))])), ((ad 23), .inr (3, [.int (eI (ys 2)), .int (eI (yl 2)), .int (eI (yp 2))]))] 1 := by
  refine eh_ofWL (cc := c_L_hauled) (maxL := 5) (ret := some .int) (hs := h_L_hauled) (by decide) rfl ?_
  intro p e s m args below meth c s₁ B hml htb0 hv
  obtain ⟨hargs, hP, hK, hN, hst, hap⟩ := hv
  have hx := B.exec
  have hb := B.bytes
  have hrt := B.returns
  have hts := atoms_spec (ws := k_L_hauled :: ew_t) B.pre
  have htb : ∀ w ∈ ew_t, w.before args s = true := fun w h => hts w (List.mem_cons_of_mem _ h)
  have hown : s.vm.findClass "EarthHaulsLaw" = some m.cls := findClass_of_methodNamed B.named
  have hlocks := B.notSynchronized
  have htab := eh_tab1 htb0
  have hE9 : entryFrame m args 5 = entryFrame m ([.ref (ad 0), .int (eI y), .int (eI z), .ref ou] : List Value).toArray 5 := by rw [hargs]
  rw [hE9]
  clear hE9 hts B hargs htb0
  generalize hRe : (headSpec _ _).room = R
  have hR1 : R.frames = 7 := by rw [← hRe]; rfl
  have hR2 : R.locals = 111 := by rw [← hRe]; rfl
  have hR3 : R.cells = 1 := by rw [← hRe]; rfl
  have hR4 : R.slots = 6 := by rw [← hRe]; rfl
  clear hRe
  generalize hQ : MQ below _ _ s 1 6 _ = Q
  have hP : va_P D classes [((ad 0), .inr (4, [.ref (ad 1), .ref (ad 2), .ref (ad 3), .ref (ad 4), .ref (ad 5), .ref (ad 24), .int (eI ((n : Nat) : Int)), .int (eI sh), .int (eI ra), .int (eI plv), .long (eL pco)])), ((ad 1), .inl (cS, 5, .inr (.inr (.inr (.inr (eh_o5 (ad 6) (ad 7) (ad 8) (ad 9) (ad 10))))))), ((ad 2), aI cI 4 ln), ((ad 3), aI cZ 3 cb), ((ad 4), .inl (cY, 3, .inr (.inr (.inr (.inr (eh_o3 (ad 21) (ad 22) (ad 23))))))), ((ad 5), aI cI 30 la), ((ad 6), .inr (2, [.ref (ad 11), .ref (ad 16)])), ((ad 7), .inr (2, [.ref (ad 12), .ref (ad 17)])), ((ad 8), .inr (2, [.ref (ad 13), .ref (ad 18)])), ((ad 9), .inr (2, [.ref (ad 14), .ref (ad 19)])), ((ad 10), .inr (2, [.ref (ad 15), .ref (ad 20)])), ((ad 11), .inr (0, [.long (eL ((cu 0 : Nat) : Int)), .long (eL ((cl 0 : Nat) : Int))])), ((ad 12), .inr (0, [.long (eL ((cu 1 : Nat) : Int)), .long (eL ((cl 1 : Nat) : Int))])), ((ad 13), .inr (0, [.long (eL ((cu 2 : Nat) : Int)), .long (eL ((cl 2 : Nat) : Int))])), ((ad 14), .inr (0, [.long (eL ((cu 3 : Nat) : Int)), .long (eL ((cl 3 : Nat) : Int))])), ((ad 15), .inr (0, [.long (eL ((cu 4 : Nat) : Int)), .long (eL ((cl 4 : Nat) : Int))])), ((ad 16), .inr (0, [.long (eL ((fu 0 : Nat) : Int)), .long (eL ((fl 0 : Nat) : Int))])), ((ad 17), .inr (0, [.long (eL ((fu 1 : Nat) : Int)), .long (eL ((fl 1 : Nat) : Int))])), ((ad 18), .inr (0, [.long (eL ((fu 2 : Nat) : Int)), .long (eL ((fl 2 : Nat) : Int))])), ((ad 19), .inr (0, [.long (eL ((fu 3 : Nat) : Int)), .long (eL ((fl 3 : Nat) : Int))])), ((ad 20), .inr (0, [.long (eL ((fu 4 : Nat) : Int)), .long (eL ((fl 4 : Nat) : Int))])), ((ad 21), .inr (3, [.int (eI (ys 0)), .int (eI (yl 0)), .int (eI (yp 0))])), ((ad 22), .inr (3, [.int (eI (ys 1)), .int (eI (yl 1)), .int (eI (yp 1))])), ((ad 23), .inr (3, [.int (eI (ys 2)), .int (eI (yl 2)), .int (eI (yp 2))]))] s.heap := hP
  have hl := lv_entry ([.ref (ad 0), .int (eI y), .int (eI z), .ref ou]) (n := 5) (Nat.le_of_ble_eq_true rfl)
  rw [lg_entry_eq]
  generalize (lg_sl ([.ref (ad 0), .int (eI y), .int (eI z), .ref ou]) ++ List.replicate (5 - (lg_sl ([.ref (ad 0), .int (eI y), .int (eI z), .ref ou])).length) Slot.unset).toArray = ls at hl ⊢
  have hl : lv_has ls 5 [(0, .ref (ad 0)), (1, .int (eI y)), (2, .int (eI z)), (3, .ref ou)] := hl
  refine lv_aload_n hx hb d_L_hauled_0 rfl (lv_at hl 3 rfl) ?_
  refine lv_iconst (v := eI 0) hx hb d_L_hauled_1 rfl ?_
  refine lv_aload_n hx hb d_L_hauled_2 rfl (lv_at hl 0 rfl) ?_
  refine lv_iload_n hx hb d_L_hauled_3 rfl (lv_at hl 1 rfl) ?_
  refine lv_iload_n hx hb d_L_hauled_4 rfl (lv_at hl 2 rfl) ?_
  refine eh_cTV1 (As := [.int (eI y), .int (eI z)]) (rest := [.int (eI 0), .ref ou]) (q := (R_E, T_E, 11)) hx hb hml hown htb hN hst (fun _ _ h => h) (va_Nw.use rfl (ew_n_13 hN)) htab (by decide) (by decide) (htb _ tb_448) (t_E_hauled_IB l D cI cL cZ cS cY ad n sh ra plv pco ln cb la cu cl fu fl ys yl yp y z hy hz hbad hE hl0) 2 ⟨tb_522, tb_523, tb_524, tb_1, kin_E_hauled⟩ dv_E_hauled ⟨by rw [hR1]; decide, by rw [hR2]; decide⟩ hK hP 0 rfl rfl [0, 1, 2, 3, 4, 5, 6, 7, 8, 9, 10, 11, 12, 13, 14, 15, 16, 17, 18, 19, 20, 21, 22, 23] rfl [0, 1, 2, 3, 4] rfl rfl rfl hl.1 (Nat.le_of_ble_eq_true rfl) d_L_hauled_5 ⟨by rw [hR3]; decide, by rw [hR4]; decide⟩ (fun a9 H hz1 hz2 => ?_)
  refine lv_astore hx hb d_L_hauled_13 hl (by decide) rfl (fun ls hl => ?_)
  have hl : lv_has ls 5 [(4, .ref a9), (0, .ref (ad 0)), (1, .int (eI y)), (2, .int (eI z)), (3, .ref ou)] := hl
  refine lv_iconst (v := eI 1) hx hb d_L_hauled_15 rfl ?_
  subst hQ
  exact W.iret hx hb hrt (fun t9 ht hW => ⟨rfl, by rw [ht]; exact hz1, by rw [ht]; exact hz2⟩) (fun q h => by cases h) d_L_hauled_16
abbrev c_L_more : ByteArray := method_12_code
def y_L_more : MethodName := ⟨"EarthHaulsLaw", "more", "(LEarthHauls;IZ[J)I"⟩
abbrev h_L_more : List (Nat × Nat × Nat × Nat) := [(0, 9, 12, 25)]
abbrev k_L_more : Cond := .codeWith y_L_more c_L_more 5 (some .int) h_L_more
theorem kin_L_more : k_L_more ∈ ew_t := tb_532
theorem dv_L_more : eh_dS y_L_more 4 := ⟨by decide, by decide, by decide +kernel⟩
theorem d_L_more_0 : decode c_L_more 0 = .ok (.aload_n 3, 1) := by decide +kernel
theorem d_L_more_1 : decode c_L_more 1 = .ok (.iconst 0, 1) := by decide +kernel
theorem d_L_more_2 : decode c_L_more 2 = .ok (.aload_n 0, 1) := by decide +kernel
theorem d_L_more_3 : decode c_L_more 3 = .ok (.iload_n 1, 1) := by decide +kernel
theorem d_L_more_4 : decode c_L_more 4 = .ok (.iload_n 2, 1) := by decide +kernel
theorem d_L_more_5 : decode c_L_more 5 = .ok (.invokevirtual 49, 3) := by decide +kernel
theorem d_L_more_8 : decode c_L_more 8 = .ok (.lastore, 1) := by decide +kernel
theorem d_L_more_9 : decode c_L_more 9 = .ok (.goto 7, 3) := by decide +kernel
theorem d_L_more_12 : decode c_L_more 12 = .ok (.astore 4, 2) := by decide +kernel
theorem d_L_more_14 : decode c_L_more 14 = .ok (.iconst 1, 1) := by decide +kernel
theorem d_L_more_15 : decode c_L_more 15 = .ok (.ireturn, 1) := by decide +kernel
theorem d_L_more_16 : decode c_L_more 16 = .ok (.iconst 0, 1) := by decide +kernel
theorem d_L_more_17 : decode c_L_more 17 = .ok (.ireturn, 1) := by decide +kernel
set_option maxHeartbeats 1000000 in
set_option maxRecDepth 100000 in
theorem x_L_more_IB_1 (l : Launch) (D : va_G) (cI cL cZ cS cY : ClassId) (ad : Nat → Nat) (n : Nat) (sh ra plv pco : Int) (ln cb la : Nat → Int) (cu cl fu fl : Nat → Nat) (ys yl yp : Nat → Int) (ou : Nat) (y : Int) (hy : -2147483648 ≤ y ∧ y < 2147483648) (hbad : ¬ (0 ≤ y ∧ y + 1 < n)) (hE : eh_ES n sh ra ln cb la cu cl fu fl ys yl yp) (hl0 : l.stackTraces = false) : eh_X l y_L_more k_L_more 7 111 D classes [(cI, .int), (cL, .long), (cZ, .boolean), (cS, .object "EarthHauls$Section"), (cY, .object "EarthHauls$Yard")] [.ref (ad 0), .int (eI y), .int (eI 1), .ref ou] [((ad 0), .inr (4, [.ref (ad 1), .ref (ad 2), .ref (ad 3), .ref (ad 4), .ref (ad 5), .ref (ad 24), .int (eI ((n : Nat) : Int)), .int (eI sh), .int (eI ra), .int (eI plv), .long (eL pco)])), ((ad 1), .inl (cS, 5, .inr (.inr (.inr (.inr (eh_o5 (ad 6) (ad 7) (ad 8) (ad 9) (ad 10))))))), ((ad 2), aI cI 4 ln), ((ad 3), aI cZ 3 cb), ((ad 4), .inl (cY, 3, .inr (.inr (.inr (.inr (eh_o3 (ad 21) (ad 22) (ad 23))))))), ((ad 5), aI cI 30 la), ((ad 6), .inr (2, [.ref (ad 11), .ref (ad 16)])), ((ad 7), .inr (2, [.ref (ad 12), .ref (ad 17)])), ((ad 8), .inr (2, [.ref (ad 13), .ref (ad 18)])), ((ad 9), .inr (2, [.ref (ad 14), .ref (ad 19)])), ((ad 10), .inr (2, [.ref (ad 15), .ref (ad 20)])), ((ad 11), .inr (0, [.long (eL ((cu 0 : Nat) : Int)), .long (eL ((cl 0 : Nat) : Int))])), ((ad 12), .inr (0, [.long (eL ((cu 1 : Nat) : Int)), .long (eL ((cl 1 : Nat) : Int))])), ((ad 13), .inr (0, [.long (eL ((cu 2 : Nat) : Int)), .long (eL ((cl 2 : Nat) : Int))])), ((ad 14), .inr (0, [.long (eL ((cu 3 : Nat) : Int)), .long (eL ((cl 3 : Nat) : Int))])), ((ad 15), .inr (0, [.long (eL ((cu 4 : Nat) : Int)), .long (eL ((cl 4 : Nat) : Int))])), ((ad 16), .inr (0, [.long (eL ((fu 0 : Nat) : Int)), .long (eL ((fl 0 : Nat) : Int))])), ((ad 17), .inr (0, [.long (eL ((fu 1 : Nat) : Int)), .long (eL ((fl 1 : Nat) : Int))])), ((ad 18), .inr (0, [.long (eL ((fu 2 : Nat) : Int)), .long (eL ((fl 2 : Nat) : Int))])), ((ad 19), .inr (0, [.long (eL ((fu 3 : Nat) : Int)), .long (eL ((fl 3 : Nat) : Int))])), ((ad 20), .inr (0, [.long (eL ((fu 4 : Nat) : Int)), .long (eL ((fl 4 : Nat) : Int))])), ((ad 21), .inr (3, [.int (eI (ys 0)), .int (eI (yl 0)), .int (eI (yp 0))])), ((ad 22), .inr (3, [.int (eI (ys 1)), .int (eI (yl 1)), .int (eI (yp 1))])), ((ad 23), .inr (3, [.int (eI (ys 2)), .int (eI (yl 2)), .int (eI (yp 2))]))] 1 := by
  refine eh_ofWL (cc := c_L_more) (maxL := 5) (ret := some .int) (hs := h_L_more) (by decide) rfl ?_
  intro p e s m args below meth c s₁ B hml htb0 hv
  obtain ⟨hargs, hP, hK, hN, hst, hap⟩ := hv
  have hx := B.exec
  have hb := B.bytes
  have hrt := B.returns
  have hts := atoms_spec (ws := k_L_more :: ew_t) B.pre
  have htb : ∀ w ∈ ew_t, w.before args s = true := fun w h => hts w (List.mem_cons_of_mem _ h)
  have hown : s.vm.findClass "EarthHaulsLaw" = some m.cls := findClass_of_methodNamed B.named
  have hlocks := B.notSynchronized
  have htab := eh_tab1 htb0
  have hE9 : entryFrame m args 5 = entryFrame m ([.ref (ad 0), .int (eI y), .int (eI 1), .ref ou] : List Value).toArray 5 := by rw [hargs]
  rw [hE9]
  clear hE9 hts B hargs htb0
  generalize hRe : (headSpec _ _).room = R
  have hR1 : R.frames = 7 := by rw [← hRe]; rfl
  have hR2 : R.locals = 111 := by rw [← hRe]; rfl
  have hR3 : R.cells = 1 := by rw [← hRe]; rfl
  have hR4 : R.slots = 6 := by rw [← hRe]; rfl
  clear hRe
  generalize hQ : MQ below _ _ s 1 6 _ = Q
  have hP : va_P D classes [((ad 0), .inr (4, [.ref (ad 1), .ref (ad 2), .ref (ad 3), .ref (ad 4), .ref (ad 5), .ref (ad 24), .int (eI ((n : Nat) : Int)), .int (eI sh), .int (eI ra), .int (eI plv), .long (eL pco)])), ((ad 1), .inl (cS, 5, .inr (.inr (.inr (.inr (eh_o5 (ad 6) (ad 7) (ad 8) (ad 9) (ad 10))))))), ((ad 2), aI cI 4 ln), ((ad 3), aI cZ 3 cb), ((ad 4), .inl (cY, 3, .inr (.inr (.inr (.inr (eh_o3 (ad 21) (ad 22) (ad 23))))))), ((ad 5), aI cI 30 la), ((ad 6), .inr (2, [.ref (ad 11), .ref (ad 16)])), ((ad 7), .inr (2, [.ref (ad 12), .ref (ad 17)])), ((ad 8), .inr (2, [.ref (ad 13), .ref (ad 18)])), ((ad 9), .inr (2, [.ref (ad 14), .ref (ad 19)])), ((ad 10), .inr (2, [.ref (ad 15), .ref (ad 20)])), ((ad 11), .inr (0, [.long (eL ((cu 0 : Nat) : Int)), .long (eL ((cl 0 : Nat) : Int))])), ((ad 12), .inr (0, [.long (eL ((cu 1 : Nat) : Int)), .long (eL ((cl 1 : Nat) : Int))])), ((ad 13), .inr (0, [.long (eL ((cu 2 : Nat) : Int)), .long (eL ((cl 2 : Nat) : Int))])), ((ad 14), .inr (0, [.long (eL ((cu 3 : Nat) : Int)), .long (eL ((cl 3 : Nat) : Int))])), ((ad 15), .inr (0, [.long (eL ((cu 4 : Nat) : Int)), .long (eL ((cl 4 : Nat) : Int))])), ((ad 16), .inr (0, [.long (eL ((fu 0 : Nat) : Int)), .long (eL ((fl 0 : Nat) : Int))])), ((ad 17), .inr (0, [.long (eL ((fu 1 : Nat) : Int)), .long (eL ((fl 1 : Nat) : Int))])), ((ad 18), .inr (0, [.long (eL ((fu 2 : Nat) : Int)), .long (eL ((fl 2 : Nat) : Int))])), ((ad 19), .inr (0, [.long (eL ((fu 3 : Nat) : Int)), .long (eL ((fl 3 : Nat) : Int))])), ((ad 20), .inr (0, [.long (eL ((fu 4 : Nat) : Int)), .long (eL ((fl 4 : Nat) : Int))])), ((ad 21), .inr (3, [.int (eI (ys 0)), .int (eI (yl 0)), .int (eI (yp 0))])), ((ad 22), .inr (3, [.int (eI (ys 1)), .int (eI (yl 1)), .int (eI (yp 1))])), ((ad 23), .inr (3, [.int (eI (ys 2)), .int (eI (yl 2)), .int (eI (yp 2))]))] s.heap := hP
  have hl := lv_entry ([.ref (ad 0), .int (eI y), .int (eI 1), .ref ou]) (n := 5) (Nat.le_of_ble_eq_true rfl)
  rw [lg_entry_eq]
  generalize (lg_sl ([.ref (ad 0), .int (eI y), .int (eI 1), .ref ou]) ++ List.replicate (5 - (lg_sl ([.ref (ad 0), .int (eI y), .int (eI 1), .ref ou])).length) Slot.unset).toArray = ls at hl ⊢
  have hl : lv_has ls 5 [(0, .ref (ad 0)), (1, .int (eI y)), (2, .int (eI 1)), (3, .ref ou)] := hl
  refine lv_aload_n hx hb d_L_more_0 rfl (lv_at hl 3 rfl) ?_
  refine lv_iconst (v := eI 0) hx hb d_L_more_1 rfl ?_
  refine lv_aload_n hx hb d_L_more_2 rfl (lv_at hl 0 rfl) ?_
  refine lv_iload_n hx hb d_L_more_3 rfl (lv_at hl 1 rfl) ?_
  refine lv_iload_n hx hb d_L_more_4 rfl (lv_at hl 2 rfl) ?_
  refine eh_cTV1 (As := [.int (eI y), .int (eI 1)]) (rest := [.int (eI 0), .ref ou]) (q := (R_E, T_E, 11)) hx hb hml hown htb hN hst (fun _ _ h => h) (va_Nw.use rfl (ew_n_13 hN)) htab (by decide) (by decide) (htb _ tb_448) (t_E_more_IB_1 l D cI cL cZ cS cY ad n sh ra plv pco ln cb la cu cl fu fl ys yl yp y hy hbad hE hl0) 2 ⟨tb_533, tb_534, tb_535, tb_1, kin_E_more⟩ dv_E_more ⟨by rw [hR1]; decide, by rw [hR2]; decide⟩ hK hP 0 rfl rfl [0, 1, 2, 3, 4, 5, 6, 7, 8, 9, 10, 11, 12, 13, 14, 15, 16, 17, 18, 19, 20, 21, 22, 23] rfl [0, 1, 2, 3, 4] rfl rfl rfl hl.1 (Nat.le_of_ble_eq_true rfl) d_L_more_5 ⟨by rw [hR3]; decide, by rw [hR4]; decide⟩ (fun a9 H hz1 hz2 => ?_)
  refine lv_astore hx hb d_L_more_12 hl (by decide) rfl (fun ls hl => ?_)
  have hl : lv_has ls 5 [(4, .ref a9), (0, .ref (ad 0)), (1, .int (eI y)), (2, .int (eI 1)), (3, .ref ou)] := hl
  refine lv_iconst (v := eI 1) hx hb d_L_more_14 rfl ?_
  subst hQ
  exact W.iret hx hb hrt (fun t9 ht hW => ⟨rfl, by rw [ht]; exact hz1, by rw [ht]; exact hz2⟩) (fun q h => by cases h) d_L_more_15
set_option maxHeartbeats 1000000 in
set_option maxRecDepth 100000 in
theorem x_L_more_IB_0 (l : Launch) (D : va_G) (cI cL cZ cS cY : ClassId) (ad : Nat → Nat) (n : Nat) (sh ra plv pco : Int) (ln cb la : Nat → Int) (cu cl fu fl : Nat → Nat) (ys yl yp : Nat → Int) (ou : Nat) (y : Int) (hy : -2147483648 ≤ y ∧ y < 2147483648) (hbad : ¬ (0 ≤ y ∧ y + 1 < n)) (hE : eh_ES n sh ra ln cb la cu cl fu fl ys yl yp) (hl0 : l.stackTraces = false) : eh_X l y_L_more k_L_more 7 111 D classes [(cI, .int), (cL, .long), (cZ, .boolean), (cS, .object "EarthHauls$Section"), (cY, .object "EarthHauls$Yard")] [.ref (ad 0), .int (eI y), .int (eI 0), .ref ou] [((ad 0), .inr (4, [.ref (ad 1), .ref (ad 2), .ref (ad 3), .ref (ad 4), .ref (ad 5), .ref (ad 24), .int (eI ((n : Nat) : Int)), .int (eI sh), .int (eI ra), .int (eI plv), .long (eL pco)])), ((ad 1), .inl (cS, 5, .inr (.inr (.inr (.inr (eh_o5 (ad 6) (ad 7) (ad 8) (ad 9) (ad 10))))))), ((ad 2), aI cI 4 ln), ((ad 3), aI cZ 3 cb), ((ad 4), .inl (cY, 3, .inr (.inr (.inr (.inr (eh_o3 (ad 21) (ad 22) (ad 23))))))), ((ad 5), aI cI 30 la), ((ad 6), .inr (2, [.ref (ad 11), .ref (ad 16)])), ((ad 7), .inr (2, [.ref (ad 12), .ref (ad 17)])), ((ad 8), .inr (2, [.ref (ad 13), .ref (ad 18)])), ((ad 9), .inr (2, [.ref (ad 14), .ref (ad 19)])), ((ad 10), .inr (2, [.ref (ad 15), .ref (ad 20)])), ((ad 11), .inr (0, [.long (eL ((cu 0 : Nat) : Int)), .long (eL ((cl 0 : Nat) : Int))])), ((ad 12), .inr (0, [.long (eL ((cu 1 : Nat) : Int)), .long (eL ((cl 1 : Nat) : Int))])), ((ad 13), .inr (0, [.long (eL ((cu 2 : Nat) : Int)), .long (eL ((cl 2 : Nat) : Int))])), ((ad 14), .inr (0, [.long (eL ((cu 3 : Nat) : Int)), .long (eL ((cl 3 : Nat) : Int))])), ((ad 15), .inr (0, [.long (eL ((cu 4 : Nat) : Int)), .long (eL ((cl 4 : Nat) : Int))])), ((ad 16), .inr (0, [.long (eL ((fu 0 : Nat) : Int)), .long (eL ((fl 0 : Nat) : Int))])), ((ad 17), .inr (0, [.long (eL ((fu 1 : Nat) : Int)), .long (eL ((fl 1 : Nat) : Int))])), ((ad 18), .inr (0, [.long (eL ((fu 2 : Nat) : Int)), .long (eL ((fl 2 : Nat) : Int))])), ((ad 19), .inr (0, [.long (eL ((fu 3 : Nat) : Int)), .long (eL ((fl 3 : Nat) : Int))])), ((ad 20), .inr (0, [.long (eL ((fu 4 : Nat) : Int)), .long (eL ((fl 4 : Nat) : Int))])), ((ad 21), .inr (3, [.int (eI (ys 0)), .int (eI (yl 0)), .int (eI (yp 0))])), ((ad 22), .inr (3, [.int (eI (ys 1)), .int (eI (yl 1)), .int (eI (yp 1))])), ((ad 23), .inr (3, [.int (eI (ys 2)), .int (eI (yl 2)), .int (eI (yp 2))]))] 1 := by
  refine eh_ofWL (cc := c_L_more) (maxL := 5) (ret := some .int) (hs := h_L_more) (by decide) rfl ?_
  intro p e s m args below meth c s₁ B hml htb0 hv
  obtain ⟨hargs, hP, hK, hN, hst, hap⟩ := hv
  have hx := B.exec
  have hb := B.bytes
  have hrt := B.returns
  have hts := atoms_spec (ws := k_L_more :: ew_t) B.pre
  have htb : ∀ w ∈ ew_t, w.before args s = true := fun w h => hts w (List.mem_cons_of_mem _ h)
  have hown : s.vm.findClass "EarthHaulsLaw" = some m.cls := findClass_of_methodNamed B.named
  have hlocks := B.notSynchronized
  have htab := eh_tab1 htb0
  have hE9 : entryFrame m args 5 = entryFrame m ([.ref (ad 0), .int (eI y), .int (eI 0), .ref ou] : List Value).toArray 5 := by rw [hargs]
  rw [hE9]
  clear hE9 hts B hargs htb0
  generalize hRe : (headSpec _ _).room = R
  have hR1 : R.frames = 7 := by rw [← hRe]; rfl
  have hR2 : R.locals = 111 := by rw [← hRe]; rfl
  have hR3 : R.cells = 1 := by rw [← hRe]; rfl
  have hR4 : R.slots = 6 := by rw [← hRe]; rfl
  clear hRe
  generalize hQ : MQ below _ _ s 1 6 _ = Q
  have hP : va_P D classes [((ad 0), .inr (4, [.ref (ad 1), .ref (ad 2), .ref (ad 3), .ref (ad 4), .ref (ad 5), .ref (ad 24), .int (eI ((n : Nat) : Int)), .int (eI sh), .int (eI ra), .int (eI plv), .long (eL pco)])), ((ad 1), .inl (cS, 5, .inr (.inr (.inr (.inr (eh_o5 (ad 6) (ad 7) (ad 8) (ad 9) (ad 10))))))), ((ad 2), aI cI 4 ln), ((ad 3), aI cZ 3 cb), ((ad 4), .inl (cY, 3, .inr (.inr (.inr (.inr (eh_o3 (ad 21) (ad 22) (ad 23))))))), ((ad 5), aI cI 30 la), ((ad 6), .inr (2, [.ref (ad 11), .ref (ad 16)])), ((ad 7), .inr (2, [.ref (ad 12), .ref (ad 17)])), ((ad 8), .inr (2, [.ref (ad 13), .ref (ad 18)])), ((ad 9), .inr (2, [.ref (ad 14), .ref (ad 19)])), ((ad 10), .inr (2, [.ref (ad 15), .ref (ad 20)])), ((ad 11), .inr (0, [.long (eL ((cu 0 : Nat) : Int)), .long (eL ((cl 0 : Nat) : Int))])), ((ad 12), .inr (0, [.long (eL ((cu 1 : Nat) : Int)), .long (eL ((cl 1 : Nat) : Int))])), ((ad 13), .inr (0, [.long (eL ((cu 2 : Nat) : Int)), .long (eL ((cl 2 : Nat) : Int))])), ((ad 14), .inr (0, [.long (eL ((cu 3 : Nat) : Int)), .long (eL ((cl 3 : Nat) : Int))])), ((ad 15), .inr (0, [.long (eL ((cu 4 : Nat) : Int)), .long (eL ((cl 4 : Nat) : Int))])), ((ad 16), .inr (0, [.long (eL ((fu 0 : Nat) : Int)), .long (eL ((fl 0 : Nat) : Int))])), ((ad 17), .inr (0, [.long (eL ((fu 1 : Nat) : Int)), .long (eL ((fl 1 : Nat) : Int))])), ((ad 18), .inr (0, [.long (eL ((fu 2 : Nat) : Int)), .long (eL ((fl 2 : Nat) : Int))])), ((ad 19), .inr (0, [.long (eL ((fu 3 : Nat) : Int)), .long (eL ((fl 3 : Nat) : Int))])), ((ad 20), .inr (0, [.long (eL ((fu 4 : Nat) : Int)), .long (eL ((fl 4 : Nat) : Int))])), ((ad 21), .inr (3, [.int (eI (ys 0)), .int (eI (yl 0)), .int (eI (yp 0))])), ((ad 22), .inr (3, [.int (eI (ys 1)), .int (eI (yl 1)), .int (eI (yp 1))])), ((ad 23), .inr (3, [.int (eI (ys 2)), .int (eI (yl 2)), .int (eI (yp 2))]))] s.heap := hP
  have hl := lv_entry ([.ref (ad 0), .int (eI y), .int (eI 0), .ref ou]) (n := 5) (Nat.le_of_ble_eq_true rfl)
  rw [lg_entry_eq]
  generalize (lg_sl ([.ref (ad 0), .int (eI y), .int (eI 0), .ref ou]) ++ List.replicate (5 - (lg_sl ([.ref (ad 0), .int (eI y), .int (eI 0), .ref ou])).length) Slot.unset).toArray = ls at hl ⊢
  have hl : lv_has ls 5 [(0, .ref (ad 0)), (1, .int (eI y)), (2, .int (eI 0)), (3, .ref ou)] := hl
  refine lv_aload_n hx hb d_L_more_0 rfl (lv_at hl 3 rfl) ?_
  refine lv_iconst (v := eI 0) hx hb d_L_more_1 rfl ?_
  refine lv_aload_n hx hb d_L_more_2 rfl (lv_at hl 0 rfl) ?_
  refine lv_iload_n hx hb d_L_more_3 rfl (lv_at hl 1 rfl) ?_
  refine lv_iload_n hx hb d_L_more_4 rfl (lv_at hl 2 rfl) ?_
  refine eh_cTV1 (As := [.int (eI y), .int (eI 0)]) (rest := [.int (eI 0), .ref ou]) (q := (R_E, T_E, 11)) hx hb hml hown htb hN hst (fun _ _ h => h) (va_Nw.use rfl (ew_n_13 hN)) htab (by decide) (by decide) (htb _ tb_448) (t_E_more_IB_0 l D cI cL cZ cS cY ad n sh ra plv pco ln cb la cu cl fu fl ys yl yp y hy hbad hE hl0) 2 ⟨tb_533, tb_534, tb_535, tb_1, kin_E_more⟩ dv_E_more ⟨by rw [hR1]; decide, by rw [hR2]; decide⟩ hK hP 0 rfl rfl [0, 1, 2, 3, 4, 5, 6, 7, 8, 9, 10, 11, 12, 13, 14, 15, 16, 17, 18, 19, 20, 21, 22, 23] rfl [0, 1, 2, 3, 4] rfl rfl rfl hl.1 (Nat.le_of_ble_eq_true rfl) d_L_more_5 ⟨by rw [hR3]; decide, by rw [hR4]; decide⟩ (fun a9 H hz1 hz2 => ?_)
  refine lv_astore hx hb d_L_more_12 hl (by decide) rfl (fun ls hl => ?_)
  have hl : lv_has ls 5 [(4, .ref a9), (0, .ref (ad 0)), (1, .int (eI y)), (2, .int (eI 0)), (3, .ref ou)] := hl
  refine lv_iconst (v := eI 1) hx hb d_L_more_14 rfl ?_
  subst hQ
  exact W.iret hx hb hrt (fun t9 ht hW => ⟨rfl, by rw [ht]; exact hz1, by rw [ht]; exact hz2⟩) (fun q h => by cases h) d_L_more_15
abbrev c_L_lay : ByteArray := method_13_code
def y_L_lay : MethodName := ⟨"EarthHaulsLaw", "lay", "(LEarthHauls;III)I"⟩
abbrev h_L_lay : List (Nat × Nat × Nat × Nat) := [(0, 7, 10, 25), (0, 7, 14, 13)]
abbrev k_L_lay : Cond := .codeWith y_L_lay c_L_lay 5 (some .int) h_L_lay
theorem kin_L_lay : k_L_lay ∈ ew_t := tb_554
theorem dv_L_lay : eh_dS y_L_lay 4 := ⟨by decide, by decide, by decide +kernel⟩
theorem d_L_lay_0 : decode c_L_lay 0 = .ok (.aload_n 0, 1) := by decide +kernel
theorem d_L_lay_1 : decode c_L_lay 1 = .ok (.iload_n 1, 1) := by decide +kernel
theorem d_L_lay_2 : decode c_L_lay 2 = .ok (.iload_n 2, 1) := by decide +kernel
theorem d_L_lay_3 : decode c_L_lay 3 = .ok (.iload_n 3, 1) := by decide +kernel
theorem d_L_lay_4 : decode c_L_lay 4 = .ok (.invokevirtual 53, 3) := by decide +kernel
theorem d_L_lay_7 : decode c_L_lay 7 = .ok (.goto 11, 3) := by decide +kernel
theorem d_L_lay_10 : decode c_L_lay 10 = .ok (.astore 4, 2) := by decide +kernel
theorem d_L_lay_12 : decode c_L_lay 12 = .ok (.iconst 1, 1) := by decide +kernel
theorem d_L_lay_13 : decode c_L_lay 13 = .ok (.ireturn, 1) := by decide +kernel
theorem d_L_lay_14 : decode c_L_lay 14 = .ok (.astore 4, 2) := by decide +kernel
theorem d_L_lay_16 : decode c_L_lay 16 = .ok (.iconst 2, 1) := by decide +kernel
theorem d_L_lay_17 : decode c_L_lay 17 = .ok (.ireturn, 1) := by decide +kernel
theorem d_L_lay_18 : decode c_L_lay 18 = .ok (.iconst 0, 1) := by decide +kernel
theorem d_L_lay_19 : decode c_L_lay 19 = .ok (.ireturn, 1) := by decide +kernel
set_option maxHeartbeats 1000000 in
set_option maxRecDepth 100000 in
theorem x_L_lay_IB (l : Launch) (D : va_G) (cI cL cZ cS cY : ClassId) (ad : Nat → Nat) (n : Nat) (sh ra plv pco : Int) (ln cb la : Nat → Int) (cu cl fu fl : Nat → Nat) (ys yl yp : Nat → Int) (ou : Nat) (y z w : Int) (hy : -2147483648 ≤ y ∧ y < 2147483648) (hz : -2147483648 ≤ z ∧ z < 2147483648) (hw : -2147483648 ≤ w ∧ w < 2147483648) (hbad : ¬ ((0 ≤ y ∧ y < 6) ∧ 0 ≤ z ∧ z < 5)) (hE : eh_ES n sh ra ln cb la cu cl fu fl ys yl yp) (hl0 : l.stackTraces = false) : eh_X l y_L_lay k_L_lay 7 112 D classes [(cI, .int), (cL, .long), (cZ, .boolean), (cS, .object "EarthHauls$Section"), (cY, .object "EarthHauls$Yard")] [.ref (ad 0), .int (eI y), .int (eI z), .int (eI w)] [((ad 0), .inr (4, [.ref (ad 1), .ref (ad 2), .ref (ad 3), .ref (ad 4), .ref (ad 5), .ref (ad 24), .int (eI ((n : Nat) : Int)), .int (eI sh), .int (eI ra), .int (eI plv), .long (eL pco)])), ((ad 1), .inl (cS, 5, .inr (.inr (.inr (.inr (eh_o5 (ad 6) (ad 7) (ad 8) (ad 9) (ad 10))))))), ((ad 2), aI cI 4 ln), ((ad 3), aI cZ 3 cb), ((ad 4), .inl (cY, 3, .inr (.inr (.inr (.inr (eh_o3 (ad 21) (ad 22) (ad 23))))))), ((ad 5), aI cI 30 la), ((ad 6), .inr (2, [.ref (ad 11), .ref (ad 16)])), ((ad 7), .inr (2, [.ref (ad 12), .ref (ad 17)])), ((ad 8), .inr (2, [.ref (ad 13), .ref (ad 18)])), ((ad 9), .inr (2, [.ref (ad 14), .ref (ad 19)])), ((ad 10), .inr (2, [.ref (ad 15), .ref (ad 20)])), ((ad 11), .inr (0, [.long (eL ((cu 0 : Nat) : Int)), .long (eL ((cl 0 : Nat) : Int))])), ((ad 12), .inr (0, [.long (eL ((cu 1 : Nat) : Int)), .long (eL ((cl 1 : Nat) : Int))])), ((ad 13), .inr (0, [.long (eL ((cu 2 : Nat) : Int)), .long (eL ((cl 2 : Nat) : Int))])), ((ad 14), .inr (0, [.long (eL ((cu 3 : Nat) : Int)), .long (eL ((cl 3 : Nat) : Int))])), ((ad 15), .inr (0, [.long (eL ((cu 4 : Nat) : Int)), .long (eL ((cl 4 : Nat) : Int))])), ((ad 16), .inr (0, [.long (eL ((fu 0 : Nat) : Int)), .long (eL ((fl 0 : Nat) : Int))])), ((ad 17), .inr (0, [.long (eL ((fu 1 : Nat) : Int)), .long (eL ((fl 1 : Nat) : Int))])), ((ad 18), .inr (0, [.long (eL ((fu 2 : Nat) : Int)), .long (eL ((fl 2 : Nat) : Int))])), ((ad 19), .inr (0, [.long (eL ((fu 3 : Nat) : Int)), .long (eL ((fl 3 : Nat) : Int))])), ((ad 20), .inr (0, [.long (eL ((fu 4 : Nat) : Int)), .long (eL ((fl 4 : Nat) : Int))])), ((ad 21), .inr (3, [.int (eI (ys 0)), .int (eI (yl 0)), .int (eI (yp 0))])), ((ad 22), .inr (3, [.int (eI (ys 1)), .int (eI (yl 1)), .int (eI (yp 1))])), ((ad 23), .inr (3, [.int (eI (ys 2)), .int (eI (yl 2)), .int (eI (yp 2))]))] 1 := by
  refine eh_ofWL (cc := c_L_lay) (maxL := 5) (ret := some .int) (hs := h_L_lay) (by decide) rfl ?_
  intro p e s m args below meth c s₁ B hml htb0 hv
  obtain ⟨hargs, hP, hK, hN, hst, hap⟩ := hv
  have hx := B.exec
  have hb := B.bytes
  have hrt := B.returns
  have hts := atoms_spec (ws := k_L_lay :: ew_t) B.pre
  have htb : ∀ w ∈ ew_t, w.before args s = true := fun w h => hts w (List.mem_cons_of_mem _ h)
  have hown : s.vm.findClass "EarthHaulsLaw" = some m.cls := findClass_of_methodNamed B.named
  have hlocks := B.notSynchronized
  have htab := eh_tab2 htb0
  have hE9 : entryFrame m args 5 = entryFrame m ([.ref (ad 0), .int (eI y), .int (eI z), .int (eI w)] : List Value).toArray 5 := by rw [hargs]
  rw [hE9]
  clear hE9 hts B hargs htb0
  generalize hRe : (headSpec _ _).room = R
  have hR1 : R.frames = 7 := by rw [← hRe]; rfl
  have hR2 : R.locals = 112 := by rw [← hRe]; rfl
  have hR3 : R.cells = 1 := by rw [← hRe]; rfl
  have hR4 : R.slots = 6 := by rw [← hRe]; rfl
  clear hRe
  generalize hQ : MQ below _ _ s 1 6 _ = Q
  have hP : va_P D classes [((ad 0), .inr (4, [.ref (ad 1), .ref (ad 2), .ref (ad 3), .ref (ad 4), .ref (ad 5), .ref (ad 24), .int (eI ((n : Nat) : Int)), .int (eI sh), .int (eI ra), .int (eI plv), .long (eL pco)])), ((ad 1), .inl (cS, 5, .inr (.inr (.inr (.inr (eh_o5 (ad 6) (ad 7) (ad 8) (ad 9) (ad 10))))))), ((ad 2), aI cI 4 ln), ((ad 3), aI cZ 3 cb), ((ad 4), .inl (cY, 3, .inr (.inr (.inr (.inr (eh_o3 (ad 21) (ad 22) (ad 23))))))), ((ad 5), aI cI 30 la), ((ad 6), .inr (2, [.ref (ad 11), .ref (ad 16)])), ((ad 7), .inr (2, [.ref (ad 12), .ref (ad 17)])), ((ad 8), .inr (2, [.ref (ad 13), .ref (ad 18)])), ((ad 9), .inr (2, [.ref (ad 14), .ref (ad 19)])), ((ad 10), .inr (2, [.ref (ad 15), .ref (ad 20)])), ((ad 11), .inr (0, [.long (eL ((cu 0 : Nat) : Int)), .long (eL ((cl 0 : Nat) : Int))])), ((ad 12), .inr (0, [.long (eL ((cu 1 : Nat) : Int)), .long (eL ((cl 1 : Nat) : Int))])), ((ad 13), .inr (0, [.long (eL ((cu 2 : Nat) : Int)), .long (eL ((cl 2 : Nat) : Int))])), ((ad 14), .inr (0, [.long (eL ((cu 3 : Nat) : Int)), .long (eL ((cl 3 : Nat) : Int))])), ((ad 15), .inr (0, [.long (eL ((cu 4 : Nat) : Int)), .long (eL ((cl 4 : Nat) : Int))])), ((ad 16), .inr (0, [.long (eL ((fu 0 : Nat) : Int)), .long (eL ((fl 0 : Nat) : Int))])), ((ad 17), .inr (0, [.long (eL ((fu 1 : Nat) : Int)), .long (eL ((fl 1 : Nat) : Int))])), ((ad 18), .inr (0, [.long (eL ((fu 2 : Nat) : Int)), .long (eL ((fl 2 : Nat) : Int))])), ((ad 19), .inr (0, [.long (eL ((fu 3 : Nat) : Int)), .long (eL ((fl 3 : Nat) : Int))])), ((ad 20), .inr (0, [.long (eL ((fu 4 : Nat) : Int)), .long (eL ((fl 4 : Nat) : Int))])), ((ad 21), .inr (3, [.int (eI (ys 0)), .int (eI (yl 0)), .int (eI (yp 0))])), ((ad 22), .inr (3, [.int (eI (ys 1)), .int (eI (yl 1)), .int (eI (yp 1))])), ((ad 23), .inr (3, [.int (eI (ys 2)), .int (eI (yl 2)), .int (eI (yp 2))]))] s.heap := hP
  have hl := lv_entry ([.ref (ad 0), .int (eI y), .int (eI z), .int (eI w)]) (n := 5) (Nat.le_of_ble_eq_true rfl)
  rw [lg_entry_eq]
  generalize (lg_sl ([.ref (ad 0), .int (eI y), .int (eI z), .int (eI w)]) ++ List.replicate (5 - (lg_sl ([.ref (ad 0), .int (eI y), .int (eI z), .int (eI w)])).length) Slot.unset).toArray = ls at hl ⊢
  have hl : lv_has ls 5 [(0, .ref (ad 0)), (1, .int (eI y)), (2, .int (eI z)), (3, .int (eI w))] := hl
  refine lv_aload_n hx hb d_L_lay_0 rfl (lv_at hl 0 rfl) ?_
  refine lv_iload_n hx hb d_L_lay_1 rfl (lv_at hl 1 rfl) ?_
  refine lv_iload_n hx hb d_L_lay_2 rfl (lv_at hl 2 rfl) ?_
  refine lv_iload_n hx hb d_L_lay_3 rfl (lv_at hl 3 rfl) ?_
  refine eh_cTV1 (As := [.int (eI y), .int (eI z), .int (eI w)]) (rest := []) (q := (R_E, T_E, 11)) hx hb hml hown htb hN hst (fun _ _ h => h) (va_Nw.use rfl (ew_n_13 hN)) htab (by decide) (by decide) (htb _ tb_448) (t_E_lay_IB l D cI cL cZ cS cY ad n sh ra plv pco ln cb la cu cl fu fl ys yl yp y z w hy hz hw hbad hE hl0) 3 ⟨tb_555, tb_556, tb_557, tb_1, kin_E_lay⟩ dv_E_lay ⟨by rw [hR1]; decide, by rw [hR2]; decide⟩ hK hP 0 rfl rfl [0, 1, 2, 3, 4, 5, 6, 7, 8, 9, 10, 11, 12, 13, 14, 15, 16, 17, 18, 19, 20, 21, 22, 23] rfl [0, 1, 2, 3, 4] rfl rfl rfl hl.1 (Nat.le_of_ble_eq_true rfl) d_L_lay_4 ⟨by rw [hR3]; decide, by rw [hR4]; decide⟩ (fun a9 H hz1 hz2 => ?_)
  refine lv_astore hx hb d_L_lay_10 hl (by decide) rfl (fun ls hl => ?_)
  have hl : lv_has ls 5 [(4, .ref a9), (0, .ref (ad 0)), (1, .int (eI y)), (2, .int (eI z)), (3, .int (eI w))] := hl
  refine lv_iconst (v := eI 1) hx hb d_L_lay_12 rfl ?_
  subst hQ
  exact W.iret hx hb hrt (fun t9 ht hW => ⟨rfl, by rw [ht]; exact hz1, by rw [ht]; exact hz2⟩) (fun q h => by cases h) d_L_lay_13
set_option maxHeartbeats 1000000 in
set_option maxRecDepth 100000 in
theorem x_L_lay_IA (l : Launch) (D : va_G) (cI cL cZ cS cY : ClassId) (ad : Nat → Nat) (n : Nat) (sh ra plv pco : Int) (ln cb la : Nat → Int) (cu cl fu fl : Nat → Nat) (ys yl yp : Nat → Int) (ou : Nat) (y z w : Int) (hy : -2147483648 ≤ y ∧ y < 2147483648) (hz : -2147483648 ≤ z ∧ z < 2147483648) (hw : -2147483648 ≤ w ∧ w < 2147483648) (hgood : ((0 ≤ y ∧ y < 6) ∧ 0 ≤ z ∧ z < 5)) (hbad : ¬ (0 ≤ w ∧ w ≤ 100000000)) (hE : eh_ES n sh ra ln cb la cu cl fu fl ys yl yp) (hl0 : l.stackTraces = false) : eh_X l y_L_lay k_L_lay 7 112 D classes [(cI, .int), (cL, .long), (cZ, .boolean), (cS, .object "EarthHauls$Section"), (cY, .object "EarthHauls$Yard")] [.ref (ad 0), .int (eI y), .int (eI z), .int (eI w)] [((ad 0), .inr (4, [.ref (ad 1), .ref (ad 2), .ref (ad 3), .ref (ad 4), .ref (ad 5), .ref (ad 24), .int (eI ((n : Nat) : Int)), .int (eI sh), .int (eI ra), .int (eI plv), .long (eL pco)])), ((ad 1), .inl (cS, 5, .inr (.inr (.inr (.inr (eh_o5 (ad 6) (ad 7) (ad 8) (ad 9) (ad 10))))))), ((ad 2), aI cI 4 ln), ((ad 3), aI cZ 3 cb), ((ad 4), .inl (cY, 3, .inr (.inr (.inr (.inr (eh_o3 (ad 21) (ad 22) (ad 23))))))), ((ad 5), aI cI 30 la), ((ad 6), .inr (2, [.ref (ad 11), .ref (ad 16)])), ((ad 7), .inr (2, [.ref (ad 12), .ref (ad 17)])), ((ad 8), .inr (2, [.ref (ad 13), .ref (ad 18)])), ((ad 9), .inr (2, [.ref (ad 14), .ref (ad 19)])), ((ad 10), .inr (2, [.ref (ad 15), .ref (ad 20)])), ((ad 11), .inr (0, [.long (eL ((cu 0 : Nat) : Int)), .long (eL ((cl 0 : Nat) : Int))])), ((ad 12), .inr (0, [.long (eL ((cu 1 : Nat) : Int)), .long (eL ((cl 1 : Nat) : Int))])), ((ad 13), .inr (0, [.long (eL ((cu 2 : Nat) : Int)), .long (eL ((cl 2 : Nat) : Int))])), ((ad 14), .inr (0, [.long (eL ((cu 3 : Nat) : Int)), .long (eL ((cl 3 : Nat) : Int))])), ((ad 15), .inr (0, [.long (eL ((cu 4 : Nat) : Int)), .long (eL ((cl 4 : Nat) : Int))])), ((ad 16), .inr (0, [.long (eL ((fu 0 : Nat) : Int)), .long (eL ((fl 0 : Nat) : Int))])), ((ad 17), .inr (0, [.long (eL ((fu 1 : Nat) : Int)), .long (eL ((fl 1 : Nat) : Int))])), ((ad 18), .inr (0, [.long (eL ((fu 2 : Nat) : Int)), .long (eL ((fl 2 : Nat) : Int))])), ((ad 19), .inr (0, [.long (eL ((fu 3 : Nat) : Int)), .long (eL ((fl 3 : Nat) : Int))])), ((ad 20), .inr (0, [.long (eL ((fu 4 : Nat) : Int)), .long (eL ((fl 4 : Nat) : Int))])), ((ad 21), .inr (3, [.int (eI (ys 0)), .int (eI (yl 0)), .int (eI (yp 0))])), ((ad 22), .inr (3, [.int (eI (ys 1)), .int (eI (yl 1)), .int (eI (yp 1))])), ((ad 23), .inr (3, [.int (eI (ys 2)), .int (eI (yl 2)), .int (eI (yp 2))]))] 2 := by
  refine eh_ofWL (cc := c_L_lay) (maxL := 5) (ret := some .int) (hs := h_L_lay) (by decide) rfl ?_
  intro p e s m args below meth c s₁ B hml htb0 hv
  obtain ⟨hargs, hP, hK, hN, hst, hap⟩ := hv
  have hx := B.exec
  have hb := B.bytes
  have hrt := B.returns
  have hts := atoms_spec (ws := k_L_lay :: ew_t) B.pre
  have htb : ∀ w ∈ ew_t, w.before args s = true := fun w h => hts w (List.mem_cons_of_mem _ h)
  have hown : s.vm.findClass "EarthHaulsLaw" = some m.cls := findClass_of_methodNamed B.named
  have hlocks := B.notSynchronized
  have htab := eh_tab2 htb0
  have hE9 : entryFrame m args 5 = entryFrame m ([.ref (ad 0), .int (eI y), .int (eI z), .int (eI w)] : List Value).toArray 5 := by rw [hargs]
  rw [hE9]
  clear hE9 hts B hargs htb0
  generalize hRe : (headSpec _ _).room = R
  have hR1 : R.frames = 7 := by rw [← hRe]; rfl
  have hR2 : R.locals = 112 := by rw [← hRe]; rfl
  have hR3 : R.cells = 1 := by rw [← hRe]; rfl
  have hR4 : R.slots = 6 := by rw [← hRe]; rfl
  clear hRe
  generalize hQ : MQ below _ _ s 1 6 _ = Q
  have hP : va_P D classes [((ad 0), .inr (4, [.ref (ad 1), .ref (ad 2), .ref (ad 3), .ref (ad 4), .ref (ad 5), .ref (ad 24), .int (eI ((n : Nat) : Int)), .int (eI sh), .int (eI ra), .int (eI plv), .long (eL pco)])), ((ad 1), .inl (cS, 5, .inr (.inr (.inr (.inr (eh_o5 (ad 6) (ad 7) (ad 8) (ad 9) (ad 10))))))), ((ad 2), aI cI 4 ln), ((ad 3), aI cZ 3 cb), ((ad 4), .inl (cY, 3, .inr (.inr (.inr (.inr (eh_o3 (ad 21) (ad 22) (ad 23))))))), ((ad 5), aI cI 30 la), ((ad 6), .inr (2, [.ref (ad 11), .ref (ad 16)])), ((ad 7), .inr (2, [.ref (ad 12), .ref (ad 17)])), ((ad 8), .inr (2, [.ref (ad 13), .ref (ad 18)])), ((ad 9), .inr (2, [.ref (ad 14), .ref (ad 19)])), ((ad 10), .inr (2, [.ref (ad 15), .ref (ad 20)])), ((ad 11), .inr (0, [.long (eL ((cu 0 : Nat) : Int)), .long (eL ((cl 0 : Nat) : Int))])), ((ad 12), .inr (0, [.long (eL ((cu 1 : Nat) : Int)), .long (eL ((cl 1 : Nat) : Int))])), ((ad 13), .inr (0, [.long (eL ((cu 2 : Nat) : Int)), .long (eL ((cl 2 : Nat) : Int))])), ((ad 14), .inr (0, [.long (eL ((cu 3 : Nat) : Int)), .long (eL ((cl 3 : Nat) : Int))])), ((ad 15), .inr (0, [.long (eL ((cu 4 : Nat) : Int)), .long (eL ((cl 4 : Nat) : Int))])), ((ad 16), .inr (0, [.long (eL ((fu 0 : Nat) : Int)), .long (eL ((fl 0 : Nat) : Int))])), ((ad 17), .inr (0, [.long (eL ((fu 1 : Nat) : Int)), .long (eL ((fl 1 : Nat) : Int))])), ((ad 18), .inr (0, [.long (eL ((fu 2 : Nat) : Int)), .long (eL ((fl 2 : Nat) : Int))])), ((ad 19), .inr (0, [.long (eL ((fu 3 : Nat) : Int)), .long (eL ((fl 3 : Nat) : Int))])), ((ad 20), .inr (0, [.long (eL ((fu 4 : Nat) : Int)), .long (eL ((fl 4 : Nat) : Int))])), ((ad 21), .inr (3, [.int (eI (ys 0)), .int (eI (yl 0)), .int (eI (yp 0))])), ((ad 22), .inr (3, [.int (eI (ys 1)), .int (eI (yl 1)), .int (eI (yp 1))])), ((ad 23), .inr (3, [.int (eI (ys 2)), .int (eI (yl 2)), .int (eI (yp 2))]))] s.heap := hP
  have hl := lv_entry ([.ref (ad 0), .int (eI y), .int (eI z), .int (eI w)]) (n := 5) (Nat.le_of_ble_eq_true rfl)
  rw [lg_entry_eq]
  generalize (lg_sl ([.ref (ad 0), .int (eI y), .int (eI z), .int (eI w)]) ++ List.replicate (5 - (lg_sl ([.ref (ad 0), .int (eI y), .int (eI z), .int (eI w)])).length) Slot.unset).toArray = ls at hl ⊢
  have hl : lv_has ls 5 [(0, .ref (ad 0)), (1, .int (eI y)), (2, .int (eI z)), (3, .int (eI w))] := hl
  refine lv_aload_n hx hb d_L_lay_0 rfl (lv_at hl 0 rfl) ?_
  refine lv_iload_n hx hb d_L_lay_1 rfl (lv_at hl 1 rfl) ?_
  refine lv_iload_n hx hb d_L_lay_2 rfl (lv_at hl 2 rfl) ?_
  refine lv_iload_n hx hb d_L_lay_3 rfl (lv_at hl 3 rfl) ?_
  refine eh_cTV2 (nm := eh_IB) (As := [.int (eI y), .int (eI z), .int (eI w)]) (rest := []) (q := (R_E, T_E, 11)) hx hb hml hown htb hN hst (fun _ _ h => h) (va_Nw.use rfl (ew_n_11 hN)) htab (by decide) (by decide) (htb _ tb_448) hap.2.2 (by decide) (by decide) (htb _ tb_324) (t_E_lay_IA l D cI cL cZ cS cY ad n sh ra plv pco ln cb la cu cl fu fl ys yl yp y z w hy hz hw hgood hbad hE hl0) 3 ⟨tb_555, tb_556, tb_557, tb_1, kin_E_lay⟩ dv_E_lay ⟨by rw [hR1]; decide, by rw [hR2]; decide⟩ hK hP 0 rfl rfl [0, 1, 2, 3, 4, 5, 6, 7, 8, 9, 10, 11, 12, 13, 14, 15, 16, 17, 18, 19, 20, 21, 22, 23] rfl [0, 1, 2, 3, 4] rfl rfl rfl hl.1 (Nat.le_of_ble_eq_true rfl) d_L_lay_4 ⟨by rw [hR3]; decide, by rw [hR4]; decide⟩ (fun a9 H hz1 hz2 => ?_)
  refine lv_astore hx hb d_L_lay_14 hl (by decide) rfl (fun ls hl => ?_)
  have hl : lv_has ls 5 [(4, .ref a9), (0, .ref (ad 0)), (1, .int (eI y)), (2, .int (eI z)), (3, .int (eI w))] := hl
  refine lv_iconst (v := eI 2) hx hb d_L_lay_16 rfl ?_
  subst hQ
  exact W.iret hx hb hrt (fun t9 ht hW => ⟨rfl, by rw [ht]; exact hz1, by rw [ht]; exact hz2⟩) (fun q h => by cases h) d_L_lay_17
abbrev c_L_count : ByteArray := method_14_code
def y_L_count : MethodName := ⟨"EarthHaulsLaw", "count", "(LEarthHauls;I[J)I"⟩
abbrev h_L_count : List (Nat × Nat × Nat × Nat) := [(0, 9, 12, 13)]
abbrev k_L_count : Cond := .codeWith y_L_count c_L_count 4 (some .int) h_L_count
theorem kin_L_count : k_L_count ∈ ew_t := tb_561
theorem dv_L_count : eh_dS y_L_count 3 := ⟨by decide, by decide, by decide +kernel⟩
theorem d_L_count_0 : decode c_L_count 0 = .ok (.aload_n 2, 1) := by decide +kernel
theorem d_L_count_1 : decode c_L_count 1 = .ok (.iconst 0, 1) := by decide +kernel
theorem d_L_count_2 : decode c_L_count 2 = .ok (.aload_n 0, 1) := by decide +kernel
theorem d_L_count_3 : decode c_L_count 3 = .ok (.iload_n 1, 1) := by decide +kernel
theorem d_L_count_4 : decode c_L_count 4 = .ok (.invokevirtual 57, 3) := by decide +kernel
theorem d_L_count_7 : decode c_L_count 7 = .ok (.i2l, 1) := by decide +kernel
theorem d_L_count_8 : decode c_L_count 8 = .ok (.lastore, 1) := by decide +kernel
theorem d_L_count_9 : decode c_L_count 9 = .ok (.goto 6, 3) := by decide +kernel
theorem d_L_count_12 : decode c_L_count 12 = .ok (.astore_n 3, 1) := by decide +kernel
theorem d_L_count_13 : decode c_L_count 13 = .ok (.iconst 1, 1) := by decide +kernel
theorem d_L_count_14 : decode c_L_count 14 = .ok (.ireturn, 1) := by decide +kernel
theorem d_L_count_15 : decode c_L_count 15 = .ok (.iconst 0, 1) := by decide +kernel
theorem d_L_count_16 : decode c_L_count 16 = .ok (.ireturn, 1) := by decide +kernel
set_option maxHeartbeats 1000000 in
set_option maxRecDepth 100000 in
theorem x_L_count_IA (l : Launch) (D : va_G) (cI cL cZ cS cY : ClassId) (ad : Nat → Nat) (n : Nat) (sh ra plv pco : Int) (ln cb la : Nat → Int) (cu cl fu fl : Nat → Nat) (ys yl yp : Nat → Int) (ou : Nat) (y : Int) (hy : -2147483648 ≤ y ∧ y < 2147483648) (hbad : ¬ (0 ≤ y ∧ y ≤ 4)) (hE : eh_ES n sh ra ln cb la cu cl fu fl ys yl yp) (hl0 : l.stackTraces = false) : eh_X l y_L_count k_L_count 7 110 D classes [(cI, .int), (cL, .long), (cZ, .boolean), (cS, .object "EarthHauls$Section"), (cY, .object "EarthHauls$Yard")] [.ref (ad 0), .int (eI y), .ref ou] [((ad 0), .inr (4, [.ref (ad 1), .ref (ad 2), .ref (ad 3), .ref (ad 4), .ref (ad 5), .ref (ad 24), .int (eI ((n : Nat) : Int)), .int (eI sh), .int (eI ra), .int (eI plv), .long (eL pco)])), ((ad 1), .inl (cS, 5, .inr (.inr (.inr (.inr (eh_o5 (ad 6) (ad 7) (ad 8) (ad 9) (ad 10))))))), ((ad 2), aI cI 4 ln), ((ad 3), aI cZ 3 cb), ((ad 4), .inl (cY, 3, .inr (.inr (.inr (.inr (eh_o3 (ad 21) (ad 22) (ad 23))))))), ((ad 5), aI cI 30 la), ((ad 6), .inr (2, [.ref (ad 11), .ref (ad 16)])), ((ad 7), .inr (2, [.ref (ad 12), .ref (ad 17)])), ((ad 8), .inr (2, [.ref (ad 13), .ref (ad 18)])), ((ad 9), .inr (2, [.ref (ad 14), .ref (ad 19)])), ((ad 10), .inr (2, [.ref (ad 15), .ref (ad 20)])), ((ad 11), .inr (0, [.long (eL ((cu 0 : Nat) : Int)), .long (eL ((cl 0 : Nat) : Int))])), ((ad 12), .inr (0, [.long (eL ((cu 1 : Nat) : Int)), .long (eL ((cl 1 : Nat) : Int))])), ((ad 13), .inr (0, [.long (eL ((cu 2 : Nat) : Int)), .long (eL ((cl 2 : Nat) : Int))])), ((ad 14), .inr (0, [.long (eL ((cu 3 : Nat) : Int)), .long (eL ((cl 3 : Nat) : Int))])), ((ad 15), .inr (0, [.long (eL ((cu 4 : Nat) : Int)), .long (eL ((cl 4 : Nat) : Int))])), ((ad 16), .inr (0, [.long (eL ((fu 0 : Nat) : Int)), .long (eL ((fl 0 : Nat) : Int))])), ((ad 17), .inr (0, [.long (eL ((fu 1 : Nat) : Int)), .long (eL ((fl 1 : Nat) : Int))])), ((ad 18), .inr (0, [.long (eL ((fu 2 : Nat) : Int)), .long (eL ((fl 2 : Nat) : Int))])), ((ad 19), .inr (0, [.long (eL ((fu 3 : Nat) : Int)), .long (eL ((fl 3 : Nat) : Int))])), ((ad 20), .inr (0, [.long (eL ((fu 4 : Nat) : Int)), .long (eL ((fl 4 : Nat) : Int))])), ((ad 21), .inr (3, [.int (eI (ys 0)), .int (eI (yl 0)), .int (eI (yp 0))])), ((ad 22), .inr (3, [.int (eI (ys 1)), .int (eI (yl 1)), .int (eI (yp 1))])), ((ad 23), .inr (3, [.int (eI (ys 2)), .int (eI (yl 2)), .int (eI (yp 2))]))] 1 := by
  refine eh_ofWL (cc := c_L_count) (maxL := 4) (ret := some .int) (hs := h_L_count) (by decide) rfl ?_
  intro p e s m args below meth c s₁ B hml htb0 hv
  obtain ⟨hargs, hP, hK, hN, hst, hap⟩ := hv
  have hx := B.exec
  have hb := B.bytes
  have hrt := B.returns
  have hts := atoms_spec (ws := k_L_count :: ew_t) B.pre
  have htb : ∀ w ∈ ew_t, w.before args s = true := fun w h => hts w (List.mem_cons_of_mem _ h)
  have hown : s.vm.findClass "EarthHaulsLaw" = some m.cls := findClass_of_methodNamed B.named
  have hlocks := B.notSynchronized
  have htab := eh_tab1 htb0
  have hE9 : entryFrame m args 4 = entryFrame m ([.ref (ad 0), .int (eI y), .ref ou] : List Value).toArray 4 := by rw [hargs]
  rw [hE9]
  clear hE9 hts B hargs htb0
  generalize hRe : (headSpec _ _).room = R
  have hR1 : R.frames = 7 := by rw [← hRe]; rfl
  have hR2 : R.locals = 110 := by rw [← hRe]; rfl
  have hR3 : R.cells = 1 := by rw [← hRe]; rfl
  have hR4 : R.slots = 6 := by rw [← hRe]; rfl
  clear hRe
  generalize hQ : MQ below _ _ s 1 6 _ = Q
  have hP : va_P D classes [((ad 0), .inr (4, [.ref (ad 1), .ref (ad 2), .ref (ad 3), .ref (ad 4), .ref (ad 5), .ref (ad 24), .int (eI ((n : Nat) : Int)), .int (eI sh), .int (eI ra), .int (eI plv), .long (eL pco)])), ((ad 1), .inl (cS, 5, .inr (.inr (.inr (.inr (eh_o5 (ad 6) (ad 7) (ad 8) (ad 9) (ad 10))))))), ((ad 2), aI cI 4 ln), ((ad 3), aI cZ 3 cb), ((ad 4), .inl (cY, 3, .inr (.inr (.inr (.inr (eh_o3 (ad 21) (ad 22) (ad 23))))))), ((ad 5), aI cI 30 la), ((ad 6), .inr (2, [.ref (ad 11), .ref (ad 16)])), ((ad 7), .inr (2, [.ref (ad 12), .ref (ad 17)])), ((ad 8), .inr (2, [.ref (ad 13), .ref (ad 18)])), ((ad 9), .inr (2, [.ref (ad 14), .ref (ad 19)])), ((ad 10), .inr (2, [.ref (ad 15), .ref (ad 20)])), ((ad 11), .inr (0, [.long (eL ((cu 0 : Nat) : Int)), .long (eL ((cl 0 : Nat) : Int))])), ((ad 12), .inr (0, [.long (eL ((cu 1 : Nat) : Int)), .long (eL ((cl 1 : Nat) : Int))])), ((ad 13), .inr (0, [.long (eL ((cu 2 : Nat) : Int)), .long (eL ((cl 2 : Nat) : Int))])), ((ad 14), .inr (0, [.long (eL ((cu 3 : Nat) : Int)), .long (eL ((cl 3 : Nat) : Int))])), ((ad 15), .inr (0, [.long (eL ((cu 4 : Nat) : Int)), .long (eL ((cl 4 : Nat) : Int))])), ((ad 16), .inr (0, [.long (eL ((fu 0 : Nat) : Int)), .long (eL ((fl 0 : Nat) : Int))])), ((ad 17), .inr (0, [.long (eL ((fu 1 : Nat) : Int)), .long (eL ((fl 1 : Nat) : Int))])), ((ad 18), .inr (0, [.long (eL ((fu 2 : Nat) : Int)), .long (eL ((fl 2 : Nat) : Int))])), ((ad 19), .inr (0, [.long (eL ((fu 3 : Nat) : Int)), .long (eL ((fl 3 : Nat) : Int))])), ((ad 20), .inr (0, [.long (eL ((fu 4 : Nat) : Int)), .long (eL ((fl 4 : Nat) : Int))])), ((ad 21), .inr (3, [.int (eI (ys 0)), .int (eI (yl 0)), .int (eI (yp 0))])), ((ad 22), .inr (3, [.int (eI (ys 1)), .int (eI (yl 1)), .int (eI (yp 1))])), ((ad 23), .inr (3, [.int (eI (ys 2)), .int (eI (yl 2)), .int (eI (yp 2))]))] s.heap := hP
  have hl := lv_entry ([.ref (ad 0), .int (eI y), .ref ou]) (n := 4) (Nat.le_of_ble_eq_true rfl)
  rw [lg_entry_eq]
  generalize (lg_sl ([.ref (ad 0), .int (eI y), .ref ou]) ++ List.replicate (4 - (lg_sl ([.ref (ad 0), .int (eI y), .ref ou])).length) Slot.unset).toArray = ls at hl ⊢
  have hl : lv_has ls 4 [(0, .ref (ad 0)), (1, .int (eI y)), (2, .ref ou)] := hl
  refine lv_aload_n hx hb d_L_count_0 rfl (lv_at hl 2 rfl) ?_
  refine lv_iconst (v := eI 0) hx hb d_L_count_1 rfl ?_
  refine lv_aload_n hx hb d_L_count_2 rfl (lv_at hl 0 rfl) ?_
  refine lv_iload_n hx hb d_L_count_3 rfl (lv_at hl 1 rfl) ?_
  refine eh_cTV1 (As := [.int (eI y)]) (rest := [.int (eI 0), .ref ou]) (q := (R_E, T_E, 11)) hx hb hml hown htb hN hst (fun _ _ h => h) (va_Nw.use rfl (ew_n_11 hN)) htab (by decide) (by decide) (htb _ tb_324) (t_E_count_IA l D cI cL cZ cS cY ad n sh ra plv pco ln cb la cu cl fu fl ys yl yp y hy hbad hE hl0) 1 ⟨tb_562, tb_563, tb_564, tb_1, kin_E_count⟩ dv_E_count ⟨by rw [hR1]; decide, by rw [hR2]; decide⟩ hK hP 0 rfl rfl [0, 1, 2, 3, 4, 5, 6, 7, 8, 9, 10, 11, 12, 13, 14, 15, 16, 17, 18, 19, 20, 21, 22, 23] rfl [0, 1, 2, 3, 4] rfl rfl rfl hl.1 (Nat.le_of_ble_eq_true rfl) d_L_count_4 ⟨by rw [hR3]; decide, by rw [hR4]; decide⟩ (fun a9 H hz1 hz2 => ?_)
  refine lv_astore_n hx hb d_L_count_12 rfl hl (by decide) rfl (fun ls hl => ?_)
  have hl : lv_has ls 4 [(3, .ref a9), (0, .ref (ad 0)), (1, .int (eI y)), (2, .ref ou)] := hl
  refine lv_iconst (v := eI 1) hx hb d_L_count_13 rfl ?_
  subst hQ
  exact W.iret hx hb hrt (fun t9 ht hW => ⟨rfl, by rw [ht]; exact hz1, by rw [ht]; exact hz2⟩) (fun q h => by cases h) d_L_count_14
