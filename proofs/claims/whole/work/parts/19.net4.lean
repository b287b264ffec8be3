abbrev c_N_roomOfWay : ByteArray := prog_3_method_18_code
def y_N_roomOfWay : MethodName := ⟨"EarthHauls$Network", "roomOfWay", "(III)I"⟩
abbrev k_N_roomOfWay : Cond := .code y_N_roomOfWay c_N_roomOfWay 8 (some .int)
theorem kin_N_roomOfWay : k_N_roomOfWay ∈ ew_t := tb_276
theorem dv_N_roomOfWay : eh_dV y_N_roomOfWay "EarthHauls$Network" 3 := ⟨rfl, by decide, by decide, by decide +kernel⟩
theorem d_N_roomOfWay_0 : decode c_N_roomOfWay 0 = .ok (.iload_n 3, 1) := by decide +kernel
theorem d_N_roomOfWay_1 : decode c_N_roomOfWay 1 = .ok (.istore 4, 2) := by decide +kernel
theorem d_N_roomOfWay_3 : decode c_N_roomOfWay 3 = .ok (.iload_n 2, 1) := by decide +kernel
theorem d_N_roomOfWay_4 : decode c_N_roomOfWay 4 = .ok (.istore 5, 2) := by decide +kernel
theorem d_N_roomOfWay_6 : decode c_N_roomOfWay 6 = .ok (.iconst 0, 1) := by decide +kernel
theorem d_N_roomOfWay_7 : decode c_N_roomOfWay 7 = .ok (.istore 6, 2) := by decide +kernel
theorem d_N_roomOfWay_9 : decode c_N_roomOfWay 9 = .ok (.iload 6, 2) := by decide +kernel
theorem d_N_roomOfWay_11 : decode c_N_roomOfWay 11 = .ok (.bipush 12, 2) := by decide +kernel
theorem d_N_roomOfWay_13 : decode c_N_roomOfWay 13 = .ok (.if_icmp .ge 58, 3) := by decide +kernel
theorem d_N_roomOfWay_16 : decode c_N_roomOfWay 16 = .ok (.iload 5, 2) := by decide +kernel
theorem d_N_roomOfWay_18 : decode c_N_roomOfWay 18 = .ok (.iload_n 1, 1) := by decide +kernel
theorem d_N_roomOfWay_19 : decode c_N_roomOfWay 19 = .ok (.if_icmp .eq 52, 3) := by decide +kernel
theorem d_N_roomOfWay_22 : decode c_N_roomOfWay 22 = .ok (.aload_n 0, 1) := by decide +kernel
theorem d_N_roomOfWay_23 : decode c_N_roomOfWay 23 = .ok (.getfield 31, 3) := by decide +kernel
theorem d_N_roomOfWay_26 : decode c_N_roomOfWay 26 = .ok (.iload 5, 2) := by decide +kernel
theorem d_N_roomOfWay_28 : decode c_N_roomOfWay 28 = .ok (.iaload, 1) := by decide +kernel
theorem d_N_roomOfWay_29 : decode c_N_roomOfWay 29 = .ok (.iconst (-1), 1) := by decide +kernel
theorem d_N_roomOfWay_30 : decode c_N_roomOfWay 30 = .ok (.if_icmp .eq 41, 3) := by decide +kernel
theorem d_N_roomOfWay_33 : decode c_N_roomOfWay 33 = .ok (.aload_n 0, 1) := by decide +kernel
theorem d_N_roomOfWay_34 : decode c_N_roomOfWay 34 = .ok (.getfield 31, 3) := by decide +kernel
theorem d_N_roomOfWay_37 : decode c_N_roomOfWay 37 = .ok (.iload 5, 2) := by decide +kernel
theorem d_N_roomOfWay_39 : decode c_N_roomOfWay 39 = .ok (.iaload, 1) := by decide +kernel
theorem d_N_roomOfWay_40 : decode c_N_roomOfWay 40 = .ok (.istore 7, 2) := by decide +kernel
theorem d_N_roomOfWay_42 : decode c_N_roomOfWay 42 = .ok (.iload 4, 2) := by decide +kernel
theorem d_N_roomOfWay_44 : decode c_N_roomOfWay 44 = .ok (.aload_n 0, 1) := by decide +kernel
theorem d_N_roomOfWay_45 : decode c_N_roomOfWay 45 = .ok (.getfield 18, 3) := by decide +kernel
theorem d_N_roomOfWay_48 : decode c_N_roomOfWay 48 = .ok (.iload 7, 2) := by decide +kernel
theorem d_N_roomOfWay_50 : decode c_N_roomOfWay 50 = .ok (.iaload, 1) := by decide +kernel
theorem d_N_roomOfWay_51 : decode c_N_roomOfWay 51 = .ok (.invokestatic 90, 3) := by decide +kernel
theorem d_N_roomOfWay_54 : decode c_N_roomOfWay 54 = .ok (.istore 4, 2) := by decide +kernel
theorem d_N_roomOfWay_56 : decode c_N_roomOfWay 56 = .ok (.aload_n 0, 1) := by decide +kernel
theorem d_N_roomOfWay_57 : decode c_N_roomOfWay 57 = .ok (.getfield 11, 3) := by decide +kernel
theorem d_N_roomOfWay_60 : decode c_N_roomOfWay 60 = .ok (.iload 7, 2) := by decide +kernel
theorem d_N_roomOfWay_62 : decode c_N_roomOfWay 62 = .ok (.iaload, 1) := by decide +kernel
theorem d_N_roomOfWay_63 : decode c_N_roomOfWay 63 = .ok (.istore 5, 2) := by decide +kernel
theorem d_N_roomOfWay_65 : decode c_N_roomOfWay 65 = .ok (.iinc 6 1, 3) := by decide +kernel
theorem d_N_roomOfWay_68 : decode c_N_roomOfWay 68 = .ok (.goto (-59), 3) := by decide +kernel
theorem d_N_roomOfWay_71 : decode c_N_roomOfWay 71 = .ok (.iload 4, 2) := by decide +kernel
theorem d_N_roomOfWay_73 : decode c_N_roomOfWay 73 = .ok (.ireturn, 1) := by decide +kernel
set_option maxHeartbeats 4000000 in
set_option maxRecDepth 100000 in
theorem r_N_roomOfWay (l : Launch) (D : va_G) (cI cL : ClassId) (h0 qT qH qR qW qA qD qE : Nat) (K : Nat) (a b : Nat → Nat) (cap x gT gR gE : Nat → Int) (et : Nat → Option Nat) (st nd : Nat) (y : Int) (L : List Nat) (hK41 : K ≤ 41) (hst : st < 12) (hT : ∀ e, e < 2 * K → gT e = ((eh_tl a b e : Nat) : Int)) (hR : ∀ e, e < 2 * K → gR e = eh_rm cap x e) (hgEt : ∀ v, v < 12 → gE v = eh_eo (et v)) (hw : eh_wy K a b et st nd L) (hL : L.length < 12) (hy : 0 ≤ y ∧ y ≤ 1000000000) (hrm : ∀ e, e < 2 * K → 0 ≤ eh_rm cap x e ∧ eh_rm cap x e ≤ 1000000000) : eh_R l y_N_roomOfWay k_N_roomOfWay 1 32 D classes [(cI, .int), (cL, .long)] [.ref h0, .int (eI (st : Int)), .int (eI (nd : Int)), .int (eI y)] [(h0, .inr (1, [.ref qT, .ref qH, .ref qR, .ref qW, .ref qA, .ref qD, .ref qE, .int (eI ((2 * K : Nat) : Int))])), (qT, aI cI 82 gT), (qR, aI cI 82 gR), (qE, aI cI 12 gE)] (.int (eI (eh_mn (eh_rm cap x) L y))) := by
  refine Met.ofW (cc := c_N_roomOfWay) (maxL := 8) (ret := (some .int)) (by decide) rfl ?_
  intro p e s m args below meth c s₁ B hml hv
  obtain ⟨hargs, hP, hK, hN⟩ := hv
  have hx := B.exec
  have hb := B.bytes
  have hrt := B.returns
  have hts := atoms_spec (ws := k_N_roomOfWay :: ew_t) B.pre
  have htb : ∀ w ∈ ew_t, w.before args s = true := fun w h => hts w (List.mem_cons_of_mem _ h)
  have hown : s.vm.findClass "EarthHauls$Network" = some m.cls := findClass_of_methodNamed B.named
  have hlocks := B.notSynchronized
  have hE : entryFrame m args 8 = entryFrame m ([.ref h0, .int (eI (st : Int)), .int (eI (nd : Int)), .int (eI y)] : List Value).toArray 8 := by rw [hargs]
  rw [hE]
  clear hE hts B hargs
  generalize hRe : (headSpec _ _).room = R
  have hR1 : R.frames = 1 := by rw [← hRe]; rfl
  have hR2 : R.locals = 32 := by rw [← hRe]; rfl
  clear hRe
  generalize hQ : MQ below _ _ s 0 0 _ = Q
  have hP : va_P D classes [(h0, .inr (1, [.ref qT, .ref qH, .ref qR, .ref qW, .ref qA, .ref qD, .ref qE, .int (eI ((2 * K : Nat) : Int))])), (qT, aI cI 82 gT), (qR, aI cI 82 gR), (qE, aI cI 12 gE)] s.heap := hP
  have hl := lv_entry ([.ref h0, .int (eI (st : Int)), .int (eI (nd : Int)), .int (eI y)]) (n := 8) (Nat.le_of_ble_eq_true rfl)
  rw [lg_entry_eq]
  generalize (lg_sl ([.ref h0, .int (eI (st : Int)), .int (eI (nd : Int)), .int (eI y)]) ++ List.replicate (8 - (lg_sl ([.ref h0, .int (eI (st : Int)), .int (eI (nd : Int)), .int (eI y)])).length) Slot.unset).toArray = ls at hl ⊢
  have hl : lv_has ls 8 [(0, .ref h0), (1, .int (eI (st : Int))), (2, .int (eI (nd : Int))), (3, .int (eI y))] := hl
  refine lv_iload_n hx hb d_N_roomOfWay_0 rfl (lv_at hl 3 rfl) ?_
  refine lv_istore hx hb d_N_roomOfWay_1 hl (by decide) rfl (fun ls hl => ?_)
  have hl : lv_has ls 8 [(4, .int (eI y)), (0, .ref h0), (1, .int (eI (st : Int))), (2, .int (eI (nd : Int))), (3, .int (eI y))] := hl
  refine lv_iload_n hx hb d_N_roomOfWay_3 rfl (lv_at hl 3 rfl) ?_
  refine lv_istore hx hb d_N_roomOfWay_4 hl (by decide) rfl (fun ls hl => ?_)
  have hl : lv_has ls 8 [(5, .int (eI (nd : Int))), (4, .int (eI y)), (0, .ref h0), (1, .int (eI (st : Int))), (2, .int (eI (nd : Int))), (3, .int (eI y))] := hl
  refine lv_iconst (v := eI 0) hx hb d_N_roomOfWay_6 rfl ?_
  refine lv_istore hx hb d_N_roomOfWay_7 hl (by decide) rfl (fun ls hl => ?_)
  have hl : lv_has ls 8 [(6, .int (eI 0)), (5, .int (eI (nd : Int))), (4, .int (eI y)), (0, .ref h0), (1, .int (eI (st : Int))), (2, .int (eI (nd : Int))), (3, .int (eI y))] := hl
  have loop : ∀ (L2 : List Nat) (i v : Nat) (yy : Int) (ls : Array Slot), i + L2.length < 12 → eh_wy K a b et st v L2 → (0 ≤ yy ∧ yy ≤ 1000000000) → eh_mn (eh_rm cap x) L2 yy = eh_mn (eh_rm cap x) L y → lv_has ls 8 [(6, .int (eI ((i : Nat) : Int))), (5, .int (eI ((v : Nat) : Int))), (4, .int (eI yy)), (3, .int (eI y)), (2, .int (eI (nd : Int))), (1, .int (eI (st : Int))), (0, .ref h0)] → W p l e R s m args below meth c s.heap [] 0 0 Q (F0 m 9 ls []) := by
    intro L2
    induction L2 with
    | nil =>
      intro i v yy ls hi hw2 hyy hm hl
      have hv := eh_wy_nil hw2
      subst hv
      have hm : yy = eh_mn (eh_rm cap x) L y := hm
      refine lv_iload hx hb d_N_roomOfWay_9 (lv_at hl 0 rfl) ?_
      refine lv_bipush (v := eI 12) hx hb d_N_roomOfWay_11 (by decide) ?_
      refine we_icmp_ge (tgt := 71) hx hb (by constructor <;> omega) (by constructor <;> omega) d_N_roomOfWay_13 rfl (fun hc13 => absurd hc13 (by omega)) (fun hc13 => ?_)
      refine lv_iload hx hb d_N_roomOfWay_16 (lv_at hl 1 rfl) ?_
      refine lv_iload_n hx hb d_N_roomOfWay_18 rfl (lv_at hl 5 rfl) ?_
      refine we_icmp_eq (tgt := 71) hx hb (by constructor <;> omega) (by constructor <;> omega) d_N_roomOfWay_19 rfl (fun hc19 => ?_) (fun hc19 => absurd hc19 (by omega))
      refine lv_iload hx hb d_N_roomOfWay_71 (lv_at hl 2 rfl) ?_
      have hres : yy = (eh_mn (eh_rm cap x) L y) := hm
      rw [hres]
      subst hQ
      exact W.iret hx hb hrt (fun t ht hW => ⟨rfl, ht⟩) (fun q h => by cases h) d_N_roomOfWay_73
    | cons ee L2 ih =>
      intro i v yy ls hi hw2 hyy hm hl
      obtain ⟨e1, e2, e3, e4, e5⟩ := eh_wy_cons hw2
      have hv12 := hw2.2.2.2
      have hgE := hgEt v hv12
      rw [e1] at hgE
      have hgE : gE v = (ee : Int) := hgE
      have hgR := hR ee e2
      have hgT := hT ee e2
      have hrr := hrm ee e2
      have hi2 : i + (L2.length + 1) < 12 := hi
      refine lv_iload hx hb d_N_roomOfWay_9 (lv_at hl 0 rfl) ?_
      refine lv_bipush (v := eI 12) hx hb d_N_roomOfWay_11 (by decide) ?_
      refine we_icmp_ge (tgt := 71) hx hb (by constructor <;> omega) (by constructor <;> omega) d_N_roomOfWay_13 rfl (fun hc13 => absurd hc13 (by omega)) (fun hc13 => ?_)
      refine lv_iload hx hb d_N_roomOfWay_16 (lv_at hl 1 rfl) ?_
      refine lv_iload_n hx hb d_N_roomOfWay_18 rfl (lv_at hl 5 rfl) ?_
      refine we_icmp_eq (tgt := 71) hx hb (by constructor <;> omega) (by constructor <;> omega) d_N_roomOfWay_19 rfl (fun hc19 => absurd hc19 (by omega)) (fun hc19 => ?_)
      refine lv_aload_n hx hb d_N_roomOfWay_22 rfl (lv_at hl 6 rfl) ?_
      refine va_get (D := D) (ci := 1) (v := .ref qE) (C := R_N) (T := T_N) (N := 8) hx hb htb in_N hown hK hP 0 rfl rfl 6 (by decide) (htb _ tb_39) (fun _ h9 => h9) rfl d_N_roomOfWay_23 ?_
      refine lv_iload hx hb d_N_roomOfWay_26 (lv_at hl 1 rfl) ?_
      refine we_iald hx hb hK hP 3 0 rfl rfl v rfl hv12 (by decide) d_N_roomOfWay_28 ?_
      refine lv_iconst (v := eI (-1)) hx hb d_N_roomOfWay_29 rfl ?_
      refine we_icmp_eq (tgt := 71) hx hb (by constructor <;> omega) (by constructor <;> omega) d_N_roomOfWay_30 rfl (fun hc30 => absurd hc30 (by omega)) (fun hc30 => ?_)
      refine lv_aload_n hx hb d_N_roomOfWay_33 rfl (lv_at hl 6 rfl) ?_
      refine va_get (D := D) (ci := 1) (v := .ref qE) (C := R_N) (T := T_N) (N := 8) hx hb htb in_N hown hK hP 0 rfl rfl 6 (by decide) (htb _ tb_39) (fun _ h9 => h9) rfl d_N_roomOfWay_34 ?_
      refine lv_iload hx hb d_N_roomOfWay_37 (lv_at hl 1 rfl) ?_
      refine we_iald hx hb hK hP 3 0 rfl rfl v rfl hv12 (by decide) d_N_roomOfWay_39 ?_
      refine lv_istore hx hb d_N_roomOfWay_40 hl (by decide) rfl (fun ls hl => ?_)
      have hl : lv_has ls 8 [(7, .int (eI (gE v))), (6, .int (eI ((i : Nat) : Int))), (5, .int (eI ((v : Nat) : Int))), (4, .int (eI yy)), (3, .int (eI y)), (2, .int (eI (nd : Int))), (1, .int (eI (st : Int))), (0, .ref h0)] := hl
      refine lv_iload hx hb d_N_roomOfWay_42 (lv_at hl 3 rfl) ?_
      refine lv_aload_n hx hb d_N_roomOfWay_44 rfl (lv_at hl 7 rfl) ?_
      refine va_get (D := D) (ci := 1) (v := .ref qR) (C := R_N) (T := T_N) (N := 8) hx hb htb in_N hown hK hP 0 rfl rfl 2 (by decide) (htb _ tb_35) (fun _ h9 => h9) rfl d_N_roomOfWay_45 ?_
      refine lv_iload hx hb d_N_roomOfWay_48 (lv_at hl 0 rfl) ?_
      refine we_iald hx hb hK hP 2 0 rfl rfl ee hgE (by omega) (by decide) d_N_roomOfWay_50 ?_
      refine we_min hx hb hml hl.1 hown (htb _ tb_277) (htb _ tb_232) (htb _ tb_13) (htb _ tb_233) (by rw [hR1]; decide) (by rw [hR2]; decide) (Nat.zero_le _) (Nat.zero_le _) (by constructor <;> omega) (by constructor <;> omega) d_N_roomOfWay_51 ?_
      refine lv_istore hx hb d_N_roomOfWay_54 hl (by decide) rfl (fun ls hl => ?_)
      have hl : lv_has ls 8 [(4, .int (eI (min yy (gR ee)))), (7, .int (eI (gE v))), (6, .int (eI ((i : Nat) : Int))), (5, .int (eI ((v : Nat) : Int))), (3, .int (eI y)), (2, .int (eI (nd : Int))), (1, .int (eI (st : Int))), (0, .ref h0)] := hl
      refine lv_aload_n hx hb d_N_roomOfWay_56 rfl (lv_at hl 7 rfl) ?_
      refine va_get (D := D) (ci := 1) (v := .ref qT) (C := R_N) (T := T_N) (N := 8) hx hb htb in_N hown hK hP 0 rfl rfl 0 (by decide) (htb _ tb_33) (fun _ h9 => h9) rfl d_N_roomOfWay_57 ?_
      refine lv_iload hx hb d_N_roomOfWay_60 (lv_at hl 1 rfl) ?_
      refine we_iald hx hb hK hP 1 0 rfl rfl ee hgE (by omega) (by decide) d_N_roomOfWay_62 ?_
      refine lv_istore hx hb d_N_roomOfWay_63 hl (by decide) rfl (fun ls hl => ?_)
      have hl : lv_has ls 8 [(5, .int (eI (gT ee))), (4, .int (eI (min yy (gR ee)))), (7, .int (eI (gE v))), (6, .int (eI ((i : Nat) : Int))), (3, .int (eI y)), (2, .int (eI (nd : Int))), (1, .int (eI (st : Int))), (0, .ref h0)] := hl
      refine lv_iinc (v := eI (((i : Nat) : Int) + 1)) hx hb d_N_roomOfWay_65 hl (k := 3) rfl (eI_add _ _) (by decide) rfl (fun ls hl => ?_)
      have hl : lv_has ls 8 [(6, .int (eI (((i : Nat) : Int) + 1))), (5, .int (eI (gT ee))), (4, .int (eI (min yy (gR ee)))), (7, .int (eI (gE v))), (3, .int (eI y)), (2, .int (eI (nd : Int))), (1, .int (eI (st : Int))), (0, .ref h0)] := hl
      refine lv_goto (tgt := 9) hx hb d_N_roomOfWay_68 rfl ?_
      rw [hgT, hgR] at hl
      exact ih (i + 1) (eh_tl a b ee) (min yy (eh_rm cap x ee)) ls (by omega) e5 (by omega) hm (lv_sub hl [0, 1, 2, 4, 5, 6, 7] rfl)
  exact loop L 0 nd y ls (by omega) hw hy rfl (lv_sub hl [0, 1, 2, 6, 5, 4, 3] rfl)
abbrev c_N_fillWay : ByteArray := prog_3_method_19_code
def y_N_fillWay : MethodName := ⟨"EarthHauls$Network", "fillWay", "(III)V"⟩
abbrev k_N_fillWay : Cond := .code y_N_fillWay c_N_fillWay 7 none
theorem kin_N_fillWay : k_N_fillWay ∈ ew_t := tb_281
theorem dv_N_fillWay : eh_dV y_N_fillWay "EarthHauls$Network" 3 := ⟨rfl, by decide, by decide, by decide +kernel⟩
theorem d_N_fillWay_0 : decode c_N_fillWay 0 = .ok (.iload_n 2, 1) := by decide +kernel
theorem d_N_fillWay_1 : decode c_N_fillWay 1 = .ok (.istore 4, 2) := by decide +kernel
theorem d_N_fillWay_3 : decode c_N_fillWay 3 = .ok (.iconst 0, 1) := by decide +kernel
theorem d_N_fillWay_4 : decode c_N_fillWay 4 = .ok (.istore 5, 2) := by decide +kernel
theorem d_N_fillWay_6 : decode c_N_fillWay 6 = .ok (.iload 5, 2) := by decide +kernel
theorem d_N_fillWay_8 : decode c_N_fillWay 8 = .ok (.bipush 12, 2) := by decide +kernel
theorem d_N_fillWay_10 : decode c_N_fillWay 10 = .ok (.if_icmp .ge 68, 3) := by decide +kernel
theorem d_N_fillWay_13 : decode c_N_fillWay 13 = .ok (.iload 4, 2) := by decide +kernel
theorem d_N_fillWay_15 : decode c_N_fillWay 15 = .ok (.iload_n 1, 1) := by decide +kernel
theorem d_N_fillWay_16 : decode c_N_fillWay 16 = .ok (.if_icmp .eq 62, 3) := by decide +kernel
theorem d_N_fillWay_19 : decode c_N_fillWay 19 = .ok (.aload_n 0, 1) := by decide +kernel
theorem d_N_fillWay_20 : decode c_N_fillWay 20 = .ok (.getfield 31, 3) := by decide +kernel
theorem d_N_fillWay_23 : decode c_N_fillWay 23 = .ok (.iload 4, 2) := by decide +kernel
theorem d_N_fillWay_25 : decode c_N_fillWay 25 = .ok (.iaload, 1) := by decide +kernel
theorem d_N_fillWay_26 : decode c_N_fillWay 26 = .ok (.iconst (-1), 1) := by decide +kernel
theorem d_N_fillWay_27 : decode c_N_fillWay 27 = .ok (.if_icmp .eq 51, 3) := by decide +kernel
theorem d_N_fillWay_30 : decode c_N_fillWay 30 = .ok (.aload_n 0, 1) := by decide +kernel
theorem d_N_fillWay_31 : decode c_N_fillWay 31 = .ok (.getfield 31, 3) := by decide +kernel
theorem d_N_fillWay_34 : decode c_N_fillWay 34 = .ok (.iload 4, 2) := by decide +kernel
theorem d_N_fillWay_36 : decode c_N_fillWay 36 = .ok (.iaload, 1) := by decide +kernel
theorem d_N_fillWay_37 : decode c_N_fillWay 37 = .ok (.istore 6, 2) := by decide +kernel
theorem d_N_fillWay_39 : decode c_N_fillWay 39 = .ok (.aload_n 0, 1) := by decide +kernel
theorem d_N_fillWay_40 : decode c_N_fillWay 40 = .ok (.getfield 18, 3) := by decide +kernel
theorem d_N_fillWay_43 : decode c_N_fillWay 43 = .ok (.iload 6, 2) := by decide +kernel
theorem d_N_fillWay_45 : decode c_N_fillWay 45 = .ok (.dup2, 1) := by decide +kernel
theorem d_N_fillWay_46 : decode c_N_fillWay 46 = .ok (.iaload, 1) := by decide +kernel
theorem d_N_fillWay_47 : decode c_N_fillWay 47 = .ok (.iload_n 3, 1) := by decide +kernel
theorem d_N_fillWay_48 : decode c_N_fillWay 48 = .ok (.isub, 1) := by decide +kernel
theorem d_N_fillWay_49 : decode c_N_fillWay 49 = .ok (.iastore, 1) := by decide +kernel
theorem d_N_fillWay_50 : decode c_N_fillWay 50 = .ok (.aload_n 0, 1) := by decide +kernel
theorem d_N_fillWay_51 : decode c_N_fillWay 51 = .ok (.getfield 18, 3) := by decide +kernel
theorem d_N_fillWay_54 : decode c_N_fillWay 54 = .ok (.iload 6, 2) := by decide +kernel
theorem d_N_fillWay_56 : decode c_N_fillWay 56 = .ok (.iconst 1, 1) := by decide +kernel
theorem d_N_fillWay_57 : decode c_N_fillWay 57 = .ok (.ixor, 1) := by decide +kernel
theorem d_N_fillWay_58 : decode c_N_fillWay 58 = .ok (.dup2, 1) := by decide +kernel
theorem d_N_fillWay_59 : decode c_N_fillWay 59 = .ok (.iaload, 1) := by decide +kernel
theorem d_N_fillWay_60 : decode c_N_fillWay 60 = .ok (.iload_n 3, 1) := by decide +kernel
theorem d_N_fillWay_61 : decode c_N_fillWay 61 = .ok (.iadd, 1) := by decide +kernel
theorem d_N_fillWay_62 : decode c_N_fillWay 62 = .ok (.iastore, 1) := by decide +kernel
theorem d_N_fillWay_63 : decode c_N_fillWay 63 = .ok (.aload_n 0, 1) := by decide +kernel
theorem d_N_fillWay_64 : decode c_N_fillWay 64 = .ok (.getfield 11, 3) := by decide +kernel
theorem d_N_fillWay_67 : decode c_N_fillWay 67 = .ok (.iload 6, 2) := by decide +kernel
theorem d_N_fillWay_69 : decode c_N_fillWay 69 = .ok (.iaload, 1) := by decide +kernel
theorem d_N_fillWay_70 : decode c_N_fillWay 70 = .ok (.istore 4, 2) := by decide +kernel
theorem d_N_fillWay_72 : decode c_N_fillWay 72 = .ok (.iinc 5 1, 3) := by decide +kernel
theorem d_N_fillWay_75 : decode c_N_fillWay 75 = .ok (.goto (-69), 3) := by decide +kernel
theorem d_N_fillWay_78 : decode c_N_fillWay 78 = .ok (.return_, 1) := by decide +kernel
set_option maxHeartbeats 4000000 in
set_option maxRecDepth 100000 in
theorem m_N_fillWay (l : Launch) (D : va_G) (cI cL : ClassId) (h0 qT qH qR qW qA qD qE : Nat) (K : Nat) (a b : Nat → Nat) (cap x gT gR gE : Nat → Int) (et : Nat → Option Nat) (st nd : Nat) (y : Int) (L : List Nat) (hK41 : K ≤ 41) (hst : st < 12) (hT : ∀ e, e < 2 * K → gT e = ((eh_tl a b e : Nat) : Int)) (hR : ∀ e, e < 2 * K → gR e = eh_rm cap x e) (hgEt : ∀ v, v < 12 → gE v = eh_eo (et v)) (hw : eh_wy K a b et st nd L) (hL : L.length < 12) : eh_M (S := Nat → Int) l y_N_fillWay k_N_fillWay 0 0 D classes [(cI, .int), (cL, .long)] [.ref h0, .int (eI (st : Int)), .int (eI (nd : Int)), .int (eI y)] [(h0, .inr (1, [.ref qT, .ref qH, .ref qR, .ref qW, .ref qA, .ref qD, .ref qE, .int (eI ((2 * K : Nat) : Int))])), (qT, aI cI 82 gT), (qR, aI cI 82 gR), (qE, aI cI 12 gE)] (fun u => ∀ e, e < 2 * K → u e = eh_rm cap (fun k => x k + y * eh_ch L k) e) (fun _ => none) (fun u => [(h0, .inr (1, [.ref qT, .ref qH, .ref qR, .ref qW, .ref qA, .ref qD, .ref qE, .int (eI ((2 * K : Nat) : Int))])), (qT, aI cI 82 gT), (qR, aI cI 82 u), (qE, aI cI 12 gE)]) := by
  intro sz
  refine Met.ofW (cc := c_N_fillWay) (maxL := 7) (ret := none) (by decide) rfl ?_
  intro p e s m args below meth c s₁ B hml hv
  obtain ⟨hargs, hsz, hP, hK, hD0, hN⟩ := hv
  have hx := B.exec
  have hb := B.bytes
  have hrt := B.returns
  have hts := atoms_spec (ws := k_N_fillWay :: ew_t) B.pre
  have htb : ∀ w ∈ ew_t, w.before args s = true := fun w h => hts w (List.mem_cons_of_mem _ h)
  have hown : s.vm.findClass "EarthHauls$Network" = some m.cls := findClass_of_methodNamed B.named
  have hlocks := B.notSynchronized
  have hE : entryFrame m args 7 = entryFrame m ([.ref h0, .int (eI (st : Int)), .int (eI (nd : Int)), .int (eI y)] : List Value).toArray 7 := by rw [hargs]
  rw [hE]
  clear hE hts B hargs
  generalize hRe : (headSpec _ _).room = R
  have hR1 : R.frames = 0 := by rw [← hRe]; rfl
  have hR2 : R.locals = 0 := by rw [← hRe]; rfl
  clear hRe
  generalize hQ : MQ below _ _ s 0 0 _ = Q
  subst hsz
  have hD := hD0.self (sz := s.heap.size)
  generalize hAe : va_A [(h0, .inr (1, [.ref qT, .ref qH, .ref qR, .ref qW, .ref qA, .ref qD, .ref qE, .int (eI ((2 * K : Nat) : Int))])), (qT, aI cI 82 gT), (qR, aI cI 82 gR), (qE, aI cI 12 gE)] s.heap.size = A at hD hQ
  have hA : ∀ q : Nat, s.heap.size ≤ q → A q := fun q h => by rw [← hAe]; exact Or.inr h
  have hS : va_S A s.heap s.heap [] := va_S.rf
  have hP : va_P D classes [(h0, .inr (1, [.ref qT, .ref qH, .ref qR, .ref qW, .ref qA, .ref qD, .ref qE, .int (eI ((2 * K : Nat) : Int))])), (qT, aI cI 82 gT), (qR, aI cI 82 gR), (qE, aI cI 12 gE)] s.heap := hP
  have hl := lv_entry ([.ref h0, .int (eI (st : Int)), .int (eI (nd : Int)), .int (eI y)]) (n := 7) (Nat.le_of_ble_eq_true rfl)
  rw [lg_entry_eq]
  generalize (lg_sl ([.ref h0, .int (eI (st : Int)), .int (eI (nd : Int)), .int (eI y)]) ++ List.replicate (7 - (lg_sl ([.ref h0, .int (eI (st : Int)), .int (eI (nd : Int)), .int (eI y)])).length) Slot.unset).toArray = ls at hl ⊢
  have hl : lv_has ls 7 [(0, .ref h0), (1, .int (eI (st : Int))), (2, .int (eI (nd : Int))), (3, .int (eI y))] := hl
  refine lv_iload_n hx hb d_N_fillWay_0 rfl (lv_at hl 2 rfl) ?_
  refine lv_istore hx hb d_N_fillWay_1 hl (by decide) rfl (fun ls hl => ?_)
  have hl : lv_has ls 7 [(4, .int (eI (nd : Int))), (0, .ref h0), (1, .int (eI (st : Int))), (2, .int (eI (nd : Int))), (3, .int (eI y))] := hl
  refine lv_iconst (v := eI 0) hx hb d_N_fillWay_3 rfl ?_
  refine lv_istore hx hb d_N_fillWay_4 hl (by decide) rfl (fun ls hl => ?_)
  have hl : lv_has ls 7 [(5, .int (eI 0)), (4, .int (eI (nd : Int))), (0, .ref h0), (1, .int (eI (st : Int))), (2, .int (eI (nd : Int))), (3, .int (eI y))] := hl
  have loop : ∀ (L2 : List Nat) (i v : Nat) (xx gg : Nat → Int) (H : Heap) (locs : List Loc) (ls : Array Slot), i + L2.length < 12 → eh_wy K a b et st v L2 → (∀ e, e < 2 * K → gg e = eh_rm cap xx e) → (∀ k, xx k + y * eh_ch L2 k = x k + y * eh_ch L k) → lv_has ls 7 [(5, .int (eI ((i : Nat) : Int))), (4, .int (eI ((v : Nat) : Int))), (3, .int (eI y)), (2, .int (eI (nd : Int))), (1, .int (eI (st : Int))), (0, .ref h0)] → va_P D classes [(h0, .inr (1, [.ref qT, .ref qH, .ref qR, .ref qW, .ref qA, .ref qD, .ref qE, .int (eI ((2 * K : Nat) : Int))])), (qT, aI cI 82 gT), (qR, aI cI 82 gg), (qE, aI cI 12 gE)] H → va_D A [(h0, .inr (1, [.ref qT, .ref qH, .ref qR, .ref qW, .ref qA, .ref qD, .ref qE, .int (eI ((2 * K : Nat) : Int))])), (qT, aI cI 82 gT), (qR, aI cI 82 gg), (qE, aI cI 12 gE)] → va_S A s.heap H locs → W p l e R s m args below meth c H locs 0 0 Q (F0 m 6 ls []) := by
    intro L2
    induction L2 with
    | nil =>
      intro i v xx gg H locs ls hi hw2 hgg hxx hl hP hD hS
      have hv := eh_wy_nil hw2
      subst hv
      refine lv_iload hx hb d_N_fillWay_6 (lv_at hl 0 rfl) ?_
      refine lv_bipush (v := eI 12) hx hb d_N_fillWay_8 (by decide) ?_
      refine we_icmp_ge (tgt := 78) hx hb (by constructor <;> omega) (by constructor <;> omega) d_N_fillWay_10 rfl (fun hc10 => absurd hc10 (by omega)) (fun hc10 => ?_)
      refine lv_iload hx hb d_N_fillWay_13 (lv_at hl 1 rfl) ?_
      refine lv_iload_n hx hb d_N_fillWay_15 rfl (lv_at hl 4 rfl) ?_
      refine we_icmp_eq (tgt := 78) hx hb (by constructor <;> omega) (by constructor <;> omega) d_N_fillWay_16 rfl (fun hc16 => ?_) (fun hc16 => absurd hc16 (by omega))
      subst hQ
      exact W.vret hx hb hrt (fun t ht hW => ⟨⟨gg, rfl, (fun e he => by rw [hgg e he]; congr 1; funext k; have := hxx k; simp only [eh_ch] at this; omega), by rw [ht]; exact hP, hD⟩, hS.F ht⟩) hS.2.2 d_N_fillWay_78
    | cons ee L2 ih =>
      intro i v xx gg H locs ls hi hw2 hgg hxx hl hP hD hS
      obtain ⟨e1, e2, e3, e4, e5⟩ := eh_wy_cons hw2
      have hv12 := hw2.2.2.2
      have hgE := hgEt v hv12
      rw [e1] at hgE
      have hgE : gE v = (ee : Int) := hgE
      have hgT := hT ee e2
      have htw := eh_tw_lt e2
      have hi2 : i + (L2.length + 1) < 12 := hi
      refine lv_iload hx hb d_N_fillWay_6 (lv_at hl 0 rfl) ?_
      refine lv_bipush (v := eI 12) hx hb d_N_fillWay_8 (by decide) ?_
      refine we_icmp_ge (tgt := 78) hx hb (by constructor <;> omega) (by constructor <;> omega) d_N_fillWay_10 rfl (fun hc10 => absurd hc10 (by omega)) (fun hc10 => ?_)
      refine lv_iload hx hb d_N_fillWay_13 (lv_at hl 1 rfl) ?_
      refine lv_iload_n hx hb d_N_fillWay_15 rfl (lv_at hl 4 rfl) ?_
      refine we_icmp_eq (tgt := 78) hx hb (by constructor <;> omega) (by constructor <;> omega) d_N_fillWay_16 rfl (fun hc16 => absurd hc16 (by omega)) (fun hc16 => ?_)
      refine lv_aload_n hx hb d_N_fillWay_19 rfl (lv_at hl 5 rfl) ?_
      refine va_get (D := D) (ci := 1) (v := .ref qE) (C := R_N) (T := T_N) (N := 8) hx hb htb in_N hown hK hP 0 rfl rfl 6 (by decide) (htb _ tb_39) (fun _ h9 => h9) rfl d_N_fillWay_20 ?_
      refine lv_iload hx hb d_N_fillWay_23 (lv_at hl 1 rfl) ?_
      refine we_iald hx hb hK hP 3 0 rfl rfl v rfl hv12 (by decide) d_N_fillWay_25 ?_
      refine lv_iconst (v := eI (-1)) hx hb d_N_fillWay_26 rfl ?_
      refine we_icmp_eq (tgt := 78) hx hb (by constructor <;> omega) (by constructor <;> omega) d_N_fillWay_27 rfl (fun hc27 => absurd hc27 (by omega)) (fun hc27 => ?_)
      refine lv_aload_n hx hb d_N_fillWay_30 rfl (lv_at hl 5 rfl) ?_
      refine va_get (D := D) (ci := 1) (v := .ref qE) (C := R_N) (T := T_N) (N := 8) hx hb htb in_N hown hK hP 0 rfl rfl 6 (by decide) (htb _ tb_39) (fun _ h9 => h9) rfl d_N_fillWay_31 ?_
      refine lv_iload hx hb d_N_fillWay_34 (lv_at hl 1 rfl) ?_
      refine we_iald hx hb hK hP 3 0 rfl rfl v rfl hv12 (by decide) d_N_fillWay_36 ?_
      refine lv_istore hx hb d_N_fillWay_37 hl (by decide) rfl (fun ls hl => ?_)
      have hl : lv_has ls 7 [(6, .int (eI (gE v))), (5, .int (eI ((i : Nat) : Int))), (4, .int (eI ((v : Nat) : Int))), (3, .int (eI y)), (2, .int (eI (nd : Int))), (1, .int (eI (st : Int))), (0, .ref h0)] := hl
      refine lv_aload_n hx hb d_N_fillWay_39 rfl (lv_at hl 6 rfl) ?_
      refine va_get (D := D) (ci := 1) (v := .ref qR) (C := R_N) (T := T_N) (N := 8) hx hb htb in_N hown hK hP 0 rfl rfl 2 (by decide) (htb _ tb_35) (fun _ h9 => h9) rfl d_N_fillWay_40 ?_
      refine lv_iload hx hb d_N_fillWay_43 (lv_at hl 0 rfl) ?_
      refine lv_dup2_11 hx hb d_N_fillWay_45 rfl rfl ?_
      refine we_iald hx hb hK hP 2 0 rfl rfl ee hgE (by omega) (by decide) d_N_fillWay_46 ?_
      refine lv_iload_n hx hb d_N_fillWay_47 rfl (lv_at hl 3 rfl) ?_
      refine we_isub hx hb d_N_fillWay_48 ?_
      refine we_iast hx hb hK hP hD hS 2 0 rfl rfl ee hgE (by omega) (by decide) d_N_fillWay_49 (fun H locs hP hD hS => ?_)
      have hP : va_P D classes [(h0, .inr (1, [.ref qT, .ref qH, .ref qR, .ref qW, .ref qA, .ref qD, .ref qE, .int (eI ((2 * K : Nat) : Int))])), (qT, aI cI 82 gT), (qR, aI cI 82 (eh_upd gg ee ((gg ee) - y))), (qE, aI cI 12 gE)] H := hP
      have hD : va_D A [(h0, .inr (1, [.ref qT, .ref qH, .ref qR, .ref qW, .ref qA, .ref qD, .ref qE, .int (eI ((2 * K : Nat) : Int))])), (qT, aI cI 82 gT), (qR, aI cI 82 (eh_upd gg ee ((gg ee) - y))), (qE, aI cI 12 gE)] := hD
      refine lv_aload_n hx hb d_N_fillWay_50 rfl (lv_at hl 6 rfl) ?_
      refine va_get (D := D) (ci := 1) (v := .ref qR) (C := R_N) (T := T_N) (N := 8) hx hb htb in_N hown hK hP 0 rfl rfl 2 (by decide) (htb _ tb_35) (fun _ h9 => h9) rfl d_N_fillWay_51 ?_
      refine lv_iload hx hb d_N_fillWay_54 (lv_at hl 0 rfl) ?_
      refine lv_iconst (v := eI 1) hx hb d_N_fillWay_56 rfl ?_
      refine lv_ixor hx hb d_N_fillWay_57 ?_
      rw [show eI (gE v) = eI (ee : Int) from by rw [hgE], eh_xor1 ee (by omega)]
      refine lv_dup2_11 hx hb d_N_fillWay_58 rfl rfl ?_
      refine we_iald hx hb hK hP 2 0 rfl rfl (eh_tw ee) rfl (by omega) (by decide) d_N_fillWay_59 ?_
      refine lv_iload_n hx hb d_N_fillWay_60 rfl (lv_at hl 3 rfl) ?_
      refine we_iadd hx hb d_N_fillWay_61 ?_
      refine we_iast hx hb hK hP hD hS 2 0 rfl rfl (eh_tw ee) rfl (by omega) (by decide) d_N_fillWay_62 (fun H locs hP hD hS => ?_)
      have hP : va_P D classes [(h0, .inr (1, [.ref qT, .ref qH, .ref qR, .ref qW, .ref qA, .ref qD, .ref qE, .int (eI ((2 * K : Nat) : Int))])), (qT, aI cI 82 gT), (qR, aI cI 82 (eh_upd (eh_upd gg ee ((gg ee) - y)) (eh_tw ee) (((eh_upd gg ee ((gg ee) - y)) (eh_tw ee)) + y))), (qE, aI cI 12 gE)] H := hP
      have hD : va_D A [(h0, .inr (1, [.ref qT, .ref qH, .ref qR, .ref qW, .ref qA, .ref qD, .ref qE, .int (eI ((2 * K : Nat) : Int))])), (qT, aI cI 82 gT), (qR, aI cI 82 (eh_upd (eh_upd gg ee ((gg ee) - y)) (eh_tw ee) (((eh_upd gg ee ((gg ee) - y)) (eh_tw ee)) + y))), (qE, aI cI 12 gE)] := hD
      refine lv_aload_n hx hb d_N_fillWay_63 rfl (lv_at hl 6 rfl) ?_
      refine va_get (D := D) (ci := 1) (v := .ref qT) (C := R_N) (T := T_N) (N := 8) hx hb htb in_N hown hK hP 0 rfl rfl 0 (by decide) (htb _ tb_33) (fun _ h9 => h9) rfl d_N_fillWay_64 ?_
      refine lv_iload hx hb d_N_fillWay_67 (lv_at hl 0 rfl) ?_
      refine we_iald hx hb hK hP 1 0 rfl rfl ee hgE (by omega) (by decide) d_N_fillWay_69 ?_
      refine lv_istore hx hb d_N_fillWay_70 hl (by decide) rfl (fun ls hl => ?_)
      have hl : lv_has ls 7 [(4, .int (eI (gT ee))), (6, .int (eI (gE v))), (5, .int (eI ((i : Nat) : Int))), (3, .int (eI y)), (2, .int (eI (nd : Int))), (1, .int (eI (st : Int))), (0, .ref h0)] := hl
      refine lv_iinc (v := eI (((i : Nat) : Int) + 1)) hx hb d_N_fillWay_72 hl (k := 2) rfl (eI_add _ _) (by decide) rfl (fun ls hl => ?_)
      have hl : lv_has ls 7 [(5, .int (eI (((i : Nat) : Int) + 1))), (4, .int (eI (gT ee))), (6, .int (eI (gE v))), (3, .int (eI y)), (2, .int (eI (nd : Int))), (1, .int (eI (st : Int))), (0, .ref h0)] := hl
      refine lv_goto (tgt := 6) hx hb d_N_fillWay_75 rfl ?_
      rw [hgT] at hl
      exact ih (i + 1) (eh_tl a b ee) _ _ H locs ls (by omega) e5 (eh_rm_step e2 y hgg) (fun k => by
        have := hxx k
        have q : eh_ch (ee :: L2) k = (if ee / 2 = k then eh_sg ee else 0) + eh_ch L2 k := rfl
        rw [q, Int.mul_add] at this
        omega) (lv_sub hl [0, 1, 3, 4, 5, 6] rfl) hP hD hS
  exact loop L 0 nd x gR s.heap [] ls (by omega) hw hR (fun k => rfl) (lv_sub hl [0, 1, 5, 4, 3, 2] rfl) hP hD hS
