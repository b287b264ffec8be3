/-! the law's loop: what holds between two of its turns -/
def eh_I (D : va_G) (cI cL cZ cS cY : ClassId) (ad md : Nat → Nat) (ou : Nat) (A : Nat → Prop) (H0 H : Heap) (locs : List Loc) : Prop :=
  ∃ (n : Nat) (sh ra plv pco : Int) (ln cb la : Nat → Int) (cu cl fu fl : Nat → Nat) (ys yl yp : Nat → Int) (ed0 : Int) (gT0 gH0 gR0 gW0 gA0 gD0 gE0 : Nat → Int) (co up lw kn fo : Int) (sc th pl lo pr : Nat → Int) (su0 de0 fw0 cs0 G10 G20 BY0 og : Nat → Int), eh_MS n sh ra sc ln cb th pl lo pr la cu cl fu fl ys yl yp ∧ (plv = 0 ∨ (plv = 1 ∧ ∃ (K : Nat) (na nb : Nat → Nat) (nw nc nx : Nat → Int), ed0 = ((2 * K : Nat) : Int) ∧ eh_PS (eh_kc n ra ln cb ys yp) (eh_gv n sh ln cu cl yl) (eh_wn n ln fu fl yl) K na nb nw nc nx gT0 gH0 gR0 gW0 gA0 pco)) ∧ (kn = 0 ∨ kn = 1 ∧ eh_pf (eh_kc n ra ln cb ys yp) (eh_pA n sh ln cu cl yl (-1)) (eh_pB n ln fu fl yl (-1)) cs0 fw0 fo) ∧ va_P D classes [((ad 0), .inr (4, [.ref (ad 1), .ref (ad 2), .ref (ad 3), .ref (ad 4), .ref (ad 5), .ref (ad 24), .int (eI ((n : Nat) : Int)), .int (eI sh), .int (eI ra), .int (eI plv), .long (eL pco)])), ((ad 1), .inl (cS, 5, .inr (.inr (.inr (.inr (eh_o5 (ad 6) (ad 7) (ad 8) (ad 9) (ad 10))))))), ((ad 2), aI cI 4 ln), ((ad 3), aI cZ 3 cb), ((ad 4), .inl (cY, 3, .inr (.inr (.inr (.inr (eh_o3 (ad 21) (ad 22) (ad 23))))))), ((ad 5), aI cI 30 la), ((ad 6), .inr (2, [.ref (ad 11), .ref (ad 16)])), ((ad 7), .inr (2, [.ref (ad 12), .ref (ad 17)])), ((ad 8), .inr (2, [.ref (ad 13), .ref (ad 18)])), ((ad 9), .inr (2, [.ref (ad 14), .ref (ad 19)])), ((ad 10), .inr (2, [.ref (ad 15), .ref (ad 20)])), ((ad 11), .inr (0, [.long (eL ((cu 0 : Nat) : Int)), .long (eL ((cl 0 : Nat) : Int))])), ((ad 12), .inr (0, [.long (eL ((cu 1 : Nat) : Int)), .long (eL ((cl 1 : Nat) : Int))])), ((ad 13), .inr (0, [.long (eL ((cu 2 : Nat) : Int)), .long (eL ((cl 2 : Nat) : Int))])), ((ad 14), .inr (0, [.long (eL ((cu 3 : Nat) : Int)), .long (eL ((cl 3 : Nat) : Int))])), ((ad 15), .inr (0, [.long (eL ((cu 4 : Nat) : Int)), .long (eL ((cl 4 : Nat) : Int))])), ((ad 16), .inr (0, [.long (eL ((fu 0 : Nat) : Int)), .long (eL ((fl 0 : Nat) : Int))])), ((ad 17), .inr (0, [.long (eL ((fu 1 : Nat) : Int)), .long (eL ((fl 1 : Nat) : Int))])), ((ad 18), .inr (0, [.long (eL ((fu 2 : Nat) : Int)), .long (eL ((fl 2 : Nat) : Int))])), ((ad 19), .inr (0, [.long (eL ((fu 3 : Nat) : Int)), .long (eL ((fl 3 : Nat) : Int))])), ((ad 20), .inr (0, [.long (eL ((fu 4 : Nat) : Int)), .long (eL ((fl 4 : Nat) : Int))])), ((ad 21), .inr (3, [.int (eI (ys 0)), .int (eI (yl 0)), .int (eI (yp 0))])), ((ad 22), .inr (3, [.int (eI (ys 1)), .int (eI (yl 1)), .int (eI (yp 1))])), ((ad 23), .inr (3, [.int (eI (ys 2)), .int (eI (yl 2)), .int (eI (yp 2))])), ((ad 24), .inr (1, [.ref (ad 25), .ref (ad 26), .ref (ad 27), .ref (ad 28), .ref (ad 29), .ref (ad 30), .ref (ad 31), .int (eI ed0)])), ((ad 25), aI cI 82 gT0), ((ad 26), aI cI 82 gH0), ((ad 27), aI cI 82 gR0), ((ad 28), aL cL 82 gW0), ((ad 29), aI cI 30 gA0), ((ad 30), aL cL 12 gD0), ((ad 31), aI cI 12 gE0), ((md 0), .inr (5, [.int (eI co), .int (eI ((n : Nat) : Int)), .ref (md 1), .ref (md 2), .ref (md 3), .int (eI sh), .int (eI ra), .ref (md 4), .ref (md 5), .ref (md 6), .ref (md 7), .ref (md 8), .long (eL up), .long (eL lw), .ref (md 9), .ref (md 10), .ref (md 11), .ref (md 12), .ref (md 13), .ref (md 14), .ref (md 15), .int (eI kn), .int (eI fo)])), ((md 1), aI cI 25 sc), ((md 2), aI cI 4 ln), ((md 3), aI cZ 4 cb), ((md 4), aI cZ 3 th), ((md 5), aI cI 3 pl), ((md 6), aI cI 3 lo), ((md 7), aI cI 3 pr), ((md 8), aI cI 30 la), ((md 9), aL cL 7 su0), ((md 10), aL cL 6 de0), ((md 11), aL cL 42 fw0), ((md 12), aI cI 42 cs0), ((md 13), aL cL 13 G10), ((md 14), aL cL 13 G20), ((md 15), aI cI 13 BY0), (ou, aL cL 1 og)] H ∧ va_D A [((ad 0), .inr (4, [.ref (ad 1), .ref (ad 2), .ref (ad 3), .ref (ad 4), .ref (ad 5), .ref (ad 24), .int (eI ((n : Nat) : Int)), .int (eI sh), .int (eI ra), .int (eI plv), .long (eL pco)])), ((ad 1), .inl (cS, 5, .inr (.inr (.inr (.inr (eh_o5 (ad 6) (ad 7) (ad 8) (ad 9) (ad 10))))))), ((ad 2), aI cI 4 ln), ((ad 3), aI cZ 3 cb), ((ad 4), .inl (cY, 3, .inr (.inr (.inr (.inr (eh_o3 (ad 21) (ad 22) (ad 23))))))), ((ad 5), aI cI 30 la), ((ad 6), .inr (2, [.ref (ad 11), .ref (ad 16)])), ((ad 7), .inr (2, [.ref (ad 12), .ref (ad 17)])), ((ad 8), .inr (2, [.ref (ad 13), .ref (ad 18)])), ((ad 9), .inr (2, [.ref (ad 14), .ref (ad 19)])), ((ad 10), .inr (2, [.ref (ad 15), .ref (ad 20)])), ((ad 11), .inr (0, [.long (eL ((cu 0 : Nat) : Int)), .long (eL ((cl 0 : Nat) : Int))])), ((ad 12), .inr (0, [.long (eL ((cu 1 : Nat) : Int)), .long (eL ((cl 1 : Nat) : Int))])), ((ad 13), .inr (0, [.long (eL ((cu 2 : Nat) : Int)), .long (eL ((cl 2 : Nat) : Int))])), ((ad 14), .inr (0, [.long (eL ((cu 3 : Nat) : Int)), .long (eL ((cl 3 : Nat) : Int))])), ((ad 15), .inr (0, [.long (eL ((cu 4 : Nat) : Int)), .long (eL ((cl 4 : Nat) : Int))])), ((ad 16), .inr (0, [.long (eL ((fu 0 : Nat) : Int)), .long (eL ((fl 0 : Nat) : Int))])), ((ad 17), .inr (0, [.long (eL ((fu 1 : Nat) : Int)), .long (eL ((fl 1 : Nat) : Int))])), ((ad 18), .inr (0, [.long (eL ((fu 2 : Nat) : Int)), .long (eL ((fl 2 : Nat) : Int))])), ((ad 19), .inr (0, [.long (eL ((fu 3 : Nat) : Int)), .long (eL ((fl 3 : Nat) : Int))])), ((ad 20), .inr (0, [.long (eL ((fu 4 : Nat) : Int)), .long (eL ((fl 4 : Nat) : Int))])), ((ad 21), .inr (3, [.int (eI (ys 0)), .int (eI (yl 0)), .int (eI (yp 0))])), ((ad 22), .inr (3, [.int (eI (ys 1)), .int (eI (yl 1)), .int (eI (yp 1))])), ((ad 23), .inr (3, [.int (eI (ys 2)), .int (eI (yl 2)), .int (eI (yp 2))])), ((ad 24), .inr (1, [.ref (ad 25), .ref (ad 26), .ref (ad 27), .ref (ad 28), .ref (ad 29), .ref (ad 30), .ref (ad 31), .int (eI ed0)])), ((ad 25), aI cI 82 gT0), ((ad 26), aI cI 82 gH0), ((ad 27), aI cI 82 gR0), ((ad 28), aL cL 82 gW0), ((ad 29), aI cI 30 gA0), ((ad 30), aL cL 12 gD0), ((ad 31), aI cI 12 gE0), ((md 0), .inr (5, [.int (eI co), .int (eI ((n : Nat) : Int)), .ref (md 1), .ref (md 2), .ref (md 3), .int (eI sh), .int (eI ra), .ref (md 4), .ref (md 5), .ref (md 6), .ref (md 7), .ref (md 8), .long (eL up), .long (eL lw), .ref (md 9), .ref (md 10), .ref (md 11), .ref (md 12), .ref (md 13), .ref (md 14), .ref (md 15), .int (eI kn), .int (eI fo)])), ((md 1), aI cI 25 sc), ((md 2), aI cI 4 ln), ((md 3), aI cZ 4 cb), ((md 4), aI cZ 3 th), ((md 5), aI cI 3 pl), ((md 6), aI cI 3 lo), ((md 7), aI cI 3 pr), ((md 8), aI cI 30 la), ((md 9), aL cL 7 su0), ((md 10), aL cL 6 de0), ((md 11), aL cL 42 fw0), ((md 12), aI cI 42 cs0), ((md 13), aL cL 13 G10), ((md 14), aL cL 13 G20), ((md 15), aI cI 13 BY0), (ou, aL cL 1 og)] ∧ va_S A H0 H locs
/-- what holds all through the law -/
def eh_Cx (p : Program) (l : Launch) (R : Room) (s : State) (m : MethodId) (args : Array Value) (c : Code) (D : va_G) (cI cL cZ cS cY : ClassId) (A : Nat → Prop) (b L : Nat) (xs : Nat → Int32) : Prop :=
  p.tables.exec = Jvm.exec ∧ c.code = code ∧ c.maxLocals = 8 ∧ s.vm.findClass "EarthHaulsLaw" = some m.cls ∧ (∀ w ∈ ew_t, w.before args s = true) ∧ ew_n s ∧ eh_st s ∧ eh_aps s ∧ l.stackTraces = false ∧
  (R.frames = 11 ∧ R.locals = 464 ∧ R.cells = 625930 ∧ R.slots = 7218314) ∧ va_K D classes [(cI, .int), (cL, .long), (cZ, .boolean), (cS, .object "EarthHauls$Section"), (cY, .object "EarthHauls$Yard")] s ∧ (∀ q : Nat, s.heap.size ≤ q → A q) ∧ (∀ q : Nat, q < s.heap.size → ¬ A q) ∧ va_X b L xs s s.heap ∧ b < s.heap.size
section
variable {p : Program} {l : Launch} {e : Env} {R : Room} {s : State} {m : MethodId} {args : Array Value} {below : List Frame} {meth : Method} {c : Code} {H : Heap} {locs : List Loc} {cells slots : Nat} {Q : State → Prop}
variable {cc : ByteArray} {pc : Nat} {ls : Array Slot} {rest : List Value} {A : Nat → Prop} {H0 : Heap}
theorem we_sld (hexec : p.tables.exec = Jvm.exec) (hb : c.code = cc) {b L : Nat} {xs : Nat → Int32} (hX : va_X b L xs s H0) (hbl : b < H0.size) (hbA : ¬ A b) (hS : va_S A H0 H locs) {i : Int} (k : Nat) (hi : i = (k : Int)) (hk : k < L) (hL : L < 2147483648) {y : Int} (hy : (xs k).toInt = y) (hdg : decode cc pc = .ok (.iaload, 1))
    (kk : W p l e R s m args below meth c H locs cells slots Q (F0 m (pc + 1) ls (.int (eI y) :: rest))) : W p l e R s m args below meth c H locs cells slots Q (F0 m pc ls (.int (eI i) :: .ref b :: rest)) := by
  obtain ⟨h1, h2⟩ := eh_ix hi hk hL
  refine va_sld hexec hb hX hbl hbA hS h1 hdg ?_
  rw [h2, eI_of (xs k), hy]
  exact kk
theorem we_icmp_same (hexec : p.tables.exec = Jvm.exec) (hb : c.code = cc) {x y : Int32} {off : Int} {tgt : Nat} (hxy : x = y) (hdg : decode cc pc = .ok (.if_icmp .eq off, 3)) (ht : (pc : Int) + off = (tgt : Int))
    (kt : W p l e R s m args below meth c H locs cells slots Q (F0 m tgt ls rest)) : W p l e R s m args below meth c H locs cells slots Q (F0 m pc ls (.int y :: .int x :: rest)) :=
  lv_icmp_eq hexec hb hdg ht (fun _ => kt) (fun h => absurd hxy h)
theorem eh_cmp_s (x : Int64) : lg_cmp x x = 0 := by
  unfold lg_cmp
  rw [if_neg (by rw [gt_iff_lt, Int64.lt_iff_toInt_lt]; omega)]
  simp
theorem we_lcmp_same (hexec : p.tables.exec = Jvm.exec) (hb : c.code = cc) {x y : Int64} {off : Int} {pc2 tgt : Nat} (hxy : x = y) (hdg : decode cc pc = .ok (.lcmp, 1)) (hp2 : pc + 1 = pc2) (hdg2 : decode cc pc2 = .ok (.ifCond .eq off, 3)) (ht : (pc2 : Int) + off = (tgt : Int))
    (kt : W p l e R s m args below meth c H locs cells slots Q (F0 m tgt ls rest)) : W p l e R s m args below meth c H locs cells slots Q (F0 m pc ls (.long y :: .long x :: rest)) := by
  subst hp2
  subst hxy
  exact W.lcmp hexec hb hdg (lv_if_eq hexec hb hdg2 ht (fun _ => kt) (fun h => absurd (eh_cmp_s x) h))
end
theorem eh_first_none {P : Nat → Bool} : ∀ {n : Nat}, eh_first P n = none → ∀ k, k < n → P k = false := by
  intro n
  induction n with
  | zero => intro _ k hk; omega
  | succ n ih =>
    intro h k hk
    have h1 : (match eh_first P n with | some k => some k | none => if P n then some n else none) = none := h
    cases hf : eh_first P n with
    | some k => rw [hf] at h1; cases h1
    | none =>
      rw [hf] at h1
      by_cases hkn : k = n
      · subst hkn
        cases hp : P k with
        | false => rfl
        | true => simp [hp] at h1
      · exact ih hf k (by omega)
/-- a plan of one's own that is judged right is a plan -/
theorem eh_jg_feas {n : Nat} {sh ra : Int} {ln cb la : Nat → Int} {cu cl fu fl : Nat → Nat} {ys yl yp : Nat → Int} (hE : eh_ES n sh ra ln cb la cu cl fu fl ys yl yp) (h : eh_jg n sh ra ln cb la cu cl fu fl ys yl yp = -1) :
    eh_feas (eh_kc n ra ln cb ys yp) (eh_gv n sh ln cu cl yl) (eh_wn n ln fu fl yl) la := by
  unfold eh_jg at h
  cases h1 : eh_first (eh_sb n sh ln la cu cl yl) 6 with
  | some k => rw [h1] at h; have : (0 : Int) + (k : Int) = -1 := h; omega
  | none =>
    rw [h1] at h
    have h' : eh_fo (eh_first (eh_tb n ln la fu fl yl) 5) 6 (eh_fo (eh_first (eh_ib (eh_kc n ra ln cb ys yp) la) 30) 100 (-1)) = -1 := h
    cases h2 : eh_first (eh_tb n ln la fu fl yl) 5 with
    | some k => rw [h2] at h'; have : (6 : Int) + (k : Int) = -1 := h'; omega
    | none =>
      rw [h2] at h'
      have h'' : eh_fo (eh_first (eh_ib (eh_kc n ra ln cb ys yp) la) 30) 100 (-1) = -1 := h'
      cases h3 : eh_first (eh_ib (eh_kc n ra ln cb ys yp) la) 30 with
      | some k => rw [h3] at h''; have : (100 : Int) + (k : Int) = -1 := h''; omega
      | none =>
        have f1 := eh_first_none h1
        have f2 := eh_first_none h2
        have f3 := eh_first_none h3
        refine ⟨fun k hk => ⟨(hE.2.2.2.2.2.1 k hk).1, fun hc => ?_⟩, fun s hs => ?_, ⟨?_, ?_⟩, fun t ht => ?_, ?_⟩
        · have z := of_decide_eq_false (f3 k hk)
          have z2 := eh_ku_b hE (show k / 5 < 6 by omega) (show k % 5 < 5 by omega)
          have z3 : -1 ≤ eh_kc n ra ln cb ys yp k := z2.1
          have z4 := (hE.2.2.2.2.2.1 k hk).1
          omega
        · have z := f1 s (by omega)
          unfold eh_sb at z
          rw [if_pos hs] at z
          have z2 := of_decide_eq_false z
          omega
        · have z := f1 4 (by omega)
          unfold eh_sb at z
          rw [if_neg (by omega)] at z
          have z2 := of_decide_eq_false z
          omega
        · have z := f1 5 (by omega)
          unfold eh_sb at z
          rw [if_neg (by omega)] at z
          have z2 := of_decide_eq_false z
          omega
        · have z := f2 t (by omega)
          unfold eh_tb at z
          rw [if_pos ht] at z
          have z2 := of_decide_eq_false z
          omega
        · have z := f2 4 (by omega)
          unfold eh_tb at z
          rw [if_neg (by omega)] at z
          have z2 := of_decide_eq_false z
          omega
