/-! more rows: boolean arrays, division with any sign -/
section
variable {p : Program} {l : Launch} {e : Env} {R : Room} {s : State} {m : MethodId} {args : Array Value} {below : List Frame} {meth : Method} {c : Code} {H : Heap} {locs : List Loc} {cells slots : Nat} {Q : State → Prop}
variable {cc : ByteArray} {pc : Nat} {ls : Array Slot} {rest : List Value}
variable {D : va_G} {cl : List vw_C} {A : Nat → Prop} {a : Nat} {tys : List (ClassId × FieldType)} {ws : va_W} {H0 : Heap}
theorem we_zast (hexec : p.tables.exec = Jvm.exec) (hb : c.code = cc) (hK : va_K D cl tys s) (hP : va_P D cl ws H) (hD : va_D A ws) (hS : va_S A H0 H locs) (q0 t0 : Nat) {cA : ClassId} {n : Nat} {g : Nat → Int} (ha : ws[q0]? = some (a, aI cA n g)) (ht : tys[t0]? = some (cA, .boolean)) {i z : Int} (k : Nat) (hi : i = (k : Int)) (hk : k < n) (hn : n < 2147483648) (hz : z = 0 ∨ z = 1) (hdg : decode cc pc = .ok (.bastore, 1))
    (kk : ∀ (H1 : Heap) (locs1 : List Loc), va_P D cl (ws.set q0 (a, aI cA n (eh_upd g k z))) H1 → va_D A (ws.set q0 (a, aI cA n (eh_upd g k z))) → va_S A H0 H1 locs1 → W p l e R s m args below meth c H1 locs1 cells slots Q (F0 m (pc + 1) ls rest)) : W p l e R s m args below meth c H locs cells slots Q (F0 m pc ls (.int (eI z) :: .int (eI i) :: .ref a :: rest)) := by
  refine va_zast hexec hb hK hP hD hS q0 t0 ha ht (eh_ix hi hk hn).1 hdg (fun H1 locs1 h1 h2 h3 => ?_)
  have hv : vp_nar .boolean (eI z) = eI z := by
    rcases hz with rfl | rfl <;> decide
  rw [(eh_ix hi hk hn).2, hv, eh_updI] at h1 h2
  exact kk H1 locs1 h1 h2 h3
theorem we_idivT (hexec : p.tables.exec = Jvm.exec) (hb : c.code = cc) {x y : Int} (ha : eh_i x) (hb2 : eh_i y) (h1 : 0 < y) (hdg : decode cc pc = .ok (.idiv, 1)) (k : W p l e R s m args below meth c H locs cells slots Q (F0 m (pc + 1) ls (.int (eI (Int.tdiv x y)) :: rest))) : W p l e R s m args below meth c H locs cells slots Q (F0 m pc ls (.int (eI y) :: .int (eI x) :: rest)) := by
  refine lv_idiv hexec hb hdg ((eI_ne0 hb2).mpr (by omega)) ?_
  have e1 : eI x / eI y = eI (Int.tdiv x y) := (Int32.ofInt_tdiv ha.1 (by have := ha.2; show x ≤ 2147483647; omega) hb2.1 (by have := hb2.2; show y ≤ 2147483647; omega)).symm
  rw [e1]
  exact k
theorem we_iremT (hexec : p.tables.exec = Jvm.exec) (hb : c.code = cc) {x y : Int} (ha : eh_i x) (hb2 : eh_i y) (h1 : 0 < y) (hdg : decode cc pc = .ok (.irem, 1)) (k : W p l e R s m args below meth c H locs cells slots Q (F0 m (pc + 1) ls (.int (eI (x - Int.tdiv x y * y)) :: rest))) : W p l e R s m args below meth c H locs cells slots Q (F0 m pc ls (.int (eI y) :: .int (eI x) :: rest)) := by
  refine lv_irem hexec hb hdg ((eI_ne0 hb2).mpr (by omega)) ?_
  have e1 : eI x / eI y = eI (Int.tdiv x y) := (Int32.ofInt_tdiv ha.1 (by have := ha.2; show x ≤ 2147483647; omega) hb2.1 (by have := hb2.2; show y ≤ 2147483647; omega)).symm
  rw [e1, eI_mul, eI_sub]
  exact k
end
theorem eh_first_lt {P : Nat → Bool} : ∀ {n k : Nat}, eh_first P n = some k → k < n := by
  intro n
  induction n with
  | zero => intro k h; cases h
  | succ n ih =>
    intro k h
    have h : (match eh_first P n with | some k => some k | none => if P n then some n else none) = some k := h
    cases z : eh_first P n with
    | some j =>
      rw [z] at h
      have : j = k := Option.some.inj h
      have := ih z
      omega
    | none =>
      rw [z] at h
      by_cases q : P n
      · simp [q] at h; omega
      · simp [q] at h
theorem eh_jg_b (n : Nat) (sh ra : Int) (ln cb la : Nat → Int) (cu cl fu fl : Nat → Nat) (ys yl yp : Nat → Int) : -1 ≤ eh_jg n sh ra ln cb la cu cl fu fl ys yl yp ∧ eh_jg n sh ra ln cb la cu cl fu fl ys yl yp ≤ 130 := by
  unfold eh_jg
  cases z1 : eh_first (eh_sb n sh ln la cu cl yl) 6 with
  | some k => have := eh_first_lt z1; simp only [eh_fo]; omega
  | none =>
    cases z2 : eh_first (eh_tb n ln la fu fl yl) 5 with
    | some k => have := eh_first_lt z2; simp only [eh_fo]; omega
    | none =>
      cases z3 : eh_first (eh_ib (eh_kc n ra ln cb ys yp) la) 30 with
      | some k => have := eh_first_lt z3; simp only [eh_fo]; omega
      | none => simp only [eh_fo]; omega
