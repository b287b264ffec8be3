/-! rows of instructions in numbers -/
section
variable {p : Program} {l : Launch} {e : Env} {R : Room} {s : State} {m : MethodId} {args : Array Value} {below : List Frame} {meth : Method} {c : Code} {H : Heap} {locs : List Loc} {cells slots : Nat} {Q : State → Prop}
variable {cc : ByteArray} {pc : Nat} {ls : Array Slot} {rest : List Value}
theorem we_iadd (hexec : p.tables.exec = Jvm.exec) (hb : c.code = cc) {a b : Int} (hdg : decode cc pc = .ok (.iadd, 1)) (k : W p l e R s m args below meth c H locs cells slots Q (F0 m (pc + 1) ls (.int (eI (a + b)) :: rest))) : W p l e R s m args below meth c H locs cells slots Q (F0 m pc ls (.int (eI b) :: .int (eI a) :: rest)) := lv_iadd hexec hb hdg (by rw [eI_add]; exact k)
theorem we_ladd (hexec : p.tables.exec = Jvm.exec) (hb : c.code = cc) {a b : Int} (hdg : decode cc pc = .ok (.ladd, 1)) (k : W p l e R s m args below meth c H locs cells slots Q (F0 m (pc + 1) ls (.long (eL (a + b)) :: rest))) : W p l e R s m args below meth c H locs cells slots Q (F0 m pc ls (.long (eL b) :: .long (eL a) :: rest)) := lv_ladd hexec hb hdg (by rw [eL_add]; exact k)
theorem we_isub (hexec : p.tables.exec = Jvm.exec) (hb : c.code = cc) {a b : Int} (hdg : decode cc pc = .ok (.isub, 1)) (k : W p l e R s m args below meth c H locs cells slots Q (F0 m (pc + 1) ls (.int (eI (a - b)) :: rest))) : W p l e R s m args below meth c H locs cells slots Q (F0 m pc ls (.int (eI b) :: .int (eI a) :: rest)) := lv_isub hexec hb hdg (by rw [eI_sub]; exact k)
theorem we_lsub (hexec : p.tables.exec = Jvm.exec) (hb : c.code = cc) {a b : Int} (hdg : decode cc pc = .ok (.lsub, 1)) (k : W p l e R s m args below meth c H locs cells slots Q (F0 m (pc + 1) ls (.long (eL (a - b)) :: rest))) : W p l e R s m args below meth c H locs cells slots Q (F0 m pc ls (.long (eL b) :: .long (eL a) :: rest)) := lv_lsub hexec hb hdg (by rw [eL_sub]; exact k)
theorem we_imul (hexec : p.tables.exec = Jvm.exec) (hb : c.code = cc) {a b : Int} (hdg : decode cc pc = .ok (.imul, 1)) (k : W p l e R s m args below meth c H locs cells slots Q (F0 m (pc + 1) ls (.int (eI (a * b)) :: rest))) : W p l e R s m args below meth c H locs cells slots Q (F0 m pc ls (.int (eI b) :: .int (eI a) :: rest)) := lv_imul hexec hb hdg (by rw [eI_mul]; exact k)
theorem we_lmul (hexec : p.tables.exec = Jvm.exec) (hb : c.code = cc) {a b : Int} (hdg : decode cc pc = .ok (.lmul, 1)) (k : W p l e R s m args below meth c H locs cells slots Q (F0 m (pc + 1) ls (.long (eL (a * b)) :: rest))) : W p l e R s m args below meth c H locs cells slots Q (F0 m pc ls (.long (eL b) :: .long (eL a) :: rest)) := lv_lmul hexec hb hdg (by rw [eL_mul]; exact k)
theorem we_ineg (hexec : p.tables.exec = Jvm.exec) (hb : c.code = cc) {a : Int} (hdg : decode cc pc = .ok (.ineg, 1)) (k : W p l e R s m args below meth c H locs cells slots Q (F0 m (pc + 1) ls (.int (eI (-a)) :: rest))) : W p l e R s m args below meth c H locs cells slots Q (F0 m pc ls (.int (eI a) :: rest)) := lv_ineg hexec hb hdg (by rw [eI_neg]; exact k)
theorem we_idiv (hexec : p.tables.exec = Jvm.exec) (hb : c.code = cc) {a b : Int} (ha : eh_i a) (hb2 : eh_i b) (h0 : 0 ≤ a) (h1 : 0 < b) (hdg : decode cc pc = .ok (.idiv, 1)) (k : W p l e R s m args below meth c H locs cells slots Q (F0 m (pc + 1) ls (.int (eI (a / b)) :: rest))) : W p l e R s m args below meth c H locs cells slots Q (F0 m pc ls (.int (eI b) :: .int (eI a) :: rest)) := lv_idiv hexec hb hdg ((eI_ne0 hb2).mpr (by omega)) (by rw [eI_div ha hb2 h0 h1]; exact k)
theorem we_irem (hexec : p.tables.exec = Jvm.exec) (hb : c.code = cc) {a b : Int} (ha : eh_i a) (hb2 : eh_i b) (h0 : 0 ≤ a) (h1 : 0 < b) (hdg : decode cc pc = .ok (.irem, 1)) (k : W p l e R s m args below meth c H locs cells slots Q (F0 m (pc + 1) ls (.int (eI (a % b)) :: rest))) : W p l e R s m args below meth c H locs cells slots Q (F0 m pc ls (.int (eI b) :: .int (eI a) :: rest)) := lv_irem hexec hb hdg ((eI_ne0 hb2).mpr (by omega)) (by rw [eI_rem ha hb2 h0 h1]; exact k)
theorem we_lneg (hexec : p.tables.exec = Jvm.exec) (hb : c.code = cc) {a : Int} (hdg : decode cc pc = .ok (.lneg, 1)) (k : W p l e R s m args below meth c H locs cells slots Q (F0 m (pc + 1) ls (.long (eL (-a)) :: rest))) : W p l e R s m args below meth c H locs cells slots Q (F0 m pc ls (.long (eL a) :: rest)) := lv_lneg hexec hb hdg (by rw [eL_neg]; exact k)
theorem we_ldiv (hexec : p.tables.exec = Jvm.exec) (hb : c.code = cc) {a b : Int} (ha : eh_l a) (hb2 : eh_l b) (h0 : 0 ≤ a) (h1 : 0 < b) (hdg : decode cc pc = .ok (.ldiv, 1)) (k : W p l e R s m args below meth c H locs cells slots Q (F0 m (pc + 1) ls (.long (eL (a / b)) :: rest))) : W p l e R s m args below meth c H locs cells slots Q (F0 m pc ls (.long (eL b) :: .long (eL a) :: rest)) := lv_ldiv hexec hb hdg ((eL_ne0 hb2).mpr (by omega)) (by rw [eL_div ha hb2 h0 h1]; exact k)
theorem we_lrem (hexec : p.tables.exec = Jvm.exec) (hb : c.code = cc) {a b : Int} (ha : eh_l a) (hb2 : eh_l b) (h0 : 0 ≤ a) (h1 : 0 < b) (hdg : decode cc pc = .ok (.lrem, 1)) (k : W p l e R s m args below meth c H locs cells slots Q (F0 m (pc + 1) ls (.long (eL (a % b)) :: rest))) : W p l e R s m args below meth c H locs cells slots Q (F0 m pc ls (.long (eL b) :: .long (eL a) :: rest)) := lv_lrem hexec hb hdg ((eL_ne0 hb2).mpr (by omega)) (by rw [eL_rem ha hb2 h0 h1]; exact k)
theorem we_i2l (hexec : p.tables.exec = Jvm.exec) (hb : c.code = cc) {a : Int} (ha : eh_i a) (hdg : decode cc pc = .ok (.i2l, 1)) (k : W p l e R s m args below meth c H locs cells slots Q (F0 m (pc + 1) ls (.long (eL a) :: rest))) : W p l e R s m args below meth c H locs cells slots Q (F0 m pc ls (.int (eI a) :: rest)) := lv_i2l hexec hb hdg (eI_l ha) k
theorem we_l2i (hexec : p.tables.exec = Jvm.exec) (hb : c.code = cc) {a : Int} (hdg : decode cc pc = .ok (.l2i, 1)) (k : W p l e R s m args below meth c H locs cells slots Q (F0 m (pc + 1) ls (.int (eI a) :: rest))) : W p l e R s m args below meth c H locs cells slots Q (F0 m pc ls (.long (eL a) :: rest)) := lv_l2i hexec hb hdg (eL_i a) k
theorem we_ldc (hexec : p.tables.exec = Jvm.exec) (hb : c.code = cc) {own : String} {index : Nat} {v : Int32} {a : Int} (hown : s.vm.findClass own = some m.cls) (hconst : (Jvm.Cond.constant own index v).before args s = true) (hv : v = eI a) (hdg : decode cc pc = .ok (.ldc index, 2)) (k : W p l e R s m args below meth c H locs cells slots Q (F0 m (pc + 2) ls (.int (eI a) :: rest))) : W p l e R s m args below meth c H locs cells slots Q (F0 m pc ls rest) := lv_ldc hexec hb hown hconst hdg (by rw [hv]; exact k)
theorem we_ldc2 (hexec : p.tables.exec = Jvm.exec) (hb : c.code = cc) {own : String} {index : Nat} {v : Int64} {a : Int} (hown : s.vm.findClass own = some m.cls) (hconst : (Jvm.Cond.constantLong own index v).before args s = true) (hv : v = eL a) (hdg : decode cc pc = .ok (.ldc2_w index, 3)) (k : W p l e R s m args below meth c H locs cells slots Q (F0 m (pc + 3) ls (.long (eL a) :: rest))) : W p l e R s m args below meth c H locs cells slots Q (F0 m pc ls rest) := lv_ldc2 hexec hb hown hconst hdg (by rw [hv]; exact k)
theorem we_icmp_eq (hexec : p.tables.exec = Jvm.exec) (hb : c.code = cc) {a b : Int} {off : Int} {tgt : Nat} (ha : eh_i a) (hc : eh_i b) (hdg : decode cc pc = .ok (.if_icmp .eq off, 3)) (ht : (pc : Int) + off = (tgt : Int)) (kt : a = b → W p l e R s m args below meth c H locs cells slots Q (F0 m tgt ls rest)) (kf : ¬ (a = b) → W p l e R s m args below meth c H locs cells slots Q (F0 m (pc + 3) ls rest)) : W p l e R s m args below meth c H locs cells slots Q (F0 m pc ls (.int (eI b) :: .int (eI a) :: rest)) := lv_icmp_eq hexec hb hdg ht (fun h => kt ((eI_eq ha hc).mp h)) (fun h => kf (fun q => h ((eI_eq ha hc).mpr q)))
theorem we_icmp_ne (hexec : p.tables.exec = Jvm.exec) (hb : c.code = cc) {a b : Int} {off : Int} {tgt : Nat} (ha : eh_i a) (hc : eh_i b) (hdg : decode cc pc = .ok (.if_icmp .ne off, 3)) (ht : (pc : Int) + off = (tgt : Int)) (kt : a ≠ b → W p l e R s m args below meth c H locs cells slots Q (F0 m tgt ls rest)) (kf : ¬ (a ≠ b) → W p l e R s m args below meth c H locs cells slots Q (F0 m (pc + 3) ls rest)) : W p l e R s m args below meth c H locs cells slots Q (F0 m pc ls (.int (eI b) :: .int (eI a) :: rest)) := lv_icmp_ne hexec hb hdg ht (fun h => kt (fun q => h ((eI_eq ha hc).mpr q))) (fun h => kf (fun q => q ((eI_eq ha hc).mp h)))
theorem we_icmp_lt (hexec : p.tables.exec = Jvm.exec) (hb : c.code = cc) {a b : Int} {off : Int} {tgt : Nat} (ha : eh_i a) (hc : eh_i b) (hdg : decode cc pc = .ok (.if_icmp .lt off, 3)) (ht : (pc : Int) + off = (tgt : Int)) (kt : a < b → W p l e R s m args below meth c H locs cells slots Q (F0 m tgt ls rest)) (kf : ¬ (a < b) → W p l e R s m args below meth c H locs cells slots Q (F0 m (pc + 3) ls rest)) : W p l e R s m args below meth c H locs cells slots Q (F0 m pc ls (.int (eI b) :: .int (eI a) :: rest)) := lv_icmp_lt hexec hb hdg ht (fun h => kt ((eI_lt ha hc).mp h)) (fun h => kf (fun q => h ((eI_lt ha hc).mpr q)))
theorem we_icmp_ge (hexec : p.tables.exec = Jvm.exec) (hb : c.code = cc) {a b : Int} {off : Int} {tgt : Nat} (ha : eh_i a) (hc : eh_i b) (hdg : decode cc pc = .ok (.if_icmp .ge off, 3)) (ht : (pc : Int) + off = (tgt : Int)) (kt : b ≤ a → W p l e R s m args below meth c H locs cells slots Q (F0 m tgt ls rest)) (kf : ¬ (b ≤ a) → W p l e R s m args below meth c H locs cells slots Q (F0 m (pc + 3) ls rest)) : W p l e R s m args below meth c H locs cells slots Q (F0 m pc ls (.int (eI b) :: .int (eI a) :: rest)) := lv_icmp_ge hexec hb hdg ht (fun h => kt ((eI_le hc ha).mp h)) (fun h => kf (fun q => h ((eI_le hc ha).mpr q)))
theorem we_icmp_gt (hexec : p.tables.exec = Jvm.exec) (hb : c.code = cc) {a b : Int} {off : Int} {tgt : Nat} (ha : eh_i a) (hc : eh_i b) (hdg : decode cc pc = .ok (.if_icmp .gt off, 3)) (ht : (pc : Int) + off = (tgt : Int)) (kt : b < a → W p l e R s m args below meth c H locs cells slots Q (F0 m tgt ls rest)) (kf : ¬ (b < a) → W p l e R s m args below meth c H locs cells slots Q (F0 m (pc + 3) ls rest)) : W p l e R s m args below meth c H locs cells slots Q (F0 m pc ls (.int (eI b) :: .int (eI a) :: rest)) := lv_icmp_gt hexec hb hdg ht (fun h => kt ((eI_lt hc ha).mp h)) (fun h => kf (fun q => h ((eI_lt hc ha).mpr q)))
theorem we_icmp_le (hexec : p.tables.exec = Jvm.exec) (hb : c.code = cc) {a b : Int} {off : Int} {tgt : Nat} (ha : eh_i a) (hc : eh_i b) (hdg : decode cc pc = .ok (.if_icmp .le off, 3)) (ht : (pc : Int) + off = (tgt : Int)) (kt : a ≤ b → W p l e R s m args below meth c H locs cells slots Q (F0 m tgt ls rest)) (kf : ¬ (a ≤ b) → W p l e R s m args below meth c H locs cells slots Q (F0 m (pc + 3) ls rest)) : W p l e R s m args below meth c H locs cells slots Q (F0 m pc ls (.int (eI b) :: .int (eI a) :: rest)) := lv_icmp_le hexec hb hdg ht (fun h => kt ((eI_le ha hc).mp h)) (fun h => kf (fun q => h ((eI_le ha hc).mpr q)))
theorem eh_i0 : eh_i 0 := by constructor <;> omega
theorem we_if_eq (hexec : p.tables.exec = Jvm.exec) (hb : c.code = cc) {a : Int} {off : Int} {tgt : Nat} (ha : eh_i a) (hdg : decode cc pc = .ok (.ifCond .eq off, 3)) (ht : (pc : Int) + off = (tgt : Int)) (kt : a = 0 → W p l e R s m args below meth c H locs cells slots Q (F0 m tgt ls rest)) (kf : ¬ (a = 0) → W p l e R s m args below meth c H locs cells slots Q (F0 m (pc + 3) ls rest)) : W p l e R s m args below meth c H locs cells slots Q (F0 m pc ls (.int (eI a) :: rest)) := lv_if_eq hexec hb hdg ht (fun h => kt ((eI_eq ha eh_i0).mp h)) (fun h => kf (fun q => h ((eI_eq ha eh_i0).mpr q)))
theorem we_if_ne (hexec : p.tables.exec = Jvm.exec) (hb : c.code = cc) {a : Int} {off : Int} {tgt : Nat} (ha : eh_i a) (hdg : decode cc pc = .ok (.ifCond .ne off, 3)) (ht : (pc : Int) + off = (tgt : Int)) (kt : a ≠ 0 → W p l e R s m args below meth c H locs cells slots Q (F0 m tgt ls rest)) (kf : ¬ (a ≠ 0) → W p l e R s m args below meth c H locs cells slots Q (F0 m (pc + 3) ls rest)) : W p l e R s m args below meth c H locs cells slots Q (F0 m pc ls (.int (eI a) :: rest)) := lv_if_ne hexec hb hdg ht (fun h => kt (fun q => h ((eI_eq ha eh_i0).mpr q))) (fun h => kf (fun q => q ((eI_eq ha eh_i0).mp h)))
theorem we_if_lt (hexec : p.tables.exec = Jvm.exec) (hb : c.code = cc) {a : Int} {off : Int} {tgt : Nat} (ha : eh_i a) (hdg : decode cc pc = .ok (.ifCond .lt off, 3)) (ht : (pc : Int) + off = (tgt : Int)) (kt : a < 0 → W p l e R s m args below meth c H locs cells slots Q (F0 m tgt ls rest)) (kf : ¬ (a < 0) → W p l e R s m args below meth c H locs cells slots Q (F0 m (pc + 3) ls rest)) : W p l e R s m args below meth c H locs cells slots Q (F0 m pc ls (.int (eI a) :: rest)) := lv_if_lt hexec hb hdg ht (fun h => kt ((eI_lt ha eh_i0).mp h)) (fun h => kf (fun q => h ((eI_lt ha eh_i0).mpr q)))
theorem we_if_ge (hexec : p.tables.exec = Jvm.exec) (hb : c.code = cc) {a : Int} {off : Int} {tgt : Nat} (ha : eh_i a) (hdg : decode cc pc = .ok (.ifCond .ge off, 3)) (ht : (pc : Int) + off = (tgt : Int)) (kt : 0 ≤ a → W p l e R s m args below meth c H locs cells slots Q (F0 m tgt ls rest)) (kf : ¬ (0 ≤ a) → W p l e R s m args below meth c H locs cells slots Q (F0 m (pc + 3) ls rest)) : W p l e R s m args below meth c H locs cells slots Q (F0 m pc ls (.int (eI a) :: rest)) := lv_if_ge hexec hb hdg ht (fun h => kt ((eI_le eh_i0 ha).mp h)) (fun h => kf (fun q => h ((eI_le eh_i0 ha).mpr q)))
theorem we_if_gt (hexec : p.tables.exec = Jvm.exec) (hb : c.code = cc) {a : Int} {off : Int} {tgt : Nat} (ha : eh_i a) (hdg : decode cc pc = .ok (.ifCond .gt off, 3)) (ht : (pc : Int) + off = (tgt : Int)) (kt : 0 < a → W p l e R s m args below meth c H locs cells slots Q (F0 m tgt ls rest)) (kf : ¬ (0 < a) → W p l e R s m args below meth c H locs cells slots Q (F0 m (pc + 3) ls rest)) : W p l e R s m args below meth c H locs cells slots Q (F0 m pc ls (.int (eI a) :: rest)) := lv_if_gt hexec hb hdg ht (fun h => kt ((eI_lt eh_i0 ha).mp h)) (fun h => kf (fun q => h ((eI_lt eh_i0 ha).mpr q)))
theorem we_if_le (hexec : p.tables.exec = Jvm.exec) (hb : c.code = cc) {a : Int} {off : Int} {tgt : Nat} (ha : eh_i a) (hdg : decode cc pc = .ok (.ifCond .le off, 3)) (ht : (pc : Int) + off = (tgt : Int)) (kt : a ≤ 0 → W p l e R s m args below meth c H locs cells slots Q (F0 m tgt ls rest)) (kf : ¬ (a ≤ 0) → W p l e R s m args below meth c H locs cells slots Q (F0 m (pc + 3) ls rest)) : W p l e R s m args below meth c H locs cells slots Q (F0 m pc ls (.int (eI a) :: rest)) := lv_if_le hexec hb hdg ht (fun h => kt ((eI_le ha eh_i0).mp h)) (fun h => kf (fun q => h ((eI_le ha eh_i0).mpr q)))
theorem eh_lcmp {a b : Int} (ha : eh_l a) (hc : eh_l b) : lg_cmp (eL a) (eL b) = if b < a then 1 else if a = b then 0 else -1 := by
  unfold lg_cmp
  have h1 : (eL a > eL b) ↔ b < a := eL_lt hc ha
  have h2 : (eL a = eL b) ↔ a = b := eL_eq ha hc
  simp only [h1, h2]
theorem eh_lc_eq {a b : Int} (ha : eh_l a) (hc : eh_l b) : ((lg_cmp (eL a) (eL b)) = 0) ↔ a = b := by
  rw [eh_lcmp ha hc]
  by_cases h1 : b < a
  · rw [if_pos h1]
    constructor
    · intro h; first | omega | exact absurd h (by decide)
    · intro h; first | decide | omega
  · rw [if_neg h1]
    by_cases h2 : a = b
    · rw [if_pos h2]
      constructor
      · intro h; first | omega | exact absurd h (by decide)
      · intro h; first | decide | omega
    · rw [if_neg h2]
      constructor
      · intro h; first | omega | exact absurd h (by decide)
      · intro h; first | decide | omega
theorem we_lcmp_eq (hexec : p.tables.exec = Jvm.exec) (hb : c.code = cc) {a b : Int} {off : Int} {pc2 tgt : Nat} (ha : eh_l a) (hc : eh_l b) (hdg : decode cc pc = .ok (.lcmp, 1)) (hp2 : pc + 1 = pc2) (hdg2 : decode cc pc2 = .ok (.ifCond .eq off, 3)) (ht : (pc2 : Int) + off = (tgt : Int)) (kt : a = b → W p l e R s m args below meth c H locs cells slots Q (F0 m tgt ls rest)) (kf : ¬ (a = b) → W p l e R s m args below meth c H locs cells slots Q (F0 m (pc2 + 3) ls rest)) : W p l e R s m args below meth c H locs cells slots Q (F0 m pc ls (.long (eL b) :: .long (eL a) :: rest)) := by
  subst hp2
  exact W.lcmp hexec hb hdg (lv_if_eq hexec hb hdg2 ht (fun h => kt ((eh_lc_eq ha hc).mp h)) (fun h => kf (fun q => h ((eh_lc_eq ha hc).mpr q))))
theorem eh_lc_ne {a b : Int} (ha : eh_l a) (hc : eh_l b) : (¬ (lg_cmp (eL a) (eL b)) = 0) ↔ a ≠ b := by
  rw [eh_lcmp ha hc]
  by_cases h1 : b < a
  · rw [if_pos h1]
    constructor
    · intro h; first | omega | exact absurd h (by decide)
    · intro h; first | decide | omega
  · rw [if_neg h1]
    by_cases h2 : a = b
    · rw [if_pos h2]
      constructor
      · intro h; first | omega | exact absurd h (by decide)
      · intro h; first | decide | omega
    · rw [if_neg h2]
      constructor
      · intro h; first | omega | exact absurd h (by decide)
      · intro h; first | decide | omega
theorem we_lcmp_ne (hexec : p.tables.exec = Jvm.exec) (hb : c.code = cc) {a b : Int} {off : Int} {pc2 tgt : Nat} (ha : eh_l a) (hc : eh_l b) (hdg : decode cc pc = .ok (.lcmp, 1)) (hp2 : pc + 1 = pc2) (hdg2 : decode cc pc2 = .ok (.ifCond .ne off, 3)) (ht : (pc2 : Int) + off = (tgt : Int)) (kt : a ≠ b → W p l e R s m args below meth c H locs cells slots Q (F0 m tgt ls rest)) (kf : ¬ (a ≠ b) → W p l e R s m args below meth c H locs cells slots Q (F0 m (pc2 + 3) ls rest)) : W p l e R s m args below meth c H locs cells slots Q (F0 m pc ls (.long (eL b) :: .long (eL a) :: rest)) := by
  subst hp2
  exact W.lcmp hexec hb hdg (lv_if_ne hexec hb hdg2 ht (fun h => kt ((eh_lc_ne ha hc).mp h)) (fun h => kf (fun q => (eh_lc_ne ha hc).mpr q h)))
theorem eh_lc_lt {a b : Int} (ha : eh_l a) (hc : eh_l b) : ((lg_cmp (eL a) (eL b)) < 0) ↔ a < b := by
  rw [eh_lcmp ha hc]
  by_cases h1 : b < a
  · rw [if_pos h1]
    constructor
    · intro h; first | omega | exact absurd h (by decide)
    · intro h; first | decide | omega
  · rw [if_neg h1]
    by_cases h2 : a = b
    · rw [if_pos h2]
      constructor
      · intro h; first | omega | exact absurd h (by decide)
      · intro h; first | decide | omega
    · rw [if_neg h2]
      constructor
      · intro h; first | omega | exact absurd h (by decide)
      · intro h; first | decide | omega
theorem we_lcmp_lt (hexec : p.tables.exec = Jvm.exec) (hb : c.code = cc) {a b : Int} {off : Int} {pc2 tgt : Nat} (ha : eh_l a) (hc : eh_l b) (hdg : decode cc pc = .ok (.lcmp, 1)) (hp2 : pc + 1 = pc2) (hdg2 : decode cc pc2 = .ok (.ifCond .lt off, 3)) (ht : (pc2 : Int) + off = (tgt : Int)) (kt : a < b → W p l e R s m args below meth c H locs cells slots Q (F0 m tgt ls rest)) (kf : ¬ (a < b) → W p l e R s m args below meth c H locs cells slots Q (F0 m (pc2 + 3) ls rest)) : W p l e R s m args below meth c H locs cells slots Q (F0 m pc ls (.long (eL b) :: .long (eL a) :: rest)) := by
  subst hp2
  exact W.lcmp hexec hb hdg (lv_if_lt hexec hb hdg2 ht (fun h => kt ((eh_lc_lt ha hc).mp h)) (fun h => kf (fun q => h ((eh_lc_lt ha hc).mpr q))))
theorem eh_lc_ge {a b : Int} (ha : eh_l a) (hc : eh_l b) : (0 ≤ (lg_cmp (eL a) (eL b))) ↔ b ≤ a := by
  rw [eh_lcmp ha hc]
  by_cases h1 : b < a
  · rw [if_pos h1]
    constructor
    · intro h; first | omega | exact absurd h (by decide)
    · intro h; first | decide | omega
  · rw [if_neg h1]
    by_cases h2 : a = b
    · rw [if_pos h2]
      constructor
      · intro h; first | omega | exact absurd h (by decide)
      · intro h; first | decide | omega
    · rw [if_neg h2]
      constructor
      · intro h; first | omega | exact absurd h (by decide)
      · intro h; first | decide | omega
theorem we_lcmp_ge (hexec : p.tables.exec = Jvm.exec) (hb : c.code = cc) {a b : Int} {off : Int} {pc2 tgt : Nat} (ha : eh_l a) (hc : eh_l b) (hdg : decode cc pc = .ok (.lcmp, 1)) (hp2 : pc + 1 = pc2) (hdg2 : decode cc pc2 = .ok (.ifCond .ge off, 3)) (ht : (pc2 : Int) + off = (tgt : Int)) (kt : b ≤ a → W p l e R s m args below meth c H locs cells slots Q (F0 m tgt ls rest)) (kf : ¬ (b ≤ a) → W p l e R s m args below meth c H locs cells slots Q (F0 m (pc2 + 3) ls rest)) : W p l e R s m args below meth c H locs cells slots Q (F0 m pc ls (.long (eL b) :: .long (eL a) :: rest)) := by
  subst hp2
  exact W.lcmp hexec hb hdg (lv_if_ge hexec hb hdg2 ht (fun h => kt ((eh_lc_ge ha hc).mp h)) (fun h => kf (fun q => h ((eh_lc_ge ha hc).mpr q))))
theorem eh_lc_gt {a b : Int} (ha : eh_l a) (hc : eh_l b) : (0 < (lg_cmp (eL a) (eL b))) ↔ b < a := by
  rw [eh_lcmp ha hc]
  by_cases h1 : b < a
  · rw [if_pos h1]
    constructor
    · intro h; first | omega | exact absurd h (by decide)
    · intro h; first | decide | omega
  · rw [if_neg h1]
    by_cases h2 : a = b
    · rw [if_pos h2]
      constructor
      · intro h; first | omega | exact absurd h (by decide)
      · intro h; first | decide | omega
    · rw [if_neg h2]
      constructor
      · intro h; first | omega | exact absurd h (by decide)
      · intro h; first | decide | omega
theorem we_lcmp_gt (hexec : p.tables.exec = Jvm.exec) (hb : c.code = cc) {a b : Int} {off : Int} {pc2 tgt : Nat} (ha : eh_l a) (hc : eh_l b) (hdg : decode cc pc = .ok (.lcmp, 1)) (hp2 : pc + 1 = pc2) (hdg2 : decode cc pc2 = .ok (.ifCond .gt off, 3)) (ht : (pc2 : Int) + off = (tgt : Int)) (kt : b < a → W p l e R s m args below meth c H locs cells slots Q (F0 m tgt ls rest)) (kf : ¬ (b < a) → W p l e R s m args below meth c H locs cells slots Q (F0 m (pc2 + 3) ls rest)) : W p l e R s m args below meth c H locs cells slots Q (F0 m pc ls (.long (eL b) :: .long (eL a) :: rest)) := by
  subst hp2
  exact W.lcmp hexec hb hdg (lv_if_gt hexec hb hdg2 ht (fun h => kt ((eh_lc_gt ha hc).mp h)) (fun h => kf (fun q => h ((eh_lc_gt ha hc).mpr q))))
theorem eh_lc_le {a b : Int} (ha : eh_l a) (hc : eh_l b) : ((lg_cmp (eL a) (eL b)) ≤ 0) ↔ a ≤ b := by
  rw [eh_lcmp ha hc]
  by_cases h1 : b < a
  · rw [if_pos h1]
    constructor
    · intro h; first | omega | exact absurd h (by decide)
    · intro h; first | decide | omega
  · rw [if_neg h1]
    by_cases h2 : a = b
    · rw [if_pos h2]
      constructor
      · intro h; first | omega | exact absurd h (by decide)
      · intro h; first | decide | omega
    · rw [if_neg h2]
      constructor
      · intro h; first | omega | exact absurd h (by decide)
      · intro h; first | decide | omega
theorem we_lcmp_le (hexec : p.tables.exec = Jvm.exec) (hb : c.code = cc) {a b : Int} {off : Int} {pc2 tgt : Nat} (ha : eh_l a) (hc : eh_l b) (hdg : decode cc pc = .ok (.lcmp, 1)) (hp2 : pc + 1 = pc2) (hdg2 : decode cc pc2 = .ok (.ifCond .le off, 3)) (ht : (pc2 : Int) + off = (tgt : Int)) (kt : a ≤ b → W p l e R s m args below meth c H locs cells slots Q (F0 m tgt ls rest)) (kf : ¬ (a ≤ b) → W p l e R s m args below meth c H locs cells slots Q (F0 m (pc2 + 3) ls rest)) : W p l e R s m args below meth c H locs cells slots Q (F0 m pc ls (.long (eL b) :: .long (eL a) :: rest)) := by
  subst hp2
  exact W.lcmp hexec hb hdg (lv_if_le hexec hb hdg2 ht (fun h => kt ((eh_lc_le ha hc).mp h)) (fun h => kf (fun q => h ((eh_lc_le ha hc).mpr q))))
end
/-- arrays of ints, longs, booleans (0, 1) as numbers -/
abbrev aI (cA : ClassId) (n : Nat) (g : Nat → Int) : va_E := .inl (cA, n, .inl (fun j => eI (g j)))
abbrev aL (cA : ClassId) (n : Nat) (g : Nat → Int) : va_E := .inl (cA, n, .inr (.inl (fun j => eL (g j))))
theorem eh_updI (g : Nat → Int) (k : Nat) (z : Int) : upd (fun j => eI (g j)) k (eI z) = fun j => eI (eh_upd g k z j) := by
  funext j
  by_cases h : j = k
  · subst h; rw [pk_us, eh_upd_s]
  · rw [pk_un h, eh_upd_n _ _ h]
theorem eh_updL (g : Nat → Int) (k : Nat) (z : Int) : vp_updL (fun j => eL (g j)) k (eL z) = fun j => eL (eh_upd g k z j) := by
  funext j
  by_cases h : j = k
  · subst h; rw [pk_uLs, eh_upd_s]
  · rw [pk_uLn h, eh_upd_n _ _ h]
theorem eh_ix {i : Int} {k n : Nat} (hi : i = (k : Int)) (hk : k < n) (hn : n < 2147483648) : vp_in (eI i) n ∧ (eI i).toNatClampNeg = k := by
  have h : eh_i i := by constructor <;> omega
  refine ⟨eI_in h (by omega) (by omega), ?_⟩
  rw [eI_cl h, hi]
  rfl
section
variable {p : Program} {l : Launch} {e : Env} {R : Room} {s : State} {m : MethodId} {args : Array Value} {below : List Frame} {meth : Method} {c : Code} {H : Heap} {locs : List Loc} {cells slots : Nat} {Q : State → Prop}
variable {cc : ByteArray} {pc : Nat} {ls : Array Slot} {rest : List Value}
variable {D : va_G} {cl : List vw_C} {A : Nat → Prop} {a : Nat} {tys : List (ClassId × FieldType)} {ws : va_W} {H0 : Heap}
theorem we_iald (hexec : p.tables.exec = Jvm.exec) (hb : c.code = cc) (hK : va_K D cl tys s) (hP : va_P D cl ws H) (q0 t0 : Nat) {cA : ClassId} {n : Nat} {g : Nat → Int} (ha : ws[q0]? = some (a, aI cA n g)) (ht : tys[t0]? = some (cA, .int)) {i : Int} (k : Nat) (hi : i = (k : Int)) (hk : k < n) (hn : n < 2147483648) (hdg : decode cc pc = .ok (.iaload, 1)) (kk : W p l e R s m args below meth c H locs cells slots Q (F0 m (pc + 1) ls (.int (eI (g k)) :: rest))) : W p l e R s m args below meth c H locs cells slots Q (F0 m pc ls (.int (eI i) :: .ref a :: rest)) := va_iald hexec hb hK hP q0 t0 ha ht (eh_ix hi hk hn).1 hdg (by rw [(eh_ix hi hk hn).2]; exact kk)
theorem we_zald (hexec : p.tables.exec = Jvm.exec) (hb : c.code = cc) (hK : va_K D cl tys s) (hP : va_P D cl ws H) (q0 t0 : Nat) {cA : ClassId} {n : Nat} {g : Nat → Int} (ha : ws[q0]? = some (a, aI cA n g)) (ht : tys[t0]? = some (cA, .boolean)) {i : Int} (k : Nat) (hi : i = (k : Int)) (hk : k < n) (hn : n < 2147483648) (hdg : decode cc pc = .ok (.baload, 1)) (kk : W p l e R s m args below meth c H locs cells slots Q (F0 m (pc + 1) ls (.int (eI (g k)) :: rest))) : W p l e R s m args below meth c H locs cells slots Q (F0 m pc ls (.int (eI i) :: .ref a :: rest)) := va_zald hexec hb hK hP q0 t0 ha ht (eh_ix hi hk hn).1 hdg (by rw [(eh_ix hi hk hn).2]; exact kk)
theorem we_lald (hexec : p.tables.exec = Jvm.exec) (hb : c.code = cc) (hK : va_K D cl tys s) (hP : va_P D cl ws H) (q0 t0 : Nat) {cA : ClassId} {n : Nat} {g : Nat → Int} (ha : ws[q0]? = some (a, aL cA n g)) (ht : tys[t0]? = some (cA, .long)) {i : Int} (k : Nat) (hi : i = (k : Int)) (hk : k < n) (hn : n < 2147483648) (hdg : decode cc pc = .ok (.laload, 1)) (kk : W p l e R s m args below meth c H locs cells slots Q (F0 m (pc + 1) ls (.long (eL (g k)) :: rest))) : W p l e R s m args below meth c H locs cells slots Q (F0 m pc ls (.int (eI i) :: .ref a :: rest)) := va_lald hexec hb hK hP q0 t0 ha ht (eh_ix hi hk hn).1 hdg (by rw [(eh_ix hi hk hn).2]; exact kk)
theorem we_iast (hexec : p.tables.exec = Jvm.exec) (hb : c.code = cc) (hK : va_K D cl tys s) (hP : va_P D cl ws H) (hD : va_D A ws) (hS : va_S A H0 H locs) (q0 t0 : Nat) {cA : ClassId} {n : Nat} {g : Nat → Int} (ha : ws[q0]? = some (a, aI cA n g)) (ht : tys[t0]? = some (cA, .int)) {i z : Int} (k : Nat) (hi : i = (k : Int)) (hk : k < n) (hn : n < 2147483648)  (hdg : decode cc pc = .ok (.iastore, 1)) (kk : ∀ (H1 : Heap) (locs1 : List Loc), va_P D cl (ws.set q0 (a, aI cA n (eh_upd g k z))) H1 → va_D A (ws.set q0 (a, aI cA n (eh_upd g k z))) → va_S A H0 H1 locs1 → W p l e R s m args below meth c H1 locs1 cells slots Q (F0 m (pc + 1) ls rest)) : W p l e R s m args below meth c H locs cells slots Q (F0 m pc ls (.int (eI z) :: .int (eI i) :: .ref a :: rest)) := by
  refine va_iast hexec hb hK hP hD hS q0 t0 ha ht (eh_ix hi hk hn).1 hdg (fun H1 locs1 h1 h2 h3 => ?_)
  rw [(eh_ix hi hk hn).2, eh_updI] at h1 h2
  exact kk H1 locs1 h1 h2 h3
theorem we_last (hexec : p.tables.exec = Jvm.exec) (hb : c.code = cc) (hK : va_K D cl tys s) (hP : va_P D cl ws H) (hD : va_D A ws) (hS : va_S A H0 H locs) (q0 t0 : Nat) {cA : ClassId} {n : Nat} {g : Nat → Int} (ha : ws[q0]? = some (a, aL cA n g)) (ht : tys[t0]? = some (cA, .long)) {i z : Int} (k : Nat) (hi : i = (k : Int)) (hk : k < n) (hn : n < 2147483648)  (hdg : decode cc pc = .ok (.lastore, 1)) (kk : ∀ (H1 : Heap) (locs1 : List Loc), va_P D cl (ws.set q0 (a, aL cA n (eh_upd g k z))) H1 → va_D A (ws.set q0 (a, aL cA n (eh_upd g k z))) → va_S A H0 H1 locs1 → W p l e R s m args below meth c H1 locs1 cells slots Q (F0 m (pc + 1) ls rest)) : W p l e R s m args below meth c H locs cells slots Q (F0 m pc ls (.long (eL z) :: .int (eI i) :: .ref a :: rest)) := by
  refine va_last hexec hb hK hP hD hS q0 t0 ha ht (eh_ix hi hk hn).1 hdg (fun H1 locs1 h1 h2 h3 => ?_)
  rw [(eh_ix hi hk hn).2, eh_updL] at h1 h2
  exact kk H1 locs1 h1 h2 h3
end
