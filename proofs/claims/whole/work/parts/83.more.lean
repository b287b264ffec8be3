/-! one litre more: the lightest way's weight tells what it costs -/
theorem eh_ws_ch (w : Nat → Int) (K : Nat) : ∀ {L : List Nat}, (∀ e, e ∈ L → e < 2 * K) → eh_ws (eh_wt w) L = eh_sm (fun k => w k * eh_ch L k) K := by
  intro L
  induction L with
  | nil =>
    intro _
    show (0 : Int) = _
    rw [eh_sm_zero (fun i _ => by show w i * 0 = 0; exact Int.mul_zero _)]
  | cons e L ih =>
    intro h
    have he := h e List.mem_cons_self
    show eh_wt w e + eh_ws (eh_wt w) L = eh_sm (fun k => w k * ((if e / 2 = k then eh_sg e else 0) + eh_ch L k)) K
    rw [ih (fun e' h' => h e' (List.mem_cons_of_mem _ h'))]
    have e1 : eh_sm (fun k => w k * ((if e / 2 = k then eh_sg e else 0) + eh_ch L k)) K = eh_sm (fun k => w k * (if e / 2 = k then eh_sg e else 0) + w k * eh_ch L k) K := eh_sm_congr (fun i _ => Int.mul_add _ _ _)
    rw [e1, eh_sm_add]
    have e2 : eh_sm (fun k => w k * (if e / 2 = k then eh_sg e else 0)) K = w (e / 2) * eh_sg e := by
      rw [eh_sm_one (k := e / 2) (by omega) (fun i _ hi => by
        show w i * (if e / 2 = i then eh_sg e else 0) = 0
        rw [if_neg (fun z => hi z.symm), Int.mul_zero])]
      show w (e / 2) * (if e / 2 = e / 2 then eh_sg e else 0) = _
      rw [if_pos rfl]
    rw [e2]
    have e3 : eh_wt w e = w (e / 2) * eh_sg e := by
      unfold eh_wt eh_sg
      by_cases z : e % 2 = 0
      · rw [if_pos z, if_pos z, Int.mul_one]
      · rw [if_neg z, if_neg z, Int.mul_neg, Int.mul_one]
    rw [e3]
theorem eh_ch_ab (K : Nat) : ∀ (L : List Nat), eh_sm (fun k => ((eh_ch L k).natAbs : Int)) K ≤ (L.length : Int) := by
  intro L
  induction L with
  | nil =>
    rw [eh_sm_zero (fun i _ => by show (((0 : Int).natAbs : Nat) : Int) = 0; rfl)]
    exact Int.le_refl _
  | cons e L ih =>
    have h1 : eh_sm (fun k => ((eh_ch (e :: L) k).natAbs : Int)) K ≤ eh_sm (fun k => (if e / 2 = k then (1 : Int) else 0) + ((eh_ch L k).natAbs : Int)) K := by
      apply eh_sm_le
      intro k _
      show (((if e / 2 = k then eh_sg e else 0) + eh_ch L k).natAbs : Int) ≤ _
      by_cases z : e / 2 = k
      · rw [if_pos z, if_pos z]
        unfold eh_sg
        split <;> omega
      · rw [if_neg z, if_neg z]
        omega
    rw [eh_sm_add] at h1
    have h2 : eh_sm (fun k => if e / 2 = k then (1 : Int) else 0) K ≤ 1 := by
      by_cases hk : e / 2 < K
      · rw [eh_sm_one (k := e / 2) hk (fun i _ hi => if_neg (fun z => hi z.symm))]
        rw [if_pos rfl]
        exact Int.le_refl _
      · rw [eh_sm_zero (fun i hi => if_neg (by omega))]
        omega
    have h3 : ((e :: L).length : Int) = (L.length : Int) + 1 := by simp
    omega
theorem eh_ch_1 {L : List Nat} (h : L.Nodup) (k : Nat) : -1 ≤ eh_ch L k ∧ eh_ch L k ≤ 1 := by
  rw [eh_ch_count, List.Nodup.count h, List.Nodup.count h]
  constructor <;> split <;> split <;> omega
theorem eh_pw_b {z : Nat → Int} : ∀ {n : Nat}, n ≤ 30 → (∀ k, k < n → -1 ≤ z k ∧ z k ≤ 1) → -(2 ^ n : Int) < eh_sm (fun k => eh_pw k * z k) n ∧ eh_sm (fun k => eh_pw k * z k) n < 2 ^ n := by
  intro n
  induction n with
  | zero =>
    intro _ _
    have e : eh_sm (fun k => eh_pw k * z k) 0 = 0 := rfl
    rw [e]
    exact ⟨by decide, by decide⟩
  | succ n ih =>
    intro hn h
    obtain ⟨i1, i2⟩ := ih (by omega) (fun k hk => h k (by omega))
    have e : eh_sm (fun k => eh_pw k * z k) (n + 1) = eh_sm (fun k => eh_pw k * z k) n + eh_pw n * z n := rfl
    have e2 : eh_pw n = 2 ^ n := by unfold eh_pw; rw [if_pos (by omega)]
    have e3 : (2 : Int) ^ (n + 1) = 2 ^ n * 2 := Int.pow_succ _ _
    rw [e, e2, e3]
    obtain ⟨z1, z2⟩ := h n (by omega)
    generalize (2 : Int) ^ n = P at *
    generalize eh_sm (fun k => eh_pw k * z k) n = Q at *
    rcases (show z n = -1 ∨ z n = 0 ∨ z n = 1 by omega) with q | q | q
    · rw [q]; constructor <;> omega
    · rw [q]; constructor <;> omega
    · rw [q]; constructor <;> omega
theorem eh_cz_b {c z : Nat → Int} : ∀ {n : Nat}, (∀ k, k < n → c k ≤ 100000 ∧ -1 ≤ c k) → -(100000 * eh_sm (fun k => ((z k).natAbs : Int)) n) ≤ eh_sm (fun k => c k * z k) n ∧ eh_sm (fun k => c k * z k) n ≤ 100000 * eh_sm (fun k => ((z k).natAbs : Int)) n := by
  intro n
  induction n with
  | zero =>
    intro _
    have e : eh_sm (fun k => c k * z k) 0 = 0 := rfl
    have e2 : eh_sm (fun k => ((z k).natAbs : Int)) 0 = 0 := rfl
    rw [e, e2]
    exact ⟨by decide, by decide⟩
  | succ n ih =>
    intro h
    obtain ⟨i1, i2⟩ := ih (fun k hk => h k (by omega))
    obtain ⟨c1, c2⟩ := h n (by omega)
    have e : eh_sm (fun k => c k * z k) (n + 1) = eh_sm (fun k => c k * z k) n + c n * z n := rfl
    have e2 : eh_sm (fun k => ((z k).natAbs : Int)) (n + 1) = eh_sm (fun k => ((z k).natAbs : Int)) n + ((z n).natAbs : Int) := rfl
    rw [e, e2]
    have hb : -(100000 * ((z n).natAbs : Int)) ≤ c n * z n ∧ c n * z n ≤ 100000 * ((z n).natAbs : Int) := by
      rcases Int.natAbs_eq (z n) with q | q
      · have q0 : (0 : Int) ≤ ((z n).natAbs : Int) := by omega
        have t1 : c n * ((z n).natAbs : Int) ≤ 100000 * ((z n).natAbs : Int) := Int.mul_le_mul_of_nonneg_right c1 q0
        have t2 : (-100000) * ((z n).natAbs : Int) ≤ c n * ((z n).natAbs : Int) := Int.mul_le_mul_of_nonneg_right (by omega) q0
        have t3 : c n * z n = c n * ((z n).natAbs : Int) := congrArg (c n * ·) q
        omega
      · have q0 : (0 : Int) ≤ ((z n).natAbs : Int) := by omega
        have t1 : c n * ((z n).natAbs : Int) ≤ 100000 * ((z n).natAbs : Int) := Int.mul_le_mul_of_nonneg_right c1 q0
        have t2 : (-100000) * ((z n).natAbs : Int) ≤ c n * ((z n).natAbs : Int) := Int.mul_le_mul_of_nonneg_right (by omega) q0
        have t3 : c n * z n = -(c n * ((z n).natAbs : Int)) := by
          have : c n * z n = c n * (-((z n).natAbs : Int)) := congrArg (c n * ·) q
          rw [this, Int.mul_neg]
        omega
    omega
/-- the weight of a way: costs, powers, shortages -/
theorem eh_way {c G W : Nat → Int} {K : Nat} {a b : Nat → Nat} {w cap x : Nat → Int} (hn : eh_net c G W K a b w cap) (hc : ∀ k, k < 30 → -1 ≤ c k ∧ c k ≤ 100000)
    {L : List Nat} (hL : ∀ e, e ∈ L → e < 2 * K) (hnd : L.Nodup) (hlen : L.length < 12) :
    ∃ P Sg : Int, -1073741824 < P ∧ P < 1073741824 ∧ eh_ws (eh_wt w) L = 4294967296 * eh_sm (fun k => c k * eh_xu c (eh_ch L) k) 30 + P + 18014398509481984 * Sg ∧
      Sg = eh_ch L 0 + eh_ch L 2 + eh_ch L 4 + eh_ch L 6 + (eh_ch L 1 + eh_ch L 3 + eh_ch L 5 + eh_ch L 7) ∧
      -1100000 ≤ eh_sm (fun k => c k * eh_xu c (eh_ch L) k) 30 ∧ eh_sm (fun k => c k * eh_xu c (eh_ch L) k) 30 ≤ 1100000 := by
  have hK := hn.1
  have hz1 : ∀ u, -1 ≤ eh_xu c (eh_ch L) u ∧ eh_xu c (eh_ch L) u ≤ 1 := fun u => by
    unfold eh_xu
    split
    · omega
    · exact eh_ch_1 hnd _
  refine ⟨eh_sm (fun k => eh_pw k * eh_xu c (eh_ch L) k) 30, _, ?_, ?_, ?_, rfl, ?_, ?_⟩
  · exact (eh_pw_b (n := 30) (Nat.le_refl _) (fun k _ => hz1 k)).1
  · exact (eh_pw_b (n := 30) (Nat.le_refl _) (fun k _ => hz1 k)).2
  · rw [eh_ws_ch w K hL, hK]
    have e1 : eh_sm (fun k => w k * eh_ch L k) (11 + eh_H c 30) = eh_sm (fun u => eh_uw c u * eh_xu c (eh_ch L) u) 41 := by
      apply eh_io_sum
      · intro u hu hv
        have q := (hn.2 u hu hv).2.2.1
        show w (eh_io c u) * eh_ch L (eh_io c u) = eh_uw c u * eh_xu c (eh_ch L) u
        rw [q, eh_xu_va hv]
      · intro u hu hcu
        show eh_uw c u * eh_xu c (eh_ch L) u = 0
        unfold eh_xu
        rw [if_pos ⟨hu, hcu⟩, Int.mul_zero]
    rw [e1]
    have e2 : eh_sm (fun u => eh_uw c u * eh_xu c (eh_ch L) u) 41 = eh_sm (fun u => eh_uw c u * eh_xu c (eh_ch L) u) 30 + eh_sm (fun i => eh_uw c (30 + i) * eh_xu c (eh_ch L) (30 + i)) 11 := eh_sm_split _ 30 11
    have e3 : eh_sm (fun u => eh_uw c u * eh_xu c (eh_ch L) u) 30 = 4294967296 * eh_sm (fun k => c k * eh_xu c (eh_ch L) k) 30 + eh_sm (fun k => eh_pw k * eh_xu c (eh_ch L) k) 30 := by
      rw [← eh_sm_mul, ← eh_sm_add]
      apply eh_sm_congr
      intro k hk
      show eh_uw c k * eh_xu c (eh_ch L) k = 4294967296 * (c k * eh_xu c (eh_ch L) k) + eh_pw k * eh_xu c (eh_ch L) k
      unfold eh_uw
      rw [if_pos hk, Int.add_mul, Int.mul_assoc]
    have e4 : eh_sm (fun i => eh_uw c (30 + i) * eh_xu c (eh_ch L) (30 + i)) 11 = 18014398509481984 * (eh_ch L 0 + eh_ch L 2 + eh_ch L 4 + eh_ch L 6 + (eh_ch L 1 + eh_ch L 3 + eh_ch L 5 + eh_ch L 7)) := by
      have s1 : eh_xu c (eh_ch L) (33 + 0) = eh_ch L 0 ∧ eh_xu c (eh_ch L) (37 + 0) = eh_ch L 1 := eh_xu_sh (c := c) (x := eh_ch L) (j := 0) (by omega)
      have s2 : eh_xu c (eh_ch L) (33 + 1) = eh_ch L 2 ∧ eh_xu c (eh_ch L) (37 + 1) = eh_ch L 3 := eh_xu_sh (c := c) (x := eh_ch L) (j := 1) (by omega)
      have s3 : eh_xu c (eh_ch L) (33 + 2) = eh_ch L 4 ∧ eh_xu c (eh_ch L) (37 + 2) = eh_ch L 5 := eh_xu_sh (c := c) (x := eh_ch L) (j := 2) (by omega)
      have s4 : eh_xu c (eh_ch L) (33 + 3) = eh_ch L 6 ∧ eh_xu c (eh_ch L) (37 + 3) = eh_ch L 7 := eh_xu_sh (c := c) (x := eh_ch L) (j := 3) (by omega)
      have u0 : ∀ i, i < 3 → eh_uw c (30 + i) = 0 := fun i hi => by unfold eh_uw; rw [if_neg (by omega), if_pos (by omega)]
      have u1 : ∀ i, 3 ≤ i → eh_uw c (30 + i) = 18014398509481984 := fun i hi => by unfold eh_uw; rw [if_neg (by omega), if_neg (by omega)]
      show 0 + eh_uw c (30 + 0) * eh_xu c (eh_ch L) (30 + 0) + eh_uw c (30 + 1) * eh_xu c (eh_ch L) (30 + 1) + eh_uw c (30 + 2) * eh_xu c (eh_ch L) (30 + 2) + eh_uw c (30 + 3) * eh_xu c (eh_ch L) (33 + 0) + eh_uw c (30 + 4) * eh_xu c (eh_ch L) (33 + 1) + eh_uw c (30 + 5) * eh_xu c (eh_ch L) (33 + 2) + eh_uw c (30 + 6) * eh_xu c (eh_ch L) (33 + 3) + eh_uw c (30 + 7) * eh_xu c (eh_ch L) (37 + 0) + eh_uw c (30 + 8) * eh_xu c (eh_ch L) (37 + 1) + eh_uw c (30 + 9) * eh_xu c (eh_ch L) (37 + 2) + eh_uw c (30 + 10) * eh_xu c (eh_ch L) (37 + 3) = _
      rw [u0 0 (by omega), u0 1 (by omega), u0 2 (by omega), u1 3 (by omega), u1 4 (by omega), u1 5 (by omega), u1 6 (by omega), u1 7 (by omega), u1 8 (by omega), u1 9 (by omega), u1 10 (by omega), s1.1, s1.2, s2.1, s2.2, s3.1, s3.2, s4.1, s4.2]
      simp only [Int.zero_mul]
      omega
    rw [e2, e3, e4]
  all_goals
    have h1 := eh_cz_b (c := c) (z := eh_xu c (eh_ch L)) (n := 30) (fun k hk => ⟨(hc k hk).2, (hc k hk).1⟩)
    have h2 : eh_sm (fun k => ((eh_xu c (eh_ch L) k).natAbs : Int)) 30 ≤ 11 := by
      have e1 : eh_sm (fun k => ((eh_ch L k).natAbs : Int)) (11 + eh_H c 30) = eh_sm (fun u => ((eh_xu c (eh_ch L) u).natAbs : Int)) 41 := by
        apply eh_io_sum
        · intro u hu hv
          show ((eh_ch L (eh_io c u)).natAbs : Int) = ((eh_xu c (eh_ch L) u).natAbs : Int)
          rw [eh_xu_va hv]
        · intro u hu hcu
          show ((eh_xu c (eh_ch L) u).natAbs : Int) = 0
          unfold eh_xu
          rw [if_pos ⟨hu, hcu⟩]
          rfl
      have e2 : eh_sm (fun u => ((eh_xu c (eh_ch L) u).natAbs : Int)) 41 = eh_sm (fun u => ((eh_xu c (eh_ch L) u).natAbs : Int)) 30 + eh_sm (fun i => ((eh_xu c (eh_ch L) (30 + i)).natAbs : Int)) 11 := eh_sm_split _ 30 11
      have e3 : 0 ≤ eh_sm (fun i => ((eh_xu c (eh_ch L) (30 + i)).natAbs : Int)) 11 := eh_sm_nonneg (fun i _ => by omega)
      have e4 := eh_ch_ab (11 + eh_H c 30) L
      omega
    omega
