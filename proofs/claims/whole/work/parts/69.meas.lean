/-! a section's areas: two halves add up to the fraction of both -/
theorem eh_h_b2 {y z w : Int} (hy : -100 ≤ y ∧ y ≤ 100) (hz : -100 ≤ z ∧ z ≤ 100) (hw : 1 ≤ w ∧ w ≤ 50) : eh_hn y z w ≤ 10000 * eh_hd2 y z := by
  unfold eh_hn eh_hd2
  by_cases h1 : 0 < max y z ∧ 0 ≤ min y z
  · rw [if_pos h1, if_pos h1]
    have q : (max y z + min y z) * w ≤ 200 * 50 := Int.mul_le_mul (by omega) (by omega) (by omega) (by omega)
    omega
  · rw [if_neg h1, if_neg h1]
    by_cases h2 : 0 < max y z
    · rw [if_pos h2, if_pos h2]
      have q1 : max y z * max y z ≤ max y z * 100 := Int.mul_le_mul_of_nonneg_left (by omega) (by omega)
      have q0 : 0 ≤ max y z * max y z := Int.mul_nonneg (by omega) (by omega)
      have q : max y z * max y z * w ≤ (max y z * 100) * 50 := Int.mul_le_mul q1 (by omega) (by omega) (by omega)
      omega
    · rw [if_neg h2, if_neg h2]; omega
theorem eh_meas {a b c v w : Int} (ha : -100 ≤ a ∧ a ≤ 100) (hb : -100 ≤ b ∧ b ≤ 100) (hc : -100 ≤ c ∧ c ≤ 100) (hv : 1 ≤ v ∧ v ≤ 50) (hw : 1 ≤ w ∧ w ≤ 50) {q1 q2 r1 r2 : Nat}
    (h1 : eh_fr q1 q2 (((0 : Nat) : Int) * eh_hd2 a b + eh_hn a b v * ((1 : Nat) : Int)) (((1 : Nat) : Int) * eh_hd2 a b)) (hb1 : (q2 : Int) ≤ ((1 : Nat) : Int) * eh_hd2 a b)
    (h2 : eh_fr r1 r2 ((q1 : Int) * eh_hd2 b c + eh_hn b c w * q2) (q2 * eh_hd2 b c)) (hb2 : (r2 : Int) ≤ q2 * eh_hd2 b c) :
    eh_fr r1 r2 (eh_anm a b c v w) (eh_adm a b c) ∧ eh_FS r1 r2 := by
  obtain ⟨x1, x2, x3, x4⟩ := eh_h_b ha hb hv
  obtain ⟨y1, y2, y3, y4⟩ := eh_h_b hb hc hw
  have x5 := eh_h_b2 ha hb hv
  have y5 := eh_h_b2 hb hc hw
  obtain ⟨p1, p2, p3⟩ := h1
  obtain ⟨s1, s2, s3⟩ := h2
  have e1 : (q1 : Int) * eh_hd2 a b = eh_hn a b v * q2 := by
    have z : ((1 : Nat) : Int) * eh_hd2 a b = eh_hd2 a b := by simp
    have z2 : ((0 : Nat) : Int) * eh_hd2 a b + eh_hn a b v * ((1 : Nat) : Int) = eh_hn a b v := by simp
    rw [z, z2] at p3
    exact p3
  have hq2 : (0 : Int) < q2 := by exact_mod_cast p1
  have hr2 : (0 : Int) < r2 := by exact_mod_cast s1
  have hq200 : (q2 : Int) ≤ 200 := by
    have z : ((1 : Nat) : Int) * eh_hd2 a b = eh_hd2 a b := by simp
    rw [z] at hb1
    omega
  have e2 : (r1 : Int) * (eh_hd2 a b * eh_hd2 b c) = (eh_hn a b v * eh_hd2 b c + eh_hn b c w * eh_hd2 a b) * r2 := by
    apply Int.eq_of_mul_eq_mul_left (Int.ne_of_gt hq2)
    calc (q2 : Int) * (r1 * (eh_hd2 a b * eh_hd2 b c)) = (r1 * (q2 * eh_hd2 b c)) * eh_hd2 a b := by
          simp only [Int.mul_assoc, Int.mul_comm, Int.mul_left_comm]
      _ = (((q1 : Int) * eh_hd2 b c + eh_hn b c w * q2) * r2) * eh_hd2 a b := by rw [s3]
      _ = ((q1 * eh_hd2 a b) * eh_hd2 b c + eh_hn b c w * q2 * eh_hd2 a b) * r2 := by
          simp only [Int.add_mul, Int.mul_add, Int.mul_assoc, Int.mul_comm, Int.mul_left_comm]
      _ = ((eh_hn a b v * q2) * eh_hd2 b c + eh_hn b c w * q2 * eh_hd2 a b) * r2 := by rw [e1]
      _ = (q2 : Int) * ((eh_hn a b v * eh_hd2 b c + eh_hn b c w * eh_hd2 a b) * r2) := by
          simp only [Int.add_mul, Int.mul_add, Int.mul_assoc, Int.mul_comm, Int.mul_left_comm]
  refine ⟨⟨s1, s2, e2⟩, s1, ?_, ?_⟩
  · have z : (q2 : Int) * eh_hd2 b c ≤ 200 * 200 := Int.mul_le_mul hq200 y4 (by omega) (by omega)
    have z2 : (r2 : Int) ≤ 40000 := by omega
    omega
  · have hd : 0 < eh_hd2 a b * eh_hd2 b c := Int.mul_pos (by omega) (by omega)
    have z1 : eh_hn a b v * eh_hd2 b c ≤ (10000 * eh_hd2 a b) * eh_hd2 b c := Int.mul_le_mul_of_nonneg_right x5 (by omega)
    have z2 : eh_hn b c w * eh_hd2 a b ≤ (10000 * eh_hd2 b c) * eh_hd2 a b := Int.mul_le_mul_of_nonneg_right y5 (by omega)
    have z3 : (10000 * eh_hd2 a b) * eh_hd2 b c = 10000 * (eh_hd2 a b * eh_hd2 b c) := Int.mul_assoc _ _ _
    have z4 : (10000 * eh_hd2 b c) * eh_hd2 a b = 10000 * (eh_hd2 a b * eh_hd2 b c) := by rw [Int.mul_assoc, Int.mul_comm (eh_hd2 b c)]
    have z5 : eh_hn a b v * eh_hd2 b c + eh_hn b c w * eh_hd2 a b ≤ 20000 * (eh_hd2 a b * eh_hd2 b c) := by omega
    have z6 : (r1 : Int) * (eh_hd2 a b * eh_hd2 b c) ≤ (20000 * (eh_hd2 a b * eh_hd2 b c)) * r2 := by
      rw [e2]
      exact Int.mul_le_mul_of_nonneg_right z5 (by omega)
    have z7 : (20000 * (eh_hd2 a b * eh_hd2 b c)) * r2 = (20000 * (r2 : Int)) * (eh_hd2 a b * eh_hd2 b c) := by
      simp only [Int.mul_assoc, Int.mul_comm, Int.mul_left_comm]
    rw [z7] at z6
    have z8 : (r1 : Int) ≤ 20000 * r2 := Int.le_of_mul_le_mul_right z6 hd
    omega
/-- the widths: their quotient and rest, where they are right -/
theorem eh_td {w : Int} (hw : -2147483648 ≤ w ∧ w < 2147483648) (h : w < 0) : Int.tdiv w 100 ≤ 0 ∧ -21474837 ≤ Int.tdiv w 100 := by
  have e : Int.tdiv w 100 = -((-w) / 100) := by
    have z : Int.tdiv w 100 = Int.tdiv (-(-w)) 100 := by rw [Int.neg_neg]
    rw [z, Int.neg_tdiv, Int.tdiv_eq_ediv_of_nonneg (by omega)]
  omega
/-- the network of a plan stands within reach -/
theorem eh_PS_cx {n : Nat} {sh ra : Int} {ln cb la : Nat → Int} {cu cl fu fl : Nat → Nat} {ys yl yp : Nat → Int} (hE : eh_ES n sh ra ln cb la cu cl fu fl ys yl yp)
    {K : Nat} {a b : Nat → Nat} {w cap x gT gH gR gW gA : Nat → Int} {pco : Int} (h : eh_PS (eh_kc n ra ln cb ys yp) (eh_gv n sh ln cu cl yl) (eh_wn n ln fu fl yl) K a b w cap x gT gH gR gW gA pco) : eh_cx K a b w cap x := by
  obtain ⟨hn, hns, hgA, hpl, hbal, hend⟩ := h
  have g4 := eh_gv_b hE (k := 4) (by omega)
  have g5 := eh_gv_b hE (k := 5) (by omega)
  have w4 := eh_wn_b hE (k := 4) (by omega)
  exact eh_cx_of hn (fun k hk => eh_ku_b hE (show k / 5 < 6 by omega) (show k % 5 < 5 by omega)) (eh_net_cap hn (by omega) (by omega) (by omega)) hpl
