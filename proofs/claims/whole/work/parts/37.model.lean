/-! the reference: its own way to the areas -/
def eh_ap (y z : Int) : Int := if y = z then 1 else if z < y then y - z else z - y
def eh_ab (y z w : Int) : Int := if max y z ≤ 0 then 0 else if 0 ≤ min y z then w * (max y z + min y z) * eh_ap y z else w * max y z * max y z
def eh_anm (a b c v w : Int) : Int := eh_hn a b v * eh_hd2 b c + eh_hn b c w * eh_hd2 a b
def eh_adm (a b c : Int) : Int := eh_hd2 a b * eh_hd2 b c
theorem eh_ap_b {y z : Int} (hy : -100 ≤ y ∧ y ≤ 100) (hz : -100 ≤ z ∧ z ≤ 100) : 1 ≤ eh_ap y z ∧ eh_ap y z ≤ 200 := by
  unfold eh_ap
  split
  · omega
  · split <;> omega
theorem eh_ab_h (y z w : Int) : eh_ab y z w * eh_hd2 y z = eh_hn y z w * eh_ap y z := by
  unfold eh_ab eh_hd2 eh_hn
  by_cases h1 : max y z ≤ 0
  · rw [if_pos h1, if_neg (by omega), if_neg (by omega), if_neg (by omega), if_neg (by omega)]; simp
  · rw [if_neg h1]
    by_cases h2 : 0 ≤ min y z
    · rw [if_pos h2, if_pos ⟨by omega, h2⟩, if_pos ⟨by omega, h2⟩, Int.mul_one, Int.mul_comm w]
    · rw [if_neg h2, if_neg (by omega), if_pos (by omega), if_neg (by omega), if_pos (by omega)]
      have e : eh_ap y z = max y z - min y z := by
        unfold eh_ap
        rw [if_neg (by omega)]
        split <;> omega
      rw [e]
      congr 1
      rw [Int.mul_assoc, Int.mul_comm w]
theorem eh_ab_b {y z w : Int} (hy : -100 ≤ y ∧ y ≤ 100) (hz : -100 ≤ z ∧ z ≤ 100) (hw : 1 ≤ w ∧ w ≤ 50) : 0 ≤ eh_ab y z w ∧ eh_ab y z w ≤ 2000000 := by
  have ha := eh_ap_b hy hz
  unfold eh_ab
  by_cases h1 : max y z ≤ 0
  · rw [if_pos h1]; omega
  · rw [if_neg h1]
    by_cases h2 : 0 ≤ min y z
    · rw [if_pos h2]
      have q1 : w * (max y z + min y z) ≤ 50 * 200 := Int.mul_le_mul (by omega) (by omega) (by omega) (by omega)
      have q0 : 0 ≤ w * (max y z + min y z) := Int.mul_nonneg (by omega) (by omega)
      have q2 : w * (max y z + min y z) * eh_ap y z ≤ 10000 * 200 := Int.mul_le_mul (by omega) (by omega) (by omega) (by omega)
      have q3 : 0 ≤ w * (max y z + min y z) * eh_ap y z := Int.mul_nonneg q0 (by omega)
      omega
    · rw [if_neg h2]
      have q1 : w * max y z ≤ 50 * 100 := Int.mul_le_mul (by omega) (by omega) (by omega) (by omega)
      have q0 : 0 ≤ w * max y z := Int.mul_nonneg (by omega) (by omega)
      have q2 : w * max y z * max y z ≤ 5000 * 100 := Int.mul_le_mul (by omega) (by omega) (by omega) (by omega)
      have q3 : 0 ≤ w * max y z * max y z := Int.mul_nonneg q0 (by omega)
      omega
theorem eh_ring1 {A1 A2 P1 P2 H1 H2 n1 n2 : Int} (h1 : A1 * H1 = n1 * P1) (h2 : A2 * H2 = n2 * P2) : (A1 * P2 + A2 * P1) * (H1 * H2) = (n1 * H2 + n2 * H1) * (P1 * P2) := by
  have e1 : A1 * P2 * (H1 * H2) = (A1 * H1) * (P2 * H2) := by rw [Int.mul_assoc, Int.mul_assoc, Int.mul_left_comm P2]
  have e2 : A2 * P1 * (H1 * H2) = (A2 * H2) * (P1 * H1) := by rw [Int.mul_assoc, Int.mul_assoc, Int.mul_comm H1 H2, Int.mul_left_comm P1]
  have e3 : n1 * H2 * (P1 * P2) = (n1 * P1) * (P2 * H2) := by rw [Int.mul_assoc, Int.mul_assoc, Int.mul_left_comm H2, Int.mul_comm H2]
  have e4 : n2 * H1 * (P1 * P2) = (n2 * P2) * (P1 * H1) := by rw [Int.mul_assoc, Int.mul_assoc, Int.mul_comm P1 P2, Int.mul_left_comm H1, Int.mul_comm H1]
  rw [Int.add_mul, Int.add_mul, e1, e2, e3, e4, h1, h2]
theorem eh_ref_fr {a b c v w : Int} (ha : -100 ≤ a ∧ a ≤ 100) (hb : -100 ≤ b ∧ b ≤ 100) (hc : -100 ≤ c ∧ c ≤ 100) (hv : 1 ≤ v ∧ v ≤ 50) (hw : 1 ≤ w ∧ w ≤ 50) :
    (eh_ab a b v * eh_ap b c + eh_ab b c w * eh_ap a b) * eh_adm a b c = eh_anm a b c v w * (eh_ap a b * eh_ap b c) ∧
    0 ≤ eh_ab a b v * eh_ap b c + eh_ab b c w * eh_ap a b ∧ eh_ab a b v * eh_ap b c + eh_ab b c w * eh_ap a b ≤ 800000000 ∧
    0 < eh_ap a b * eh_ap b c ∧ eh_ap a b * eh_ap b c ≤ 40000 ∧ 0 < eh_adm a b c := by
  have h1 := eh_ab_b ha hb hv
  have h2 := eh_ab_b hb hc hw
  have p1 := eh_ap_b ha hb
  have p2 := eh_ap_b hb hc
  have d1 := (eh_h_b ha hb hv).2.2
  have d2 := (eh_h_b hb hc hw).2.2
  have q1 : eh_ab a b v * eh_ap b c ≤ 2000000 * 200 := Int.mul_le_mul (by omega) (by omega) (by omega) (by omega)
  have q2 : eh_ab b c w * eh_ap a b ≤ 2000000 * 200 := Int.mul_le_mul (by omega) (by omega) (by omega) (by omega)
  have z1 : 0 ≤ eh_ab a b v * eh_ap b c := Int.mul_nonneg (by omega) (by omega)
  have z2 : 0 ≤ eh_ab b c w * eh_ap a b := Int.mul_nonneg (by omega) (by omega)
  have q3 : eh_ap a b * eh_ap b c ≤ 200 * 200 := Int.mul_le_mul (by omega) (by omega) (by omega) (by omega)
  refine ⟨eh_ring1 (eh_ab_h a b v) (eh_ab_h b c w), by omega, by omega, Int.mul_pos (by omega) (by omega), by omega, Int.mul_pos (by omega) (by omega)⟩

/-- the reference's state beside the road's: sections sc, yards th pl lo pr -/
def eh_MS (n : Nat) (sh ra : Int) (sc ln cb th pl lo pr la : Nat → Int) (cu cl fu fl : Nat → Nat) (ys yl yp : Nat → Int) : Prop :=
  eh_ES n sh ra ln cb la cu cl fu fl ys yl yp ∧
  (∀ i, i < 3 → (th i = 1 ∧ ys i = pl i ∧ yl i = lo i ∧ yp i = pr i ∧ 0 ≤ ys i) ∨ (th i = 0 ∧ ys i = -1 ∧ yl i = 0 ∧ yp i = 0)) ∧
  (∀ i, i < n → (-100 ≤ sc (5 * i) ∧ sc (5 * i) ≤ 100) ∧ (-100 ≤ sc (5 * i + 1) ∧ sc (5 * i + 1) ≤ 100) ∧ (-100 ≤ sc (5 * i + 2) ∧ sc (5 * i + 2) ≤ 100) ∧ (1 ≤ sc (5 * i + 3) ∧ sc (5 * i + 3) ≤ 50) ∧ (1 ≤ sc (5 * i + 4) ∧ sc (5 * i + 4) ≤ 50) ∧
    eh_fr (cu i) (cl i) (eh_anm (sc (5 * i)) (sc (5 * i + 1)) (sc (5 * i + 2)) (sc (5 * i + 3)) (sc (5 * i + 4))) (eh_adm (sc (5 * i)) (sc (5 * i + 1)) (sc (5 * i + 2))) ∧
    eh_fr (fu i) (fl i) (eh_anm (-sc (5 * i)) (-sc (5 * i + 1)) (-sc (5 * i + 2)) (sc (5 * i + 3)) (sc (5 * i + 4))) (eh_adm (-sc (5 * i)) (-sc (5 * i + 1)) (-sc (5 * i + 2))))
theorem eh_ref_eq {a b c v w : Int} (ha : -100 ≤ a ∧ a ≤ 100) (hb : -100 ≤ b ∧ b ≤ 100) (hc : -100 ≤ c ∧ c ≤ 100) (hv : 1 ≤ v ∧ v ≤ 50) (hw : 1 ≤ w ∧ w ≤ 50)
    {u q nn dd : Nat} (h : eh_fr u q (eh_anm a b c v w) (eh_adm a b c)) (h1 : eh_ab a b v * eh_ap b c + eh_ab b c w * eh_ap a b = (nn : Int)) (h2 : eh_ap a b * eh_ap b c = (dd : Int)) :
    nn / Nat.gcd nn dd = u ∧ dd / Nat.gcd nn dd = q := by
  obtain ⟨r1, r2, r3, r4, r5, r6⟩ := eh_ref_fr ha hb hc hv hw
  rw [h1, h2] at r1
  rw [h2] at r4
  exact eh_fr_uniq (eh_fr_div (n := nn) (d := dd) (by omega)).1 h r4 r6 r1
/-- rounding half up, two ways -/
theorem eh_half {X V : Int} (hX : 0 ≤ X) (hV : 0 < V) : (if 2 * (X % (2 * V)) < 2 * V then X / (2 * V) else X / (2 * V) + 1) = (X + V) / (2 * V) := by
  have h1 := Int.emod_nonneg X (show (2 * V) ≠ 0 by omega)
  have h2 := Int.emod_lt_of_pos X (show 0 < 2 * V by omega)
  have h3 := Int.emod_add_mul_ediv X (2 * V)
  generalize hr : X % (2 * V) = r at *
  generalize hq : X / (2 * V) = q at *
  have e : X + V = (r + V) + (2 * V) * q := by omega
  rw [e, Int.add_mul_ediv_left _ _ (show (2 * V) ≠ 0 by omega)]
  by_cases h : 2 * r < 2 * V
  · rw [if_pos h, Int.ediv_eq_zero_of_lt (by omega) (by omega)]; omega
  · rw [if_neg h]
    have : (r + V) / (2 * V) = 1 := by
      have z : r + V = (r - V) + (2 * V) * 1 := by omega
      rw [z, Int.add_mul_ediv_left _ _ (show (2 * V) ≠ 0 by omega), Int.ediv_eq_zero_of_lt (by omega) (by omega)]
      omega
    rw [this]; omega
