/-! fractions in least terms; Euclid's steps -/
/-- what holds in step i of the search for the greatest common divisor -/
def eh_eu (G i a b : Nat) : Prop := Nat.gcd a b = G ∧ a * b * 2 ^ i < 2 ^ 125 ∧ (i = 0 → a * b < 2 ^ 124) ∧ (0 < i → b ≤ a) ∧ i ≤ 125
theorem eh_eu_0 {a b : Nat} (ha : a < 2 ^ 62) (hb : b < 2 ^ 62) : eh_eu (Nat.gcd a b) 0 a b := by
  have h : a * b < 2 ^ 124 := by
    have h1 : a * b ≤ (2 ^ 62 - 1) * (2 ^ 62 - 1) := Nat.mul_le_mul (by omega) (by omega)
    have h2 : (2 ^ 62 - 1) * (2 ^ 62 - 1) < 2 ^ 124 := by decide
    omega
  refine ⟨rfl, ?_, fun _ => h, fun q => by omega, by omega⟩
  rw [Nat.pow_zero, Nat.mul_one]
  have : (2 : Nat) ^ 124 < 2 ^ 125 := by decide
  omega
theorem eh_eu_lt {G i a b : Nat} (h : eh_eu G i a b) (hb : 0 < b) : i < 125 := by
  obtain ⟨_, h2, h3, h4, _⟩ := h
  by_cases hi : 0 < i
  · have h5 := h4 hi
    have h6 : 1 ≤ a * b := Nat.mul_pos (by omega) hb
    have h7 : 2 ^ i ≤ a * b * 2 ^ i := Nat.le_mul_of_pos_left _ h6
    exact (Nat.pow_lt_pow_iff_right (by decide : 1 < 2)).mp (Nat.lt_of_le_of_lt h7 h2)
  · omega
theorem eh_eu_s {G i a b : Nat} (h : eh_eu G i a b) (hb : 0 < b) : eh_eu G (i + 1) b (a % b) := by
  have hlt := eh_eu_lt h hb
  obtain ⟨h1, h2, h3, h4, h5⟩ := h
  have hm : a % b < b := Nat.mod_lt a hb
  refine ⟨?_, ?_, fun q => by omega, fun _ => Nat.le_of_lt hm, by omega⟩
  · rw [← h1, Nat.gcd_comm a b, Nat.gcd_rec b a, Nat.gcd_comm]
  · have h6 : b * (a % b) * 2 ≤ a * b ∨ a < b := by
      by_cases q : b ≤ a
      · left
        have h7 : a % b * 2 ≤ a := by
          have h8 : a % b ≤ a - b := by
            have := Nat.mod_add_div a b
            have h9 : 1 ≤ a / b := (Nat.one_le_div_iff hb).mpr q
            have h10 : b ≤ b * (a / b) := Nat.le_mul_of_pos_right _ h9
            omega
          omega
        have h11 : b * (a % b * 2) ≤ b * a := Nat.mul_le_mul_left b h7
        rw [Nat.mul_assoc, Nat.mul_comm a b]
        exact h11
      · right; omega
    have e : (2 : Nat) ^ (i + 1) = 2 * 2 ^ i := by rw [Nat.pow_succ, Nat.mul_comm]
    rw [e, ← Nat.mul_assoc]
    rcases h6 with h6 | h6
    · exact Nat.lt_of_le_of_lt (Nat.mul_le_mul_right _ h6) h2
    · have hi : i = 0 := by
        by_cases q : 0 < i
        · have := h4 q; omega
        · omega
      subst hi
      have h7 := h3 rfl
      have h8 : a % b = a := Nat.mod_eq_of_lt h6
      rw [h8, Nat.mul_comm b a, Nat.pow_zero, Nat.mul_one]
      have : (2 : Nat) ^ 125 = 2 ^ 124 * 2 := by decide
      omega

/-- u / v is n / d in least terms -/
def eh_fr (u v : Nat) (n d : Int) : Prop := 0 < v ∧ Nat.gcd u v = 1 ∧ (u : Int) * d = n * v
theorem eh_fr_uniq {u v u' v' : Nat} {n d n' d' : Int} (h : eh_fr u v n d) (h' : eh_fr u' v' n' d') (hd : 0 < d) (hd' : 0 < d') (he : n * d' = n' * d) : u = u' ∧ v = v' := by
  obtain ⟨h1, h2, h3⟩ := h
  obtain ⟨k1, k2, k3⟩ := h'
  have e1 : (u : Int) * v' = u' * v := by
    have q1 : (u : Int) * v' * (d * d') = u' * v * (d * d') := by
      calc (u : Int) * v' * (d * d') = (u * d) * (v' * d') := by
            rw [Int.mul_assoc, Int.mul_assoc, Int.mul_left_comm (v' : Int) d d']
        _ = n * v * (v' * d') := by rw [h3]
        _ = (n * d') * (v * v') := by
            rw [Int.mul_assoc, Int.mul_assoc, Int.mul_comm (v' : Int) d', Int.mul_left_comm (v : Int) d' v']
        _ = (n' * d) * (v * v') := by rw [he]
        _ = (n' * v') * (v * d) := by
            rw [Int.mul_assoc, Int.mul_assoc, Int.mul_left_comm d (v : Int) v', Int.mul_comm d (v' : Int), Int.mul_left_comm (v : Int) (v' : Int) d]
        _ = (u' * d') * (v * d) := by rw [k3]
        _ = u' * v * (d * d') := by
            rw [Int.mul_assoc, Int.mul_assoc, Int.mul_left_comm d' (v : Int) d, Int.mul_comm d' d]
    exact Int.eq_of_mul_eq_mul_right (Int.ne_of_gt (Int.mul_pos hd hd')) q1
  have e2 : u * v' = u' * v := by exact_mod_cast e1
  have c1 : Nat.Coprime v u := by rw [Nat.coprime_comm]; exact h2
  have c2 : Nat.Coprime v' u' := by rw [Nat.coprime_comm]; exact k2
  have d1 : v ∣ v' := c1.dvd_of_dvd_mul_left (by rw [e2]; exact Nat.dvd_mul_left v u')
  have d2 : v' ∣ v := c2.dvd_of_dvd_mul_left (by rw [← e2]; exact Nat.dvd_mul_left v' u)
  have ev : v = v' := Nat.dvd_antisymm d1 d2
  subst ev
  exact ⟨Nat.eq_of_mul_eq_mul_right h1 e2, rfl⟩
/-- a fraction divided by the common divisor is in least terms -/
theorem eh_fr_div {n d : Nat} (hd : 0 < d) : eh_fr (n / Nat.gcd n d) (d / Nat.gcd n d) (n : Int) (d : Int) ∧ n / Nat.gcd n d ≤ n ∧ d / Nat.gcd n d ≤ d := by
  have hg : 0 < Nat.gcd n d := Nat.gcd_pos_of_pos_right n hd
  have h1 : Nat.gcd n d ∣ n := Nat.gcd_dvd_left n d
  have h2 : Nat.gcd n d ∣ d := Nat.gcd_dvd_right n d
  refine ⟨⟨Nat.div_pos (Nat.le_of_dvd hd h2) hg, ?_, ?_⟩, Nat.div_le_self _ _, Nat.div_le_self _ _⟩
  · exact Nat.coprime_div_gcd_div_gcd hg
  · have e : n / Nat.gcd n d * d = n * (d / Nat.gcd n d) := by
      rw [Nat.div_mul_right_comm h1, Nat.mul_div_assoc _ h2]
    exact_mod_cast e
/-- what one half of a section adds: numerator and denominator -/
def eh_hn (y z w : Int) : Int := if 0 < max y z ∧ 0 ≤ min y z then (max y z + min y z) * w else if 0 < max y z then max y z * max y z * w else 0
def eh_hd2 (y z : Int) : Int := if 0 < max y z ∧ 0 ≤ min y z then 1 else if 0 < max y z then max y z - min y z else 1
theorem eh_h_b {y z w : Int} (hy : -100 ≤ y ∧ y ≤ 100) (hz : -100 ≤ z ∧ z ≤ 100) (hw : 1 ≤ w ∧ w ≤ 50) : 0 ≤ eh_hn y z w ∧ eh_hn y z w ≤ 500000 ∧ 1 ≤ eh_hd2 y z ∧ eh_hd2 y z ≤ 200 := by
  unfold eh_hn eh_hd2
  by_cases h1 : 0 < max y z ∧ 0 ≤ min y z
  · rw [if_pos h1, if_pos h1]
    have q : (max y z + min y z) * w ≤ 200 * 50 := Int.mul_le_mul (by omega) (by omega) (by omega) (by omega)
    have q2 : 0 ≤ (max y z + min y z) * w := Int.mul_nonneg (by omega) (by omega)
    omega
  · rw [if_neg h1, if_neg h1]
    by_cases h2 : 0 < max y z
    · rw [if_pos h2, if_pos h2]
      have q1 : max y z * max y z ≤ 100 * 100 := Int.mul_le_mul (by omega) (by omega) (by omega) (by omega)
      have q0 : 0 ≤ max y z * max y z := Int.mul_nonneg (by omega) (by omega)
      have q : max y z * max y z * w ≤ 10000 * 50 := Int.mul_le_mul (by omega) (by omega) (by omega) (by omega)
      have q2 : 0 ≤ max y z * max y z * w := Int.mul_nonneg q0 (by omega)
      omega
    · rw [if_neg h2, if_neg h2]; omega
