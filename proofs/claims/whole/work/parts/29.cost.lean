/-! spans of sources and sinks, ways, unit costs -/
section
variable {n : Nat} {sh ra : Int} {ln cb la : Nat → Int} {cu cl fu fl : Nat → Nat} {ys yl yp : Nat → Int}
theorem eh_so_b (h : eh_ES n sh ra ln cb la cu cl fu fl ys yl yp) {k : Nat} (hk : k < 6) : eh_so n ys k = -1 ∨ (0 ≤ eh_so n ys k ∧ eh_so n ys k + 1 < n) := by
  unfold eh_so
  by_cases h1 : k < 4
  · rw [if_pos h1]
    by_cases h2 : k + 1 < n
    · rw [if_pos h2]; omega
    · rw [if_neg h2]; omega
  · rw [if_neg h1]
    have := h.2.2.2.2.2.2.2 (k - 4) (by omega)
    omega
theorem eh_si_b (h : eh_ES n sh ra ln cb la cu cl fu fl ys yl yp) {k : Nat} (_hk : k < 5) : eh_si n ys k = -1 ∨ (0 ≤ eh_si n ys k ∧ eh_si n ys k + 1 < n) := by
  unfold eh_si
  by_cases h1 : k < 4
  · rw [if_pos h1]
    by_cases h2 : k + 1 < n
    · rw [if_pos h2]; omega
    · rw [if_neg h2]; omega
  · rw [if_neg h1]
    have := h.2.2.2.2.2.2.2 2 (by omega)
    omega
theorem eh_wy2_b (h : eh_ES n sh ra ln cb la cu cl fu fl ys yl yp) (lo j : Nat) (hj : lo + j + 1 < n ∨ j = 0) : 0 ≤ eh_wy2 ln lo j ∧ eh_wy2 ln lo j ≤ 200 * j := by
  induction j with
  | zero => exact ⟨Int.le_refl _, by show (0 : Int) ≤ 200 * 0; omega⟩
  | succ j ih =>
    have h1 := ih (by omega)
    have h2 := h.2.2.2.1 (lo + j) (by omega)
    have h3 := h.2.2.2.1 (lo + j + 1) (by omega)
    show 0 ≤ eh_wy2 ln lo j + (ln (lo + j) + ln (lo + j + 1)) ∧ eh_wy2 ln lo j + (ln (lo + j) + ln (lo + j + 1)) ≤ 200 * ((j + 1 : Nat) : Int)
    omega
end
theorem eh_wy2_e (ln : Nat → Int) (lo j : Nat) : eh_wy2 ln lo (j + 1) = ln lo + ln (lo + j + 1) + 2 * eh_sm (fun k => ln (lo + 1 + k)) j := by
  induction j with
  | zero => show 0 + (ln lo + ln (lo + 1)) = ln lo + ln (lo + 0 + 1) + 2 * 0; simp
  | succ j ih =>
    show eh_wy2 ln lo (j + 1) + (ln (lo + (j + 1)) + ln (lo + (j + 1) + 1)) = ln lo + ln (lo + (j + 1) + 1) + 2 * (eh_sm (fun k => ln (lo + 1 + k)) j + ln (lo + 1 + j))
    rw [ih, show lo + 1 + j = lo + j + 1 by omega, show lo + (j + 1) = lo + j + 1 by omega]
    omega
section
variable {n : Nat} {ra : Int} {ln cb ys yp : Nat → Int} {s t : Nat}
theorem eh_ku_1 (h : eh_so n ys s < 0 ∨ eh_si n ys t < 0 ∨ (4 ≤ s ∧ t = 4)) : eh_ku n ra ln cb ys yp s t = -1 := by unfold eh_ku; rw [if_pos h]
theorem eh_ku_2 {f g : Nat} (hf : eh_so n ys s = (f : Int)) (hg : eh_si n ys t = (g : Int)) (h4 : ¬ (4 ≤ s ∧ t = 4)) :
    eh_ku n ra ln cb ys yp s t = if eh_opb cb (min f g) (max f g - min f g) = false then -1 else ra * eh_wy2 ln (min f g) (max f g - min f g) + (if 4 ≤ s then yp (s - 4) else if t = 4 then yp 2 else 0) := by
  unfold eh_ku
  rw [if_neg (by omega), hf, hg, Int.toNat_natCast, Int.toNat_natCast]
end
theorem eh_ku_b {n : Nat} {sh ra : Int} {ln cb la : Nat → Int} {cu cl fu fl : Nat → Nat} {ys yl yp : Nat → Int} (h : eh_ES n sh ra ln cb la cu cl fu fl ys yl yp) {s t : Nat} (hs : s < 6) (ht : t < 5) :
    -1 ≤ eh_ku n ra ln cb ys yp s t ∧ eh_ku n ra ln cb ys yp s t ≤ 100000 := by
  by_cases h1 : eh_so n ys s < 0 ∨ eh_si n ys t < 0 ∨ (4 ≤ s ∧ t = 4)
  · rw [eh_ku_1 h1]; omega
  · have a1 := eh_so_b h hs
    have a2 := eh_si_b h ht
    have hn := h.1
    obtain ⟨f, hf⟩ : ∃ f : Nat, eh_so n ys s = (f : Int) := Int.eq_ofNat_of_zero_le (by omega)
    obtain ⟨g, hg⟩ : ∃ g : Nat, eh_si n ys t = (g : Int) := Int.eq_ofNat_of_zero_le (by omega)
    rw [eh_ku_2 hf hg (by omega)]
    by_cases h2 : eh_opb cb (min f g) (max f g - min f g) = false
    · rw [if_pos h2]; omega
    · rw [if_neg h2]
      have hb := eh_wy2_b h (min f g) (max f g - min f g) (by omega)
      have hr := h.2.2.1
      have hm : ra * eh_wy2 ln (min f g) (max f g - min f g) ≤ 100 * 800 := Int.mul_le_mul (by omega) (by omega) (by omega) (by omega)
      have hm0 : 0 ≤ ra * eh_wy2 ln (min f g) (max f g - min f g) := Int.mul_nonneg (by omega) (by omega)
      have hp : ∀ i, i < 3 → 0 ≤ yp i ∧ yp i ≤ 1000 := fun i hi => by have := h.2.2.2.2.2.2.2 i hi; omega
      by_cases h3 : 4 ≤ s
      · rw [if_pos h3]; have := hp (s - 4) (by omega); omega
      · rw [if_neg h3]
        by_cases h4 : t = 4
        · rw [if_pos h4]; have := hp 2 (by omega); omega
        · rw [if_neg h4]; omega
