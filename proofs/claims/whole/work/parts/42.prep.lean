/-! the reference's plan: what it begins with -/
def eh_pA (n : Nat) (sh : Int) (ln : Nat → Int) (cu cl : Nat → Nat) (yl : Nat → Int) (so : Int) (k : Nat) : Int := eh_gv n sh ln cu cl yl k + (if ((k : Nat) : Int) = so then 1 else 0)
def eh_pB (n : Nat) (ln : Nat → Int) (fu fl : Nat → Nat) (yl : Nat → Int) (si : Int) (k : Nat) : Int := eh_wn n ln fu fl yl k + (if ((k : Nat) : Int) = si then 1 else 0)
section
variable {n : Nat} {sh ra : Int} {ln cb la : Nat → Int} {cu cl fu fl : Nat → Nat} {ys yl yp : Nat → Int}
theorem eh_gv_b (h : eh_ES n sh ra ln cb la cu cl fu fl ys yl yp) {k : Nat} (hk : k < 6) : 0 ≤ eh_gv n sh ln cu cl yl k ∧ eh_gv n sh ln cu cl yl k ≤ 100000000 := by
  unfold eh_gv
  by_cases h4 : k < 4
  · rw [if_pos h4]
    by_cases h5 : k + 1 < n
    · rw [if_pos h5]; have := eh_plc_b h h5; omega
    · rw [if_neg h5]; omega
  · rw [if_neg h4]; have := h.2.2.2.2.2.2.2 (k - 4) (by omega); omega
theorem eh_wn_b (h : eh_ES n sh ra ln cb la cu cl fu fl ys yl yp) {k : Nat} (hk : k < 5) : 0 ≤ eh_wn n ln fu fl yl k ∧ eh_wn n ln fu fl yl k ≤ 100000000 := by
  unfold eh_wn
  by_cases h4 : k < 4
  · rw [if_pos h4]
    by_cases h5 : k + 1 < n
    · rw [if_pos h5]; have := eh_fil_b h h5; omega
    · rw [if_neg h5]; omega
  · rw [if_neg h4]; have := h.2.2.2.2.2.2.2 2 (by omega); omega
theorem eh_pA_b (h : eh_ES n sh ra ln cb la cu cl fu fl ys yl yp) (so : Int) {k : Nat} (hk : k < 6) : 0 ≤ eh_pA n sh ln cu cl yl so k ∧ eh_pA n sh ln cu cl yl so k ≤ 100000001 := by
  have := eh_gv_b h hk
  unfold eh_pA
  split <;> omega
theorem eh_pB_b (h : eh_ES n sh ra ln cb la cu cl fu fl ys yl yp) (si : Int) {k : Nat} (hk : k < 5) : 0 ≤ eh_pB n ln fu fl yl si k ∧ eh_pB n ln fu fl yl si k ≤ 100000001 := by
  have := eh_wn_b h hk
  unfold eh_pB
  split <;> omega
end
theorem eh_sm_bd {f : Nat → Int} {n : Nat} {b : Int} (h : ∀ i, i < n → 0 ≤ f i ∧ f i ≤ b) : 0 ≤ eh_sm f n ∧ eh_sm f n ≤ b * (n : Int) := by
  induction n with
  | zero => exact ⟨Int.le_refl _, by show (0 : Int) ≤ b * 0; omega⟩
  | succ n ih =>
    have h1 := ih (fun i hi => h i (by omega))
    have h2 := h n (by omega)
    show 0 ≤ eh_sm f n + f n ∧ eh_sm f n + f n ≤ b * ((n + 1 : Nat) : Int)
    rw [show b * ((n + 1 : Nat) : Int) = b * (n : Int) + b by rw [Int.natCast_add, Int.mul_add]; show b * (n : Int) + b * 1 = _; omega]
    omega
/-- what is given and wanted, the spare source and the spare sink -/
def eh_pr (A B su de : Nat → Int) : Prop :=
  (∀ s, s < 6 → su s = A s) ∧ (∀ t, t < 5 → de t = B t) ∧
  su 6 = (if eh_sm A 6 - eh_sm B 5 < 0 then 2000000000 - (eh_sm A 6 - eh_sm B 5) else 2000000000) ∧
  de 5 = (if eh_sm A 6 - eh_sm B 5 < 0 then 2000000000 else 2000000000 + (eh_sm A 6 - eh_sm B 5))
theorem eh_pr_sum {A B su de : Nat → Int} (h : eh_pr A B su de) : eh_sm su 7 = eh_sm de 6 := by
  obtain ⟨h1, h2, h3, h4⟩ := h
  have e1 : eh_sm su 6 = eh_sm A 6 := eh_sm_congr h1
  have e2 : eh_sm de 5 = eh_sm B 5 := eh_sm_congr h2
  show eh_sm su 6 + su 6 = eh_sm de 5 + de 5
  rw [e1, e2, h3, h4]
  split <;> omega
