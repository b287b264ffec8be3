/-! the reference's plan as it is kept: what is known of it, and what it costs -/
def eh_pf (c A B cs fw : Nat → Int) (ret : Int) : Prop :=
  (∀ y z, y < 7 → z < 6 → cs (6 * y + z) = eh_rc c y z) ∧
  ((ret = 1 ∧ eh_feas c A B (fun k => fw (6 * (k / 5) + k % 5)) ∧ eh_cert 1152921504606846976 c A B (fun k => fw (6 * (k / 5) + k % 5)) ∧ (∀ k, k < 42 → 0 ≤ fw k ∧ fw k ≤ 1000000000000)) ∨
    (ret = 0 ∧ ∀ y, ¬ eh_feas c A B y))
def eh_te (fw cs : Nat → Int) (k : Nat) : Int := if 0 ≤ cs (6 * (k / 5) + k % 5) then fw (6 * (k / 5) + k % 5) * cs (6 * (k / 5) + k % 5) else 0
def eh_tot (fw cs : Nat → Int) : Int := eh_sm (eh_te fw cs) 30
theorem eh_te_at (fw cs : Nat → Int) {y z : Nat} (hz : z < 5) : eh_te fw cs (5 * y + z) = if 0 ≤ cs (6 * y + z) then fw (6 * y + z) * cs (6 * y + z) else 0 := by
  unfold eh_te
  rw [show (5 * y + z) / 5 = y by omega, show (5 * y + z) % 5 = z by omega]
