/-! what a plan costs stays within reach -/
theorem eh_tt_b {c y : Nat → Int} : ∀ {n : Nat}, (∀ m, m < n → 0 ≤ c m → c m ≤ 100000 ∧ 0 ≤ y m ∧ y m ≤ 1000000000) → 0 ≤ eh_tt c y n ∧ eh_tt c y n ≤ 100000000000000 * (n : Int) := by
  intro n
  induction n with
  | zero => intro _; exact ⟨Int.le_refl _, by simp [eh_tt, eh_sm]⟩
  | succ n ih =>
    intro h
    obtain ⟨i1, i2⟩ := ih (fun m hm => h m (by omega))
    have e : eh_tt c y (n + 1) = eh_tt c y n + (if 0 ≤ c n then c n * y n else 0) := rfl
    rw [e]
    by_cases hc : 0 ≤ c n
    · rw [if_pos hc]
      obtain ⟨a1, a2, a3⟩ := h n (by omega) hc
      have z1 : 0 ≤ c n * y n := Int.mul_nonneg hc a2
      have z2 : c n * y n ≤ 100000 * 1000000000 := Int.mul_le_mul a1 a3 a2 (by omega)
      omega
    · rw [if_neg hc]
      omega
theorem eh_PS_b {n : Nat} {sh ra : Int} {ln cb la : Nat → Int} {cu cl fu fl : Nat → Nat} {ys yl yp : Nat → Int} (hE : eh_ES n sh ra ln cb la cu cl fu fl ys yl yp)
    {K : Nat} {a b : Nat → Nat} {w cap x gT gH gR gW gA : Nat → Int} {pco : Int} (h : eh_PS (eh_kc n ra ln cb ys yp) (eh_gv n sh ln cu cl yl) (eh_wn n ln fu fl yl) K a b w cap x gT gH gR gW gA pco) : -1 ≤ pco ∧ pco ≤ 3000000000000000 := by
  have hcx := eh_PS_cx hE h
  obtain ⟨hn, hns, hgA, hpl, hbal, hend⟩ := h
  rcases hend with ⟨h1, -⟩ | ⟨h1, -⟩
  · omega
  · have z := eh_tt_b (c := eh_kc n ra ln cb ys yp) (y := eh_xu (eh_kc n ra ln cb ys yp) x) (n := 30) (fun m hm hc => by
      have hb := eh_ku_b hE (show m / 5 < 6 by omega) (show m % 5 < 5 by omega)
      have hv : eh_va (eh_kc n ra ln cb ys yp) m := fun _ => hc
      have hk : eh_io (eh_kc n ra ln cb ys yp) m < K := by rw [hn.1]; exact eh_io_lt (by omega) hv
      rw [eh_xu_va hv]
      have q := hcx.2.2.2.1 _ hk
      exact ⟨hb.2, q.1, by omega⟩)
    rw [← h1] at z
    omega
