/-! what a plan hauls stays within reach -/
theorem eh_PS_xb {n : Nat} {sh ra : Int} {ln cb la : Nat → Int} {cu cl fu fl : Nat → Nat} {ys yl yp : Nat → Int} (hE : eh_ES n sh ra ln cb la cu cl fu fl ys yl yp)
    {K : Nat} {a b : Nat → Nat} {w cap x gT gH gR gW gA : Nat → Int} {pco : Int} (h : eh_PS (eh_kc n ra ln cb ys yp) (eh_gv n sh ln cu cl yl) (eh_wn n ln fu fl yl) K a b w cap x gT gH gR gW gA pco) {m : Nat} (hm : m < 30) :
    0 ≤ eh_xu (eh_kc n ra ln cb ys yp) x m ∧ eh_xu (eh_kc n ra ln cb ys yp) x m ≤ 1000000000 := by
  have hcx := eh_PS_cx hE h
  have hn := h.1
  by_cases hc : 0 ≤ eh_kc n ra ln cb ys yp m
  · have hv : eh_va (eh_kc n ra ln cb ys yp) m := fun _ => hc
    have hk : eh_io (eh_kc n ra ln cb ys yp) m < K := by rw [hn.1]; exact eh_io_lt (by omega) hv
    rw [eh_xu_va hv]
    have q := hcx.2.2.2.1 _ hk
    exact ⟨q.1, by omega⟩
  · unfold eh_xu
    rw [if_pos ⟨hm, hc⟩]
    omega
