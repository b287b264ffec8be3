/-! the road's plan and the reference's are the same -/
theorem eh_feas_congr {c A B A' B' y : Nat → Int} (hA : ∀ k, k < 6 → A k = A' k) (hB : ∀ k, k < 5 → B k = B' k) (h : eh_feas c A B y) : eh_feas c A' B' y := by
  obtain ⟨h1, h2, ⟨h3, h4⟩, h5, h6⟩ := h
  exact ⟨h1, fun s hs => by rw [← hA s (by omega)]; exact h2 s hs, ⟨by rw [← hA 4 (by omega)]; exact h3, by rw [← hA 5 (by omega)]; exact h4⟩, fun t ht => by rw [← hB t (by omega)]; exact h5 t ht, by rw [← hB 4 (by omega)]; exact h6⟩
theorem eh_cert_congr {M : Int} {c A B A' B' y : Nat → Int} (hA : ∀ k, k < 6 → A k = A' k) (hB : ∀ k, k < 5 → B k = B' k) (h : eh_cert M c A B y) : eh_cert M c A' B' y := by
  obtain ⟨p, h1, h2, h3, h4, h5⟩ := h
  rw [hA 4 (by omega)] at h3
  rw [hA 5 (by omega)] at h4
  rw [hB 4 (by omega)] at h5
  exact ⟨p, h1, h2, h3, h4, h5⟩
theorem eh_xu_sh {c x : Nat → Int} {j : Nat} (hj : j < 4) : eh_xu c x (33 + j) = x (2 * j) ∧ eh_xu c x (37 + j) = x (2 * j + 1) := by
  constructor
  · unfold eh_xu
    rw [if_neg (by omega)]
    unfold eh_io
    rw [if_neg (by omega), if_neg (by omega), if_pos (by omega), show 33 + j - 33 = j by omega]
  · unfold eh_xu
    rw [if_neg (by omega)]
    unfold eh_io
    rw [if_neg (by omega), if_neg (by omega), if_neg (by omega), show 37 + j - 37 = j by omega]
/-- a flow with a right potential: short, and there is no plan; not short, and it is the plan -/
theorem eh_flow {c G W : Nat → Int} {K : Nat} {a b : Nat → Nat} {w cap x p : Nat → Int} (hn : eh_net c G W K a b w cap) (hx : ∀ k, k < K → 0 ≤ x k ∧ x k ≤ cap k)
    (hp : eh_pot (2 * K) (eh_tl a b) (eh_hd a b) (eh_rm cap x) (eh_wt w) p) (hb : ∀ v, v < 12 → eh_bal K a b x v = eh_ug G W v) (hc : ∀ k, k < 30 → -1 ≤ c k ∧ c k ≤ 100000) (hG : ∀ s, s < 6 → G s < 1000000000) :
    ((∃ k, k < 8 ∧ 0 < x k) → ∀ y, ¬ eh_feas c G W y) ∧ ((∀ k, k < 8 → x k = 0) → eh_feas c G W (eh_xu c x) ∧ eh_cert 4294967296 c G W (eh_xu c x)) := by
  have hu := eh_net_ufl hn hx hp hb
  constructor
  · rintro ⟨k, hk, h0⟩ y
    rcases (show (∃ j, j < 4 ∧ k = 2 * j) ∨ (∃ j, j < 4 ∧ k = 2 * j + 1) by
      rcases Nat.mod_two_eq_zero_or_one k with z | z
      · exact Or.inl ⟨k / 2, by omega, by omega⟩
      · exact Or.inr ⟨k / 2, by omega, by omega⟩) with ⟨j, hj, rfl⟩ | ⟨j, hj, rfl⟩
    · exact eh_short hu hc (fun s hs => by have := hG s hs; omega) (k0 := 33 + j) (by omega) (by omega) (by rw [(eh_xu_sh hj).1]; exact h0) y
    · exact eh_short hu hc (fun s hs => by have := hG s hs; omega) (k0 := 37 + j) (by omega) (by omega) (by rw [(eh_xu_sh hj).2]; exact h0) y
  · intro h0
    refine eh_nshort hu (fun k h1 h2 => ?_) hG
    rcases (show (∃ j, j < 4 ∧ k = 33 + j) ∨ (∃ j, j < 4 ∧ k = 37 + j) by
      by_cases z : k < 37
      · exact Or.inl ⟨k - 33, by omega, by omega⟩
      · exact Or.inr ⟨k - 37, by omega, by omega⟩) with ⟨j, hj, rfl⟩ | ⟨j, hj, rfl⟩
    · rw [(eh_xu_sh hj).1]; exact h0 _ (by omega)
    · rw [(eh_xu_sh hj).2]; exact h0 _ (by omega)
theorem eh_tot_tt {c cs fw y : Nat → Int} (hcs : ∀ y z, y < 7 → z < 6 → cs (6 * y + z) = eh_rc c y z) (hy : ∀ k, k < 30 → y k = fw (6 * (k / 5) + k % 5)) : eh_tot fw cs = eh_tt c y 30 := by
  unfold eh_tot eh_tt
  apply eh_sm_congr
  intro k hk
  have e1 : cs (6 * (k / 5) + k % 5) = c k := by
    rw [hcs (k / 5) (k % 5) (by omega) (by omega)]
    unfold eh_rc
    rw [if_pos (by omega), show 5 * (k / 5) + k % 5 = k by omega]
  unfold eh_te
  rw [e1, hy k hk]
  by_cases h : 0 ≤ c k
  · rw [if_pos h, if_pos h, Int.mul_comm]
  · rw [if_neg h, if_neg h]
/-- the flow against the reference's end -/
theorem eh_sameP {c G W A B cs fw : Nat → Int} {ret : Int} {K : Nat} {a b : Nat → Nat} {w cap x p : Nat → Int} (hA : ∀ k, k < 6 → A k = G k) (hB : ∀ k, k < 5 → B k = W k) (hpf : eh_pf c A B cs fw ret)
    (hn : eh_net c G W K a b w cap) (hx : ∀ k, k < K → 0 ≤ x k ∧ x k ≤ cap k)
    (hp : eh_pot (2 * K) (eh_tl a b) (eh_hd a b) (eh_rm cap x) (eh_wt w) p) (hb : ∀ v, v < 12 → eh_bal K a b x v = eh_ug G W v) (hc : ∀ k, k < 30 → -1 ≤ c k ∧ c k ≤ 100000) (hG : ∀ s, s < 6 → G s < 1000000000) :
    ((∃ k, k < 8 ∧ 0 < x k) → ret = 0) ∧ ((∀ k, k < 8 → x k = 0) → ret = 1 ∧ (∀ k, k < 30 → eh_xu c x k = fw (6 * (k / 5) + k % 5)) ∧ eh_tot fw cs = eh_tt c (eh_xu c x) 30) := by
  obtain ⟨f1, f2⟩ := eh_flow hn hx hp hb hc hG
  obtain ⟨hcs, hend⟩ := hpf
  constructor
  · intro h
    rcases hend with ⟨-, h1, -⟩ | ⟨h1, -⟩
    · exact absurd (eh_feas_congr hA hB h1) (f1 h _)
    · exact h1
  · intro h
    obtain ⟨g1, g2⟩ := f2 h
    rcases hend with ⟨h1, h2, h3, -⟩ | ⟨-, h2⟩
    · have hy := eh_plan_uniq g1 (eh_feas_congr hA hB h2) g2 (eh_cert_congr hA hB h3) (by decide) (by decide)
      exact ⟨h1, hy, eh_tot_tt hcs hy⟩
    · exact absurd (eh_feas_congr (fun k hk => (hA k hk).symm) (fun k hk => (hB k hk).symm) g1) (h2 _)
section
variable {n : Nat} {sh ra : Int} {ln cb la : Nat → Int} {cu cl fu fl : Nat → Nat} {ys yl yp : Nat → Int}
theorem eh_pA_m (k : Nat) : eh_pA n sh ln cu cl yl (-1) k = eh_gv n sh ln cu cl yl k := by
  unfold eh_pA
  rw [if_neg (by omega)]
  omega
theorem eh_pB_m (k : Nat) : eh_pB n ln fu fl yl (-1) k = eh_wn n ln fu fl yl k := by
  unfold eh_pB
  rw [if_neg (by omega)]
  omega
/-- the plan of the road and the reference's, as both are kept -/
theorem eh_same (hE : eh_ES n sh ra ln cb la cu cl fu fl ys yl yp) {K : Nat} {a b : Nat → Nat} {w cap x gT gH gR gW gA : Nat → Int} {pco : Int}
    (h : eh_PS (eh_kc n ra ln cb ys yp) (eh_gv n sh ln cu cl yl) (eh_wn n ln fu fl yl) K a b w cap x gT gH gR gW gA pco) {cs fw : Nat → Int} {ret : Int}
    (hpf : eh_pf (eh_kc n ra ln cb ys yp) (eh_pA n sh ln cu cl yl (-1)) (eh_pB n ln fu fl yl (-1)) cs fw ret) :
    (pco = -1 ∧ ret = 0) ∨ (pco ≠ -1 ∧ ret = 1 ∧ (∀ k, k < 30 → eh_xu (eh_kc n ra ln cb ys yp) x k = fw (6 * (k / 5) + k % 5)) ∧ eh_tot fw cs = pco) := by
  have hcx := eh_PS_cx hE h
  have hpb := eh_PS_b hE h
  obtain ⟨hn, hns, hgA, hpl, hbal, hend⟩ := h
  obtain ⟨p, hp⟩ := hcx.2.2.2.2
  obtain ⟨s1, s2⟩ := eh_sameP (fun k _ => eh_pA_m k) (fun k _ => eh_pB_m k) hpf hn (fun k hk => ⟨(hcx.2.2.2.1 k hk).1, (hcx.2.2.2.1 k hk).2.1⟩) hp hbal (fun k hk => eh_ku_b hE (show k / 5 < 6 by omega) (show k % 5 < 5 by omega)) (fun s hs => by have := eh_gv_b hE hs; omega)
  rcases hend with ⟨h1, h2⟩ | ⟨h1, h2⟩
  · exact Or.inl ⟨h1, s1 h2⟩
  · obtain ⟨g1, g2, g3⟩ := s2 (fun k hk => by
      have z := hn.1
      have z2 := (hcx.2.2.2.1 k (by omega)).1
      have z3 := h2 k hk
      omega)
    refine Or.inr ⟨?_, g1, g2, by rw [g3, h1]⟩
    have z := eh_tt_b (c := eh_kc n ra ln cb ys yp) (y := eh_xu (eh_kc n ra ln cb ys yp) x) (n := 30) (fun m hm hc => by
      have hb := eh_ku_b hE (show m / 5 < 6 by omega) (show m % 5 < 5 by omega)
      have q := eh_PS_xb hE ⟨hn, hns, hgA, hpl, hbal, Or.inr ⟨h1, h2⟩⟩ hm
      exact ⟨hb.2, q.1, q.2⟩)
    rw [← h1] at z
    omega
end
