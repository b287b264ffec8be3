/-! one litre more: the road's answer is the reference's -/
theorem eh_tt_add {c x ch : Nat → Int} : eh_tt c (eh_xu c (fun k => x k + 1 * ch k)) 30 = eh_tt c (eh_xu c x) 30 + eh_sm (fun k => c k * eh_xu c ch k) 30 := by
  unfold eh_tt
  rw [← eh_sm_add]
  apply eh_sm_congr
  intro k hk
  by_cases h : 0 ≤ c k
  · have hv : eh_va c k := fun _ => h
    rw [if_pos h, if_pos h, eh_xu_va hv, eh_xu_va hv, eh_xu_va hv, Int.one_mul, Int.mul_add]
  · rw [if_neg h, if_neg h]
    have e : eh_xu c ch k = 0 := by unfold eh_xu; rw [if_pos ⟨hk, h⟩]
    rw [e, Int.mul_zero]
    rfl
section
variable {n : Nat} {sh ra : Int} {ln cb la : Nat → Int} {cu cl fu fl : Nat → Nat} {ys yl yp : Nat → Int}
set_option maxHeartbeats 1000000 in
theorem eh_moreP (hE : eh_ES n sh ra ln cb la cu cl fu fl ys yl yp) {K : Nat} {a b : Nat → Nat} {w cap x gT gH gR gW gA : Nat → Int} {pco : Int}
    (h : eh_PS (eh_kc n ra ln cb ys yp) (eh_gv n sh ln cu cl yl) (eh_wn n ln fu fl yl) K a b w cap x gT gH gR gW gA pco) (hpc : pco ≠ -1) {s t k : Nat} {so si : Int} (hk : k < 4)
    (hst : (s = k ∧ t = 11 ∧ so = (k : Int) ∧ si = -1) ∨ (s = 11 ∧ t = 6 + k ∧ so = -1 ∧ si = (k : Int))) {gD gE : Nat → Int} (hfE : eh_fE K a b w cap x s gD gE) {cs fw : Nat → Int} {ret : Int}
    (hpf : eh_pf (eh_kc n ra ln cb ys yp) (eh_pA n sh ln cu cl yl so) (eh_pB n ln fu fl yl si) cs fw ret) :
    (ret = 0 ∧ (if gD t < 9007199254740992 then (gD t + 2147483648) / 4294967296 else -1) = -1) ∨
    (ret = 1 ∧ (if gD t < 9007199254740992 then (gD t + 2147483648) / 4294967296 else -1) = eh_tot fw cs - pco) := by
  have hcx := eh_PS_cx hE h
  have hc : ∀ k, k < 30 → -1 ≤ eh_kc n ra ln cb ys yp k ∧ eh_kc n ra ln cb ys yp k ≤ 100000 := fun k hk => eh_ku_b hE (show k / 5 < 6 by omega) (show k % 5 < 5 by omega)
  have hgb : ∀ s, s < 6 → 0 ≤ eh_gv n sh ln cu cl yl s ∧ eh_gv n sh ln cu cl yl s ≤ 100000000 := fun s hs => eh_gv_b hE hs
  obtain ⟨hn, hns, hgA, hpl, hbal, hend⟩ := h
  generalize hcd : eh_kc n ra ln cb ys yp = c at *
  have hpc2 : pco = eh_tt c (eh_xu c x) 30 ∧ ∀ k, k < 8 → ¬ 0 < x k := by
    rcases hend with ⟨z, -⟩ | z
    · exact absurd z hpc
    · exact z
  obtain ⟨hpc3, hnsh⟩ := hpc2
  have hK := hn.1
  have hx0 : ∀ k, k < 8 → x k = 0 := fun k hk => by
    have z2 := (hcx.2.2.2.1 k (by omega)).1
    have z3 := hnsh k hk
    omega
  have hs12 : s < 12 ∧ t < 12 := by rcases hst with ⟨z1, z2, _, _⟩ | ⟨z1, z2, _, _⟩ <;> omega
  -- the edge of a shortage leads there
  have hway : ∃ e, e < 2 * K ∧ eh_tl a b e = s ∧ eh_hd a b e = t ∧ 0 < eh_rm cap x e := by
    rcases hst with ⟨rfl, rfl, -, -⟩ | ⟨rfl, rfl, -, -⟩
    · have hio : eh_io c (33 + s) = 2 * s := by unfold eh_io; rw [if_neg (by omega), if_neg (by omega), if_pos (by omega), show 33 + s - 33 = s by omega]
      obtain ⟨q1, q2, q3, q4⟩ := hn.2 (33 + s) (by omega) (fun z => by omega)
      rw [hio] at q1 q2 q4
      refine ⟨2 * (2 * s), by omega, ?_, ?_, ?_⟩
      · unfold eh_tl; rw [if_pos (by omega), show 2 * (2 * s) / 2 = 2 * s by omega, q1]; unfold eh_ua; rw [if_neg (by omega), if_neg (by omega), if_neg (by omega), if_pos (by omega)]; omega
      · unfold eh_hd; rw [if_pos (by omega), show 2 * (2 * s) / 2 = 2 * s by omega, q2]; unfold eh_ub; rw [if_neg (by omega), if_neg (by omega), if_pos (by omega)]
      · unfold eh_rm; rw [if_pos (by omega), show 2 * (2 * s) / 2 = 2 * s by omega, q4, hx0 (2 * s) (by omega)]; unfold eh_ucap; rw [if_neg (by omega), if_neg (by omega), if_neg (by omega)]; omega
    · have hio : eh_io c (37 + k) = 2 * k + 1 := by unfold eh_io; rw [if_neg (by omega), if_neg (by omega), if_neg (by omega), show 37 + k - 37 = k by omega]
      obtain ⟨q1, q2, q3, q4⟩ := hn.2 (37 + k) (by omega) (fun z => by omega)
      rw [hio] at q1 q2 q4
      refine ⟨2 * (2 * k + 1), by omega, ?_, ?_, ?_⟩
      · unfold eh_tl; rw [if_pos (by omega), show 2 * (2 * k + 1) / 2 = 2 * k + 1 by omega, q1]; unfold eh_ua; rw [if_neg (by omega), if_neg (by omega), if_neg (by omega), if_neg (by omega)]
      · unfold eh_hd; rw [if_pos (by omega), show 2 * (2 * k + 1) / 2 = 2 * k + 1 by omega, q2]; unfold eh_ub; rw [if_neg (by omega), if_neg (by omega), if_neg (by omega)]; omega
      · unfold eh_rm; rw [if_pos (by omega), show 2 * (2 * k + 1) / 2 = 2 * k + 1 by omega, q4, hx0 (2 * k + 1) (by omega)]; unfold eh_ucap; rw [if_neg (by omega), if_neg (by omega), if_neg (by omega)]; omega
  obtain ⟨d, et, k9, j9, bt, h1, hf, htr, hD, -⟩ := hfE
  obtain ⟨e0, q1, q2, q3, q4⟩ := hway
  have hF : eh_F = 4611686018427387904 := rfl
  have hds : d s = 0 := h1.1.1
  have hdt : d t < eh_F := by
    have z1 := hf e0 q1 q4 (by rw [q2, hds, hF]; decide)
    have z2 := (hcx.2.2.1 e0 q1).2
    rw [q2, q3, hds] at z1
    omega
  obtain ⟨L, hL⟩ := htr t hdt
  have hEt : ∀ v e, et v = some e → e < 2 * K ∧ eh_tl a b e < 12 := fun v e he => by
    have z := (h1.2.2.2.1 v e he).1
    exact ⟨z, (hcx.2.1 e z).1⟩
  have hlen := eh_tr_len (N := 12) (fun v e he => (hEt v e he).2) hs12.2 hL
  obtain ⟨t1, t2, t3⟩ := eh_tr_wk h1 hf hL
  rw [eh_ws_rev] at t2
  have hh : ∀ v e, et v = some e → eh_hd a b e = v := fun v e z => (h1.2.2.2.1 v e z).2.2.1
  have hnd : L.Nodup := eh_tr_nodup hh hL
  obtain ⟨p, hp⟩ := hcx.2.2.2.2
  obtain ⟨r1, ⟨p', hp', -, -⟩, r3, r4⟩ := eh_turn (st := 1) (fun k hk => ⟨(hcx.2.2.2.1 k hk).1, (hcx.2.2.2.1 k hk).2.1⟩) hp h1 hf (fun e he hd hr => by
      have z1 := eh_fE_up hcx hs12.1 h1 hf hd
      have z2 := (hcx.2.2.1 e he).2
      omega) (by rw [hF]; decide) hL (by omega) (fun e he => by have := (t3 e he).2.1; omega)
  obtain ⟨P, Sg, hP1, hP2, hws, hSg, hC1, hC2⟩ := eh_way (x := x) hn hc (L := L) (fun e he => (t3 e he).1) hnd hlen
  rw [t2] at hws
  -- the changed road
  have hn' : eh_net c (eh_pA n sh ln cu cl yl so) (eh_pB n ln fu fl yl si) K a b w cap := by
    refine ⟨hK, fun u hu hv => ?_⟩
    obtain ⟨z1, z2, z3, z4⟩ := hn.2 u hu hv
    refine ⟨z1, z2, z3, ?_⟩
    rw [z4]
    have s4 : eh_pA n sh ln cu cl yl so 4 = eh_gv n sh ln cu cl yl 4 := by unfold eh_pA; rw [if_neg (by rcases hst with ⟨_, _, z, _⟩ | ⟨_, _, z, _⟩ <;> omega)]; omega
    have s5 : eh_pA n sh ln cu cl yl so 5 = eh_gv n sh ln cu cl yl 5 := by unfold eh_pA; rw [if_neg (by rcases hst with ⟨_, _, z, _⟩ | ⟨_, _, z, _⟩ <;> omega)]; omega
    have w4 : eh_pB n ln fu fl yl si 4 = eh_wn n ln fu fl yl 4 := by unfold eh_pB; rw [if_neg (by rcases hst with ⟨_, _, _, z⟩ | ⟨_, _, _, z⟩ <;> omega)]; omega
    unfold eh_ucap
    by_cases a1 : u < 30
    · rw [if_pos a1, if_pos a1]
    · rw [if_neg a1, if_neg a1]
      by_cases a2 : u < 32
      · rw [if_pos a2, if_pos a2]
        rcases (show u = 30 ∨ u = 31 by omega) with rfl | rfl
        · exact s4.symm
        · exact s5.symm
      · rw [if_neg a2, if_neg a2, w4]
  have hb' : ∀ v, v < 12 → eh_bal K a b (fun k => x k + 1 * eh_ch L k) v = eh_ug (eh_pA n sh ln cu cl yl so) (eh_pB n ln fu fl yl si) v := by
    intro v hv
    have z : eh_bal K a b (fun k => x k + 1 * eh_ch L k) v = eh_bal K a b x v + 1 * (eh_in (s = v) - eh_in (t = v)) := r3 v
    rw [z, hbal v hv]
    rcases hst with ⟨rfl, rfl, rfl, rfl⟩ | ⟨rfl, rfl, rfl, rfl⟩
    · have pB : ∀ k, eh_pB n ln fu fl yl (-1) k = eh_wn n ln fu fl yl k := eh_pB_m
      unfold eh_ug
      simp only [pB]
      unfold eh_pA eh_in
      rcases (show s = 0 ∨ s = 1 ∨ s = 2 ∨ s = 3 by omega) with rfl | rfl | rfl | rfl <;>
        rcases (show v = 0 ∨ v = 1 ∨ v = 2 ∨ v = 3 ∨ v = 4 ∨ v = 5 ∨ v = 6 ∨ v = 7 ∨ v = 8 ∨ v = 9 ∨ v = 10 ∨ v = 11 by omega) with rfl | rfl | rfl | rfl | rfl | rfl | rfl | rfl | rfl | rfl | rfl | rfl <;>
        simp <;> omega
    · have pA : ∀ k, eh_pA n sh ln cu cl yl (-1) k = eh_gv n sh ln cu cl yl k := eh_pA_m
      unfold eh_ug
      simp only [pA]
      unfold eh_pB eh_in
      rcases (show k = 0 ∨ k = 1 ∨ k = 2 ∨ k = 3 by omega) with rfl | rfl | rfl | rfl <;>
        rcases (show v = 0 ∨ v = 1 ∨ v = 2 ∨ v = 3 ∨ v = 4 ∨ v = 5 ∨ v = 6 ∨ v = 7 ∨ v = 8 ∨ v = 9 ∨ v = 10 ∨ v = 11 by omega) with rfl | rfl | rfl | rfl | rfl | rfl | rfl | rfl | rfl | rfl | rfl | rfl <;>
        simp <;> omega
  obtain ⟨m1, m2⟩ := eh_sameP (G := eh_pA n sh ln cu cl yl so) (W := eh_pB n ln fu fl yl si) (fun k _ => rfl) (fun k _ => rfl) hpf hn' r1 hp' hb' hc (fun s9 hs9 => by
    have z := hgb s9 hs9
    unfold eh_pA
    split <;> omega)
  have hch : ∀ k, k < 8 → 0 ≤ eh_ch L k := fun k hk => by
    have z := (r1 k (by omega)).1
    rw [hx0 k hk] at z
    omega
  rw [hD t hs12.2]
  by_cases hS0 : Sg = 0
  · have z0 := hch 0 (by omega)
    have z1 := hch 1 (by omega)
    have z2 := hch 2 (by omega)
    have z3 := hch 3 (by omega)
    have z4 := hch 4 (by omega)
    have z5 := hch 5 (by omega)
    have z6 := hch 6 (by omega)
    have z7 := hch 7 (by omega)
    obtain ⟨g1, -, g3⟩ := m2 (fun k hk => by
      rw [hx0 k hk]
      rcases (show k = 0 ∨ k = 1 ∨ k = 2 ∨ k = 3 ∨ k = 4 ∨ k = 5 ∨ k = 6 ∨ k = 7 by omega) with rfl | rfl | rfl | rfl | rfl | rfl | rfl | rfl <;> omega)
    refine Or.inr ⟨g1, ?_⟩
    rw [g3, eh_tt_add, ← hpc3, if_pos (by omega)]
    omega
  · have hge : 0 < Sg := by
      have z0 := hch 0 (by omega)
      have z1 := hch 1 (by omega)
      have z2 := hch 2 (by omega)
      have z3 := hch 3 (by omega)
      have z4 := hch 4 (by omega)
      have z5 := hch 5 (by omega)
      have z6 := hch 6 (by omega)
      have z7 := hch 7 (by omega)
      omega
    have hex : ∃ k, k < 8 ∧ 0 < x k + 1 * eh_ch L k := by
      apply Classical.byContradiction
      intro hno
      have zz : ∀ k, k < 8 → eh_ch L k ≤ 0 := fun k hk => by
        apply Classical.byContradiction
        intro z
        exact hno ⟨k, hk, by rw [hx0 k hk]; omega⟩
      have z0 := zz 0 (by omega)
      have z1 := zz 1 (by omega)
      have z2 := zz 2 (by omega)
      have z3 := zz 3 (by omega)
      have z4 := zz 4 (by omega)
      have z5 := zz 5 (by omega)
      have z6 := zz 6 (by omega)
      have z7 := zz 7 (by omega)
      omega
    refine Or.inl ⟨m1 hex, ?_⟩
    rw [if_neg (by omega)]
end
