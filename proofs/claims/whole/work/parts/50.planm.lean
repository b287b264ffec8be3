/-! the reference's plan, from its beginning to its end -/
theorem eh_pr_b {A B su de : Nat → Int} (h : eh_pr A B su de) (hA : ∀ k, k < 6 → 0 ≤ A k ∧ A k ≤ 100000001) (hB : ∀ k, k < 5 → 0 ≤ B k ∧ B k ≤ 100000001) :
    (∀ y, y < 7 → 0 ≤ su y ∧ su y ≤ 1000000000000) ∧ (∀ z, z < 6 → 0 ≤ de z ∧ de z ≤ 1000000000000) ∧ B 4 < su 6 := by
  obtain ⟨h1, h2, h3, h4⟩ := h
  have sA := eh_sm_bd hA
  have sB := eh_sm_bd hB
  have hB4 := hB 4 (by omega)
  have q3 : 1000000000 ≤ su 6 ∧ su 6 ≤ 10000000000 := by rw [h3]; split <;> omega
  have q4 : 0 ≤ de 5 ∧ de 5 ≤ 10000000000 := by rw [h4]; split <;> omega
  refine ⟨fun y hy => ?_, fun z hz => ?_, by omega⟩
  · by_cases e : y = 6
    · rw [e]; omega
    · have a := hA y (by omega)
      rw [h1 y (by omega)]; omega
  · by_cases e : z = 5
    · rw [e]; omega
    · have a := hB z (by omega)
      rw [h2 z (by omega)]; omega
theorem eh_rf_0 {c su de fw : Nat → Int} (h1 : ∀ y, y < 7 → 0 ≤ su y) (h2 : ∀ z, z < 6 → 0 ≤ de z) (hf : ∀ k, k < 42 → fw k = 0) : eh_rf c su de fw su de := by
  refine ⟨fun s t hs ht => ?_, fun s hs => ⟨h1 s hs, ?_⟩, fun t ht => ⟨h2 t ht, ?_⟩⟩
  · rw [hf _ (by omega)]; exact ⟨Int.le_refl _, fun _ => rfl⟩
  · rw [eh_sm_zero (fun i hi => hf _ (by omega)), Int.add_zero]
  · rw [eh_sm_zero (fun i hi => hf _ (by omega)), Int.add_zero]
theorem eh_rf_z {c S D fw su de : Nat → Int} (h : eh_rf c S D fw su de) (hSD : eh_sm S 7 = eh_sm D 6) (hd : ∀ z, z < 6 → de z ≤ 0) : eh_rf c S D fw (fun _ => 0) (fun _ => 0) := by
  obtain ⟨h1, h2, h3⟩ := h
  have hd0 : ∀ z, z < 6 → de z = 0 := fun z hz => by have := h3 z hz; have := hd z hz; omega
  have e1 : eh_sm S 7 = eh_sm su 7 + eh_sm (fun s => eh_sm (fun t => fw (6 * s + t)) 6) 7 := by
    rw [← eh_sm_add]; exact eh_sm_congr (fun s hs => (h2 s hs).2.symm)
  have e2 : eh_sm D 6 = eh_sm de 6 + eh_sm (fun t => eh_sm (fun s => fw (6 * s + t)) 7) 6 := by
    rw [← eh_sm_add]; exact eh_sm_congr (fun t ht => (h3 t ht).2.symm)
  have e3 := eh_sm_swap (fun s t => fw (6 * s + t)) 7 6
  have e4 : eh_sm de 6 = 0 := eh_sm_zero hd0
  have e5 : eh_sm su 7 = 0 := by omega
  refine ⟨h1, fun s hs => ⟨Int.le_refl _, ?_⟩, fun t ht => ⟨Int.le_refl _, ?_⟩⟩
  · have a := eh_sm_ge_one (f := su) (n := 7) (k := s) (fun i hi => (h2 i hi).1) hs
    have b := h2 s hs
    show (0 : Int) + _ = _
    omega
  · have b := h3 t ht
    have q := hd0 t ht
    show (0 : Int) + _ = _
    omega
theorem eh_rf_np {c A B S D fw su de cs BY : Nat → Int} (h : eh_rf c S D fw su de) (hS : ∀ s, s < 6 → S s = A s) (hD : ∀ t, t < 5 → D t = B t) (hSD : eh_sm S 7 = eh_sm D 6) (hS6 : B 4 < S 6)
    (hcs : ∀ y z, y < 7 → z < 6 → cs (6 * y + z) = eh_rc c y z) (k1 : ∀ v, v < 7 → 0 < su v → 0 ≤ BY v) (k2 : ∀ y z, y < 7 → z < 6 → eh_cl cs fw BY y z) (k3 : ∀ z, z < 6 → 0 ≤ BY (7 + z) → de z ≤ 0)
    {t0 : Nat} (ht : t0 < 6) (h0 : 0 < de t0) (y : Nat → Int) : ¬ eh_feas c A B y :=
  eh_ref_none h hS hD hSD (by omega) (fun s => 0 ≤ BY s) (fun t => 0 ≤ BY (7 + t)) k1
    (fun s t hs ht2 a b => (k2 s t hs ht2).1 a (by rw [hcs s t hs ht2]; exact b)) (fun s t hs ht2 a b => (k2 s t hs ht2).2 a b)
    (fun t ht2 a => by have := k3 t ht2 a; have := (h.2.2 t ht2).1; omega) ht h0 y
theorem eh_rf_pl {c A B S D fw cs g : Nat → Int} (h : eh_rf c S D fw (fun _ => 0) (fun _ => 0)) (hS : ∀ s, s < 6 → S s = A s) (hD : ∀ t, t < 5 → D t = B t) (hS6 : B 4 < S 6)
    (hcs : ∀ y z, y < 7 → z < 6 → cs (6 * y + z) = eh_rc c y z) (hp : eh_pot 84 (eh_tl eh_ga eh_gb) (eh_hd eh_ga eh_gb) (eh_gr cs fw) (eh_wt (eh_gw cs)) g) :
    eh_feas c A B (fun k => fw (6 * (k / 5) + k % 5)) ∧ eh_cert 1152921504606846976 c A B (fun k => fw (6 * (k / 5) + k % 5)) := by
  refine eh_ref_plan h hS hD hS6 (g := g) (fun y z hy hz hc => ?_) (fun y z hy hz hc => ?_)
  · have k1 : 2 * (6 * y + z) % 2 = 0 := by omega
    have k2 : 2 * (6 * y + z) / 2 = 6 * y + z := by omega
    have q := hp (2 * (6 * y + z)) (by omega) (by unfold eh_gr; rw [if_pos k1, k2, hcs y z hy hz, if_pos hc]; omega)
    have t1 : eh_tl eh_ga eh_gb (2 * (6 * y + z)) = y := by unfold eh_tl eh_ga; rw [if_pos k1, k2]; omega
    have t2 : eh_hd eh_ga eh_gb (2 * (6 * y + z)) = 7 + z := by unfold eh_hd eh_gb; rw [if_pos k1, k2]; omega
    have t3 : eh_wt (eh_gw cs) (2 * (6 * y + z)) = 1152921504606846976 * eh_rc c y z + eh_rp y z := by
      unfold eh_wt eh_gw
      rw [if_pos k1, k2, hcs y z hy hz, show (6 * y + z) / 6 = y by omega, show (6 * y + z) % 6 = z by omega]
    rw [t1, t2, t3] at q
    exact q
  · have k1 : ¬ (2 * (6 * y + z) + 1) % 2 = 0 := by omega
    have k2 : (2 * (6 * y + z) + 1) / 2 = 6 * y + z := by omega
    have q := hp (2 * (6 * y + z) + 1) (by omega) (by unfold eh_gr; rw [if_neg k1, k2]; exact hc)
    have t1 : eh_tl eh_ga eh_gb (2 * (6 * y + z) + 1) = 7 + z := by unfold eh_tl eh_gb; rw [if_neg k1, k2]; omega
    have t2 : eh_hd eh_ga eh_gb (2 * (6 * y + z) + 1) = y := by unfold eh_hd eh_ga; rw [if_neg k1, k2]; omega
    have t3 : eh_wt (eh_gw cs) (2 * (6 * y + z) + 1) = -(1152921504606846976 * eh_rc c y z + eh_rp y z) := by
      unfold eh_wt eh_gw
      rw [if_neg k1, k2, hcs y z hy hz, show (6 * y + z) / 6 = y by omega, show (6 * y + z) % 6 = z by omega]
    rw [t1, t2, t3] at q
    omega
theorem eh_rc_b {c cs : Nat → Int} (hc : ∀ k, k < 30 → -1 ≤ c k ∧ c k ≤ 100000) (hcs : ∀ y z, y < 7 → z < 6 → cs (6 * y + z) = eh_rc c y z) : ∀ k, k < 42 → -1 ≤ cs k ∧ cs k ≤ 100000 := by
  intro k hk
  have q := hcs (k / 6) (k % 6) (by omega) (by omega)
  rw [show 6 * (k / 6) + k % 6 = k by omega] at q
  rw [q]
  unfold eh_rc
  by_cases h1 : k / 6 < 6 ∧ k % 6 < 5
  · rw [if_pos h1]; exact hc _ (by omega)
  · rw [if_neg h1]
    split <;> omega
