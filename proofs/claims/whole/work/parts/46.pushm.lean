/-! the reference's filling up: which places are reached -/
theorem eh_rf_bd {c S D f su de : Nat → Int} (h : eh_rf c S D f su de) (hS : ∀ y, y < 7 → S y ≤ 1000000000000) (hD : ∀ z, z < 6 → D z ≤ 1000000000000) :
    (∀ k, k < 42 → 0 ≤ f k ∧ f k ≤ 1000000000000) ∧ (∀ y, y < 7 → 0 ≤ su y ∧ su y ≤ 1000000000000) ∧ (∀ z, z < 6 → 0 ≤ de z ∧ de z ≤ 1000000000000) := by
  obtain ⟨h1, h2, h3⟩ := h
  refine ⟨fun k hk => ?_, fun y hy => ?_, fun z hz => ?_⟩
  · have a := eh_sm_ge_one (f := fun t => f (6 * (k / 6) + t)) (n := 6) (k := k % 6) (fun i hi => (h1 (k / 6) i (by omega) hi).1) (by omega)
    have b := h2 (k / 6) (by omega)
    have d := hS (k / 6) (by omega)
    have e : 6 * (k / 6) + k % 6 = k := by omega
    have g := (h1 (k / 6) (k % 6) (by omega) (by omega)).1
    simp only [e] at a
    rw [e] at g
    omega
  · have b := h2 y hy
    have d := hS y hy
    have a := eh_sm_nonneg (f := fun t => f (6 * y + t)) (n := 6) (fun i hi => (h1 y i hy hi).1)
    omega
  · have b := h3 z hz
    have d := hD z hz
    have a := eh_sm_nonneg (f := fun y => f (6 * y + z)) (n := 7) (fun i hi => (h1 i z hi hz).1)
    omega
def eh_cnt (BY : Nat → Int) : Int := eh_sm (fun v => if 0 ≤ BY v then 1 else 0) 13
theorem eh_cnt_b (BY : Nat → Int) : 0 ≤ eh_cnt BY ∧ eh_cnt BY ≤ 13 := by
  have := eh_sm_bd (f := fun v => if 0 ≤ BY v then (1 : Int) else 0) (n := 13) (b := 1) (fun i _ => by show 0 ≤ (if 0 ≤ BY i then (1 : Int) else 0) ∧ (if 0 ≤ BY i then (1 : Int) else 0) ≤ 1; split <;> omega)
  unfold eh_cnt
  omega
theorem eh_cnt_upd {BY : Nat → Int} {v : Nat} {x : Int} (hv : v < 13) (h : BY v < 0) (hx : 0 ≤ x) : eh_cnt (eh_upd BY v x) = eh_cnt BY + 1 := by
  unfold eh_cnt
  have := eh_sm_dif (f := fun i => if 0 ≤ eh_upd BY v x i then (1 : Int) else 0) (g := fun i => if 0 ≤ BY i then (1 : Int) else 0) hv (fun i _ hn => by
    show (if 0 ≤ eh_upd BY v x i then (1 : Int) else 0) = if 0 ≤ BY i then (1 : Int) else 0
    rw [eh_upd_n _ _ hn])
  rw [this]
  show _ + ((if 0 ≤ eh_upd BY v x v then (1 : Int) else 0) - if 0 ≤ BY v then (1 : Int) else 0) = _
  rw [eh_upd_s, if_pos hx, if_neg (by omega)]
  omega
def eh_bn (cs fw su BY : Nat → Int) : Prop := ∃ (rk : Nat → Nat) (N : Nat), eh_bt cs fw su BY rk ∧ ∀ v, v < 13 → 0 ≤ BY v → rk v < N
theorem eh_bn_0 {cs fw su BY : Nat → Int} (h : ∀ v, v < 13 → BY v = if v < 7 ∧ 0 < su v then (v : Int) else -1) : eh_bn cs fw su BY := by
  refine ⟨fun _ => 0, 1, ⟨fun v hv => ?_, fun v hv h0 => ?_, fun t ht h0 => ?_⟩, fun _ _ _ => Nat.zero_lt_one⟩
  · rw [h v hv]; split <;> omega
  · rw [h v (by omega)] at h0 ⊢
    by_cases q : v < 7 ∧ 0 < su v
    · rw [if_pos q]; exact Or.inl ⟨rfl, q.2⟩
    · rw [if_neg q] at h0; omega
  · rw [h (7 + t) (by omega), if_neg (by omega)] at h0
    omega
theorem eh_bn_1 {cs fw su BY : Nat → Int} (h : eh_bn cs fw su BY) {y z : Nat} (hy : y < 7) (hz : z < 6) (h0 : 0 ≤ BY y) (h1 : BY (7 + z) < 0) (hc : 0 ≤ cs (6 * y + z)) :
    eh_bn cs fw su (eh_upd BY (7 + z) ((y : Nat) : Int)) := by
  obtain ⟨rk, N, ⟨b1, b2, b3⟩, hN⟩ := h
  refine ⟨eh_upd rk (7 + z) N, N + 1, ⟨fun v hv => ?_, fun v hv hb => ?_, fun t ht hb => ?_⟩, fun v hv hb => ?_⟩
  · by_cases e : v = 7 + z
    · rw [e, eh_upd_s]; omega
    · rw [eh_upd_n _ _ e]; exact b1 v hv
  · rw [eh_upd_n _ _ (by omega)] at hb
    rw [eh_upd_n BY _ (show v ≠ 7 + z by omega), eh_upd_n rk _ (show v ≠ 7 + z by omega)]
    rcases b2 v hv hb with q | ⟨t, q1, q2, q3, q4, q5⟩
    · exact Or.inl q
    · have e : 7 + t ≠ 7 + z := by intro e; rw [e] at q4; omega
      refine Or.inr ⟨t, q1, q2, q3, ?_, ?_⟩
      · rw [eh_upd_n _ _ e]; exact q4
      · rw [eh_upd_n _ _ e]; exact q5
  · by_cases e : 7 + t = 7 + z
    · have e2 : t = z := by omega
      subst e2
      rw [eh_upd_s, eh_upd_s]
      refine ⟨y, hy, rfl, hc, ?_, ?_⟩
      · rw [eh_upd_n _ _ (by omega)]; exact h0
      · rw [eh_upd_n _ _ (by omega)]; exact hN y (by omega) h0
    · rw [eh_upd_n _ _ e] at hb
      rw [eh_upd_n _ _ e, eh_upd_n _ _ e]
      obtain ⟨y', q1, q2, q3, q4, q5⟩ := b3 t ht hb
      refine ⟨y', q1, q2, q3, ?_, ?_⟩
      · rw [eh_upd_n _ _ (by omega)]; exact q4
      · rw [eh_upd_n _ _ (by omega)]; exact q5
  · by_cases e : v = 7 + z
    · rw [e, eh_upd_s]; omega
    · rw [eh_upd_n _ _ e] at hb ⊢; have := hN v hv hb; omega
theorem eh_bn_2 {cs fw su BY : Nat → Int} (h : eh_bn cs fw su BY) {y z : Nat} (hy : y < 7) (hz : z < 6) (h0 : BY y < 0) (h1 : 0 ≤ BY (7 + z)) (hf : 0 < fw (6 * y + z)) :
    eh_bn cs fw su (eh_upd BY y ((7 + z : Nat) : Int)) := by
  obtain ⟨rk, N, ⟨b1, b2, b3⟩, hN⟩ := h
  refine ⟨eh_upd rk y N, N + 1, ⟨fun v hv => ?_, fun v hv hb => ?_, fun t ht hb => ?_⟩, fun v hv hb => ?_⟩
  · by_cases e : v = y
    · rw [e, eh_upd_s]; omega
    · rw [eh_upd_n _ _ e]; exact b1 v hv
  · by_cases e : v = y
    · subst e
      rw [eh_upd_s, eh_upd_s]
      refine Or.inr ⟨z, hz, rfl, hf, ?_, ?_⟩
      · rw [eh_upd_n _ _ (by omega)]; exact h1
      · rw [eh_upd_n _ _ (by omega)]; exact hN (7 + z) (by omega) h1
    · rw [eh_upd_n _ _ e] at hb
      rw [eh_upd_n BY _ e, eh_upd_n rk _ e]
      rcases b2 v hv hb with q | ⟨t, q1, q2, q3, q4, q5⟩
      · exact Or.inl q
      · refine Or.inr ⟨t, q1, q2, q3, ?_, ?_⟩
        · rw [eh_upd_n _ _ (by omega)]; exact q4
        · rw [eh_upd_n _ _ (by omega)]; exact q5
  · rw [eh_upd_n _ _ (by omega)] at hb
    rw [eh_upd_n BY _ (show 7 + t ≠ y by omega), eh_upd_n rk _ (show 7 + t ≠ y by omega)]
    obtain ⟨y', q1, q2, q3, q4, q5⟩ := b3 t ht hb
    have e : y' ≠ y := by intro e; rw [e] at q4; omega
    refine ⟨y', q1, q2, q3, ?_, ?_⟩
    · rw [eh_upd_n _ _ e]; exact q4
    · rw [eh_upd_n _ _ e]; exact q5
  · by_cases e : v = y
    · rw [e, eh_upd_s]; omega
    · rw [eh_upd_n _ _ e] at hb ⊢; have := hN v hv hb; omega
/-- at the place (y, z) nothing more is reached -/
def eh_cl (cs fw BY : Nat → Int) (y z : Nat) : Prop := (0 ≤ BY y → 0 ≤ cs (6 * y + z) → 0 ≤ BY (7 + z)) ∧ (0 ≤ BY (7 + z) → 0 < fw (6 * y + z) → 0 ≤ BY y)
/-- a sweep that began with n0 reached, before the place (y, z) -/
def eh_sw (cs fw su : Nat → Int) (n0 : Int) (y z : Nat) (BY : Nat → Int) (mo : Int) : Prop :=
  eh_bn cs fw su BY ∧ (∀ v, v < 7 → 0 < su v → 0 ≤ BY v) ∧
  ((mo = 0 ∧ ∀ y' z', y' < 7 → z' < 6 → 6 * y' + z' < 6 * y + z → eh_cl cs fw BY y' z') ∨ (mo = 1 ∧ n0 < eh_cnt BY)) ∧ n0 ≤ eh_cnt BY
theorem eh_sw_skip {cs fw su BY : Nat → Int} {n0 mo : Int} {y z : Nat} (h : eh_sw cs fw su n0 y z BY mo) (hz : z < 6) (hc : eh_cl cs fw BY y z) : eh_sw cs fw su n0 y (z + 1) BY mo := by
  obtain ⟨h1, h2, h3, h4⟩ := h
  refine ⟨h1, h2, ?_, h4⟩
  rcases h3 with ⟨q1, q2⟩ | q
  · refine Or.inl ⟨q1, fun y' z' a b d => ?_⟩
    by_cases e : 6 * y' + z' = 6 * y + z
    · have e1 : y' = y := by omega
      have e2 : z' = z := by omega
      subst e1; subst e2; exact hc
    · exact q2 y' z' a b (by omega)
  · exact Or.inr q
theorem eh_sw_1 {cs fw su BY : Nat → Int} {n0 mo : Int} {y z : Nat} (h : eh_sw cs fw su n0 y z BY mo) (hy : y < 7) (hz : z < 6) (h0 : 0 ≤ BY y) (h1 : BY (7 + z) < 0) (hc : 0 ≤ cs (6 * y + z)) :
    eh_sw cs fw su n0 y (z + 1) (eh_upd BY (7 + z) ((y : Nat) : Int)) 1 := by
  obtain ⟨a1, a2, a3, a4⟩ := h
  have q := eh_cnt_upd (x := ((y : Nat) : Int)) (show 7 + z < 13 by omega) h1 (by omega)
  refine ⟨eh_bn_1 a1 hy hz h0 h1 hc, fun v hv hs => ?_, Or.inr ⟨rfl, by omega⟩, by omega⟩
  rw [eh_upd_n _ _ (by omega)]; exact a2 v hv hs
theorem eh_sw_2 {cs fw su BY : Nat → Int} {n0 mo : Int} {y z : Nat} (h : eh_sw cs fw su n0 y z BY mo) (hy : y < 7) (hz : z < 6) (h0 : BY y < 0) (h1 : 0 ≤ BY (7 + z)) (hf : 0 < fw (6 * y + z)) :
    eh_sw cs fw su n0 y (z + 1) (eh_upd BY y ((7 + z : Nat) : Int)) 1 := by
  obtain ⟨a1, a2, a3, a4⟩ := h
  have q := eh_cnt_upd (x := ((7 + z : Nat) : Int)) (show y < 13 by omega) h0 (by omega)
  refine ⟨eh_bn_2 a1 hy hz h0 h1 hf, fun v hv hs => ?_, Or.inr ⟨rfl, by omega⟩, by omega⟩
  by_cases e : v = y
  · rw [e, eh_upd_s]; omega
  · rw [eh_upd_n _ _ e]; exact a2 v hv hs
theorem eh_sw_row {cs fw su BY : Nat → Int} {n0 mo : Int} {y : Nat} (h : eh_sw cs fw su n0 y 6 BY mo) : eh_sw cs fw su n0 (y + 1) 0 BY mo := by
  obtain ⟨h1, h2, h3, h4⟩ := h
  refine ⟨h1, h2, ?_, h4⟩
  rcases h3 with ⟨q1, q2⟩ | q
  · exact Or.inl ⟨q1, fun y' z' a b d => q2 y' z' a b (by omega)⟩
  · exact Or.inr q
/-- a sweep begins -/
theorem eh_sw_new {cs fw su BY : Nat → Int} {n0 : Int} {y z : Nat} {mo : Int} (h : eh_sw cs fw su n0 y z BY mo) : eh_sw cs fw su (eh_cnt BY) 0 0 BY 0 :=
  ⟨h.1, h.2.1, Or.inl ⟨rfl, fun y' z' _ _ d => by omega⟩, Int.le_refl _⟩
