/-! plans: y (5 s + t) litres from source s to sink t; c (5 s + t) the unit cost, below 0 if the haul isn't possible; A: what the sources give (4, 5: at most), B: what the sinks want (4: at most) -/
def eh_row (y : Nat → Int) (s : Nat) : Int := eh_sm (fun t => y (5 * s + t)) 5
def eh_col (y : Nat → Int) (t : Nat) : Int := eh_sm (fun s => y (5 * s + t)) 6

theorem eh_row_e (y : Nat → Int) (s : Nat) : eh_row y s = y (5 * s) + y (5 * s + 1) + y (5 * s + 2) + y (5 * s + 3) + y (5 * s + 4) := by
  simp [eh_row, eh_sm]
theorem eh_col_e (y : Nat → Int) (t : Nat) : eh_col y t = y t + y (5 + t) + y (10 + t) + y (15 + t) + y (20 + t) + y (25 + t) := by
  simp [eh_col, eh_sm]

def eh_feas (c A B y : Nat → Int) : Prop :=
  (∀ k, k < 30 → 0 ≤ y k ∧ (c k < 0 → y k = 0)) ∧ (∀ s, s < 4 → eh_row y s = A s) ∧ (eh_row y 4 ≤ A 4 ∧ eh_row y 5 ≤ A 5) ∧
  (∀ t, t < 4 → eh_col y t = B t) ∧ eh_col y 4 ≤ B 4

def eh_cert (M : Int) (c A B y : Nat → Int) : Prop := ∃ p : Nat → Int,
  (∀ k, k < 30 → 0 ≤ c k → p (6 + k % 5) ≤ p (k / 5) + (M * c k + eh_pw k)) ∧
  (∀ k, k < 30 → 0 < y k → p (k / 5) ≤ p (6 + k % 5) - (M * c k + eh_pw k)) ∧
  ((eh_row y 4 < A 4 → p 4 ≤ p 11) ∧ (0 < eh_row y 4 → p 11 ≤ p 4)) ∧
  ((eh_row y 5 < A 5 → p 5 ≤ p 11) ∧ (0 < eh_row y 5 → p 11 ≤ p 5)) ∧
  ((eh_col y 4 < B 4 → p 11 ≤ p 10) ∧ (0 < eh_col y 4 → p 10 ≤ p 11))

/-- the network of all hauls (0 to 29), the pits (30, 31), the dump (32), what is short (33 to 40) -/
def eh_ua (k : Nat) : Nat := if k < 30 then k / 5 else if k < 32 then 11 else if k = 32 then 10 else if k < 37 then k - 33 else 11
def eh_ub (k : Nat) : Nat := if k < 30 then 6 + k % 5 else if k < 32 then k - 26 else if k < 37 then 11 else k - 31
def eh_ux (y : Nat → Int) (k : Nat) : Int :=
  if k < 30 then y k else if k = 30 then eh_row y 4 else if k = 31 then eh_row y 5 else if k = 32 then eh_col y 4 else 0
def eh_uc (c : Nat → Int) (k : Nat) : Int := if k < 30 then c k else 0

theorem eh_u_lt : ∀ k, k < 41 → eh_ua k < 12 ∧ eh_ub k < 12 := by decide +kernel
theorem eh_u_st : ∀ k, k < 41 → 30 ≤ k → (eh_ua k = 11 ∧ eh_ub k ≠ 11) ∨ (eh_ua k ≠ 11 ∧ eh_ub k = 11) := by decide +kernel
def eh_uo (k : Nat) : Nat := if eh_ua k = 11 then eh_ub k else eh_ua k
theorem eh_u_o : ∀ i, i < 11 → ∀ j, j < 11 → eh_uo (30 + i) = eh_uo (30 + j) → i = j := by decide +kernel
theorem eh_u_si : ∀ i j, i < 41 → j < 41 → 30 ≤ i → 30 ≤ j → ∀ v, v ≠ 11 → (eh_ua i = v ∨ eh_ub i = v) → (eh_ua j = v ∨ eh_ub j = v) → i = j := by
  intro i j hi hj h1 h2 v hv h3 h4
  have key : ∀ k, k < 41 → 30 ≤ k → (eh_ua k = v ∨ eh_ub k = v) → eh_uo k = v := by
    intro k hk hk2 hh
    unfold eh_uo
    rcases eh_u_st k hk hk2 with q | q
    · rw [if_pos q.1]; rcases hh with h | h <;> omega
    · rw [if_neg q.1]; rcases hh with h | h <;> omega
  have e1 := key i hi h1 h3
  have e2 := key j hj h2 h4
  obtain ⟨i', rfl⟩ : ∃ i', i = 30 + i' := ⟨i - 30, by omega⟩
  obtain ⟨j', rfl⟩ : ∃ j', j = 30 + j' := ⟨j - 30, by omega⟩
  have := eh_u_o i' (by omega) j' (by omega) (by rw [e1, e2])
  omega

def eh_ubal (x : Nat → Int) (v : Nat) : Int := eh_sm (fun k => x k * (eh_in (eh_ua k = v) - eh_in (eh_ub k = v))) 41

set_option maxHeartbeats 4000000 in
set_option maxRecDepth 10000 in
theorem eh_ubal_e (x : Nat → Int) :
    (∀ s, s < 4 → eh_ubal x s = eh_row x s + x (33 + s)) ∧ eh_ubal x 4 = eh_row x 4 - x 30 ∧ eh_ubal x 5 = eh_row x 5 - x 31 ∧
    (∀ t, t < 4 → eh_ubal x (6 + t) = - eh_col x t - x (37 + t)) ∧ eh_ubal x 10 = x 32 - eh_col x 4 ∧
    eh_ubal x 11 = x 30 + x 31 - x 32 - (x 33 + x 34 + x 35 + x 36) + (x 37 + x 38 + x 39 + x 40) := by
  refine ⟨?_, ?_, ?_, ?_, ?_, ?_⟩
  · intro s hs
    rcases (show s = 0 ∨ s = 1 ∨ s = 2 ∨ s = 3 by omega) with rfl | rfl | rfl | rfl <;>
      simp [eh_ubal, eh_row, eh_sm, eh_in, eh_ua, eh_ub]
  · simp [eh_ubal, eh_row, eh_sm, eh_in, eh_ua, eh_ub] <;> omega
  · simp [eh_ubal, eh_row, eh_sm, eh_in, eh_ua, eh_ub] <;> omega
  · intro s hs
    rcases (show s = 0 ∨ s = 1 ∨ s = 2 ∨ s = 3 by omega) with rfl | rfl | rfl | rfl <;>
      simp [eh_ubal, eh_col, eh_sm, eh_in, eh_ua, eh_ub] <;> omega
  · simp [eh_ubal, eh_col, eh_sm, eh_in, eh_ua, eh_ub] <;> omega
  · simp [eh_ubal, eh_sm, eh_in, eh_ua, eh_ub] <;> omega

/-- the balances that a plan has, by what is given and wanted -/
def eh_ug (A B : Nat → Int) (v : Nat) : Int :=
  if v < 4 then A v else if v < 6 then 0 else if v < 10 then - B (v - 6) else if v = 10 then 0
  else (B 0 + B 1 + B 2 + B 3) - (A 0 + A 1 + A 2 + A 3)

set_option maxHeartbeats 1000000 in
theorem eh_ux_bal {c A B y : Nat → Int} (h : eh_feas c A B y) : ∀ v, v < 12 → eh_ubal (eh_ux y) v = eh_ug A B v := by
  obtain ⟨h1, h2, h3, h4, h5⟩ := h
  obtain ⟨e1, e2, e3, e4, e5, e6⟩ := eh_ubal_e (eh_ux y)
  have r : ∀ s, s < 6 → eh_row (eh_ux y) s = eh_row y s := by
    intro s hs
    apply eh_sm_congr
    intro t ht
    have : 5 * s + t < 30 := by omega
    simp [eh_ux, this]
  have cc : ∀ t, t < 5 → eh_col (eh_ux y) t = eh_col y t := by
    intro t ht
    apply eh_sm_congr
    intro s hs
    have : 5 * s + t < 30 := by omega
    simp [eh_ux, this]
  intro v hv
  rcases (show v < 4 ∨ v = 4 ∨ v = 5 ∨ (6 ≤ v ∧ v < 10) ∨ v = 10 ∨ v = 11 by omega) with q | rfl | rfl | q | rfl | rfl
  · rw [e1 v q, r v (by omega), h2 v q]
    have k1 : ¬ 33 + v < 30 := by omega
    have k2 : ¬ 33 + v = 30 := by omega
    have k3 : ¬ 33 + v = 31 := by omega
    have k4 : ¬ 33 + v = 32 := by omega
    simp only [eh_ux, eh_ug, q, k1, k2, k3, k4, if_true, if_false]
    omega
  · rw [e2, r 4 (by omega)]; simp [eh_ux, eh_ug]
  · rw [e3, r 5 (by omega)]; simp [eh_ux, eh_ug]
  · obtain ⟨t, rfl⟩ : ∃ t, v = 6 + t := ⟨v - 6, by omega⟩
    rw [e4 t (by omega), cc t (by omega), h4 t (by omega)]
    have k0 : 6 + t - 6 = t := by omega
    have k1 : ¬ 37 + t < 30 := by omega
    have k2 : ¬ 37 + t = 30 := by omega
    have k3 : ¬ 37 + t = 31 := by omega
    have k4 : ¬ 37 + t = 32 := by omega
    have m1 : ¬ 6 + t < 4 := by omega
    have m2 : ¬ 6 + t < 6 := by omega
    have m3 : 6 + t < 10 := by omega
    simp only [eh_ux, eh_ug, k0, k1, k2, k3, k4, m1, m2, m3, if_true, if_false]
    omega
  · rw [e5, cc 4 (by omega)]; simp [eh_ux, eh_ug]
  · rw [e6]
    have a0 := h2 0 (by omega); have a1 := h2 1 (by omega); have a2 := h2 2 (by omega); have a3 := h2 3 (by omega)
    have b0 := h4 0 (by omega); have b1 := h4 1 (by omega); have b2 := h4 2 (by omega); have b3 := h4 3 (by omega)
    rw [eh_row_e] at a0 a1 a2 a3
    rw [eh_col_e] at b0 b1 b2 b3
    simp only [eh_ux, eh_ug, eh_row_e, eh_col_e]
    simp at a0 a1 a2 a3 b0 b1 b2 b3 ⊢
    omega

theorem eh_bal_circ {x x' : Nat → Int} {G : Nat → Int} (h : ∀ v, v < 12 → eh_ubal x v = G v) (h' : ∀ v, v < 12 → eh_ubal x' v = G v) :
    eh_circ 41 12 eh_ua eh_ub (fun k => x' k - x k) := by
  intro v hv
  have e1 := h v hv
  have e2 := h' v hv
  unfold eh_ubal at e1 e2
  have e3 : eh_sm (fun k => (x' k - x k) * (eh_in (eh_ua k = v) - eh_in (eh_ub k = v))) 41
      = eh_sm (fun k => x' k * (eh_in (eh_ua k = v) - eh_in (eh_ub k = v))) 41 - eh_sm (fun k => x k * (eh_in (eh_ua k = v) - eh_in (eh_ub k = v))) 41 := by
    rw [← eh_sm_sub]
    apply eh_sm_congr
    intro k _
    rw [Int.sub_mul]
  rw [e3, e1, e2]
  omega

set_option maxHeartbeats 1000000 in
/-- there is one plan of least cost at most -/
theorem eh_plan_uniq {c A B y y' : Nat → Int} {M M' : Int} (h : eh_feas c A B y) (h' : eh_feas c A B y') (ce : eh_cert M c A B y) (ce' : eh_cert M' c A B y')
    (hM : 2 ^ 30 ≤ M) (hM' : 2 ^ 30 ≤ M') : ∀ k, k < 30 → y k = y' k := by
  obtain ⟨p, p1, p2, p3, p4, p5⟩ := ce
  obtain ⟨p', p1', p2', p3', p4', p5'⟩ := ce'
  have hcirc := eh_bal_circ (eh_ux_bal h) (eh_ux_bal h')
  have f1 := h.1
  have f1' := h'.1
  have f3 := h.2.2.1
  have f3' := h'.2.2.1
  have f5 := h.2.2.2.2
  have f5' := h'.2.2.2.2
  have pw0 : ∀ k, 30 ≤ k → eh_pw k = 0 := by
    intro k hk
    have : ¬ k < 30 := by omega
    simp [eh_pw, this]
  have hz := eh_uniq (K := 41) (N := 12) (o := 11) (a := eh_ua) (b := eh_ub) (q := fun k => k) (c := eh_uc c)
    (z := fun k => eh_ux y' k - eh_ux y k) (p1 := p) (p2 := p') (M1 := M) (M2 := M') eh_u_lt hcirc
    (by
      intro k hk hz
      try dsimp only at hz ⊢
      rcases (show k < 30 ∨ k = 30 ∨ k = 31 ∨ k = 32 ∨ 33 ≤ k by omega) with q | rfl | rfl | rfl | q
      · simp only [eh_ux, eh_ua, eh_ub, eh_uc, q, if_true] at hz ⊢
        refine p1 k q ?_
        apply Classical.byContradiction
        intro hc
        have := (f1' k q).2 (by omega)
        have := (f1 k q).1
        omega
      · rw [pw0 30 (by omega)]
        simp only [eh_ux, eh_ua, eh_ub, eh_uc] at hz ⊢
        simp at hz ⊢
        exact p3.1 (by omega)
      · rw [pw0 31 (by omega)]
        simp only [eh_ux, eh_ua, eh_ub, eh_uc] at hz ⊢
        simp at hz ⊢
        exact p4.1 (by omega)
      · rw [pw0 32 (by omega)]
        simp only [eh_ux, eh_ua, eh_ub, eh_uc] at hz ⊢
        simp at hz ⊢
        exact p5.1 (by omega)
      · have k1 : ¬ k < 30 := by omega
        have k2 : ¬ k = 30 := by omega
        have k3 : ¬ k = 31 := by omega
        have k4 : ¬ k = 32 := by omega
        simp only [eh_ux, k1, k2, k3, k4, if_false] at hz
        omega)
    (by
      intro k hk hz
      try dsimp only at hz ⊢
      rcases (show k < 30 ∨ k = 30 ∨ k = 31 ∨ k = 32 ∨ 33 ≤ k by omega) with q | rfl | rfl | rfl | q
      · simp only [eh_ux, eh_ua, eh_ub, eh_uc, q, if_true] at hz ⊢
        refine p2 k q ?_
        have := (f1' k q).1
        omega
      · rw [pw0 30 (by omega)]
        simp only [eh_ux, eh_ua, eh_ub, eh_uc] at hz ⊢
        simp at hz ⊢
        refine p3.2 ?_
        have : 0 ≤ eh_row y' 4 := eh_sm_nonneg (fun t ht => (f1' _ (by omega)).1)
        omega
      · rw [pw0 31 (by omega)]
        simp only [eh_ux, eh_ua, eh_ub, eh_uc] at hz ⊢
        simp at hz ⊢
        refine p4.2 ?_
        have : 0 ≤ eh_row y' 5 := eh_sm_nonneg (fun t ht => (f1' _ (by omega)).1)
        omega
      · rw [pw0 32 (by omega)]
        simp only [eh_ux, eh_ua, eh_ub, eh_uc] at hz ⊢
        simp at hz ⊢
        refine p5.2 ?_
        have : 0 ≤ eh_col y' 4 := eh_sm_nonneg (fun t ht => (f1' _ (by omega)).1)
        omega
      · have k1 : ¬ k < 30 := by omega
        have k2 : ¬ k = 30 := by omega
        have k3 : ¬ k = 31 := by omega
        have k4 : ¬ k = 32 := by omega
        simp only [eh_ux, k1, k2, k3, k4, if_false] at hz
        omega)
    (by
      intro k hk hz
      try dsimp only at hz ⊢
      rcases (show k < 30 ∨ k = 30 ∨ k = 31 ∨ k = 32 ∨ 33 ≤ k by omega) with q | rfl | rfl | rfl | q
      · simp only [eh_ux, eh_ua, eh_ub, eh_uc, q, if_true] at hz ⊢
        refine p2' k q ?_
        have := (f1 k q).1
        omega
      · rw [pw0 30 (by omega)]
        simp only [eh_ux, eh_ua, eh_ub, eh_uc] at hz ⊢
        simp at hz ⊢
        refine p3'.2 ?_
        have : 0 ≤ eh_row y 4 := eh_sm_nonneg (fun t ht => (f1 _ (by omega)).1)
        omega
      · rw [pw0 31 (by omega)]
        simp only [eh_ux, eh_ua, eh_ub, eh_uc] at hz ⊢
        simp at hz ⊢
        refine p4'.2 ?_
        have : 0 ≤ eh_row y 5 := eh_sm_nonneg (fun t ht => (f1 _ (by omega)).1)
        omega
      · rw [pw0 32 (by omega)]
        simp only [eh_ux, eh_ua, eh_ub, eh_uc] at hz ⊢
        simp at hz ⊢
        refine p5'.2 ?_
        have : 0 ≤ eh_col y 4 := eh_sm_nonneg (fun t ht => (f1 _ (by omega)).1)
        omega
      · have k1 : ¬ k < 30 := by omega
        have k2 : ¬ k = 30 := by omega
        have k3 : ¬ k = 31 := by omega
        have k4 : ¬ k = 32 := by omega
        simp only [eh_ux, k1, k2, k3, k4, if_false] at hz
        omega)
    (by
      intro k hk hz
      try dsimp only at hz ⊢
      rcases (show k < 30 ∨ k = 30 ∨ k = 31 ∨ k = 32 ∨ 33 ≤ k by omega) with q | rfl | rfl | rfl | q
      · simp only [eh_ux, eh_ua, eh_ub, eh_uc, q, if_true] at hz ⊢
        refine p1' k q ?_
        apply Classical.byContradiction
        intro hc
        have := (f1 k q).2 (by omega)
        have := (f1' k q).1
        omega
      · rw [pw0 30 (by omega)]
        simp only [eh_ux, eh_ua, eh_ub, eh_uc] at hz ⊢
        simp at hz ⊢
        exact p3'.1 (by omega)
      · rw [pw0 31 (by omega)]
        simp only [eh_ux, eh_ua, eh_ub, eh_uc] at hz ⊢
        simp at hz ⊢
        exact p4'.1 (by omega)
      · rw [pw0 32 (by omega)]
        simp only [eh_ux, eh_ua, eh_ub, eh_uc] at hz ⊢
        simp at hz ⊢
        exact p5'.1 (by omega)
      · have k1 : ¬ k < 30 := by omega
        have k2 : ¬ k = 30 := by omega
        have k3 : ¬ k = 31 := by omega
        have k4 : ¬ k = 32 := by omega
        simp only [eh_ux, k1, k2, k3, k4, if_false] at hz
        omega)
    (fun i j _ _ _ e => e) eh_u_st eh_u_si hM hM'
  intro k hk
  have q := hz k (by omega)
  simp only [eh_ux, hk, if_true] at q
  omega

/-- a flow in the network of all edges, with what is short, and a right potential -/
def eh_uw (c : Nat → Int) (k : Nat) : Int := if k < 30 then 4294967296 * c k + eh_pw k else if k < 33 then 0 else 18014398509481984
def eh_ucap (c A B : Nat → Int) (k : Nat) : Int :=
  if k < 30 then (if 0 ≤ c k then 1000000000 else 0) else if k < 32 then A (k - 26) else if k = 32 then B 4 else 1000000000

def eh_ufl (c A B x p : Nat → Int) : Prop :=
  (∀ k, k < 41 → 0 ≤ x k ∧ x k ≤ eh_ucap c A B k) ∧
  (∀ k, k < 41 → x k < eh_ucap c A B k → p (eh_ub k) ≤ p (eh_ua k) + eh_uw c k) ∧
  (∀ k, k < 41 → 0 < x k → p (eh_ua k) ≤ p (eh_ub k) - eh_uw c k) ∧
  (∀ v, v < 12 → eh_ubal x v = eh_ug A B v)

set_option maxHeartbeats 1000000 in
/-- what is short tells that there is no plan -/
theorem eh_short {c A B x p : Nat → Int} (h : eh_ufl c A B x p) (hc : ∀ k, k < 30 → -1 ≤ c k ∧ c k ≤ 100000)
    (hA : ∀ s, s < 6 → A s ≤ 1000000000) {k0 : Nat} (hk0 : 33 ≤ k0) (hk1 : k0 < 41) (hx : 0 < x k0) (y : Nat → Int) : ¬ eh_feas c A B y := by
  intro hy
  obtain ⟨h1, h2, h3, h4⟩ := h
  have hb := eh_ux_bal hy
  obtain ⟨f1, f2, f3, f4, f5⟩ := hy
  have q := eh_cut (K := 41) (N := 12) (a := eh_ua) (b := eh_ub) (w := eh_uw c) (x := x) (y := eh_ux y) (cap := eh_ucap c A B) (p := p)
    (sh := fun k => 33 ≤ k) (B := 1125899906842624) (D := 18014398509481984) eh_u_lt (eh_bal_circ h4 hb) h2 h3
    (by
      intro k hk
      rcases (show k < 30 ∨ k = 30 ∨ k = 31 ∨ k = 32 ∨ 33 ≤ k by omega) with q | rfl | rfl | rfl | q
      · simp only [eh_ux, eh_ucap, q, if_true]
        refine ⟨(f1 k q).1, ?_⟩
        by_cases hck : 0 ≤ c k
        · simp only [hck, if_true]
          have e1 : y k ≤ eh_row y (k / 5) := by
            have := eh_sm_ge_one (f := fun t => y (5 * (k / 5) + t)) (n := 5) (k := k % 5) (fun t ht => (f1 _ (by omega)).1) (by omega)
            have e2 : 5 * (k / 5) + k % 5 = k := by omega
            rw [e2] at this
            exact this
          have e3 : eh_row y (k / 5) ≤ A (k / 5) := by
            rcases (show k / 5 < 4 ∨ k / 5 = 4 ∨ k / 5 = 5 by omega) with z | z | z
            · rw [f2 _ z]; omega
            · rw [z]; exact f3.1
            · rw [z]; exact f3.2
          have := hA (k / 5) (by omega)
          omega
        · simp only [hck, if_false]
          have := (f1 k q).2 (by omega)
          omega
      · simp [eh_ux, eh_ucap]
        exact ⟨eh_sm_nonneg (fun t ht => (f1 _ (by omega)).1), f3.1⟩
      · simp [eh_ux, eh_ucap]
        exact ⟨eh_sm_nonneg (fun t ht => (f1 _ (by omega)).1), f3.2⟩
      · simp [eh_ux, eh_ucap]
        exact ⟨eh_sm_nonneg (fun t ht => (f1 _ (by omega)).1), f5⟩
      · have k1 : ¬ k < 30 := by omega
        have k2 : ¬ k = 30 := by omega
        have k3 : ¬ k = 31 := by omega
        have k4 : ¬ k = 32 := by omega
        have k5 : ¬ k < 32 := by omega
        simp only [eh_ux, eh_ucap, k1, k2, k3, k4, k5, if_false]
        omega)
    (fun k hk => (h1 k hk).1)
    (by
      intro k hk hs
      have k1 : ¬ k < 30 := by omega
      have k2 : ¬ k = 30 := by omega
      have k3 : ¬ k = 31 := by omega
      have k4 : ¬ k = 32 := by omega
      have k5 : ¬ k < 33 := by omega
      simp [eh_ux, eh_uw, k1, k2, k3, k4, k5])
    (by
      intro k hk hs
      by_cases q : k < 30
      · simp only [eh_uw, q, if_true]
        have hp : 0 ≤ eh_pw k ∧ eh_pw k ≤ 1073741824 := by
          have := eh_pw_dist (n := 1) (q := fun _ => k) (s := fun _ => 1) (fun _ _ => Or.inl rfl) (fun i j h1 h2 => by omega)
          simp only [eh_sm, eh_pw, q, if_true] at this ⊢
          have h0 : (0 : Int) < 2 ^ k := Int.pow_pos (by decide)
          omega
        have := hc k q
        omega
      · have k5 : k < 33 := by omega
        simp only [eh_uw, q, k5, if_true, if_false]
        omega)
    (by decide) (by decide)
  have := q k0 hk1 hk0
  omega

/-- without a shortage the flow is a plan of least cost -/
theorem eh_nshort {c A B x p : Nat → Int} (h : eh_ufl c A B x p) (hs : ∀ k, 33 ≤ k → k < 41 → x k = 0)
    (hA : ∀ s, s < 6 → A s < 1000000000) : eh_feas c A B x ∧ eh_cert 4294967296 c A B x := by
  obtain ⟨h1, h2, h3, h4⟩ := h
  obtain ⟨e1, e2, e3, e4, e5, e6⟩ := eh_ubal_e x
  have r4 : eh_row x 4 = x 30 := by
    have := h4 4 (by omega)
    rw [e2] at this
    simp [eh_ug] at this
    omega
  have r5 : eh_row x 5 = x 31 := by
    have := h4 5 (by omega)
    rw [e3] at this
    simp [eh_ug] at this
    omega
  have c4 : eh_col x 4 = x 32 := by
    have := h4 10 (by omega)
    rw [e5] at this
    simp [eh_ug] at this
    omega
  have cap30 : eh_ucap c A B 30 = A 4 := by simp [eh_ucap]
  have cap31 : eh_ucap c A B 31 = A 5 := by simp [eh_ucap]
  have cap32 : eh_ucap c A B 32 = B 4 := by simp [eh_ucap]
  have rA : ∀ s, s < 6 → eh_row x s ≤ A s := by
    intro s hs6
    rcases (show s < 4 ∨ s = 4 ∨ s = 5 by omega) with z | rfl | rfl
    · have q := h4 s (by omega)
      rw [e1 s z, hs _ (by omega) (by omega)] at q
      simp only [eh_ug, z, if_true] at q
      omega
    · rw [r4]
      have q1 := (h1 30 (by omega)).2
      rw [cap30] at q1
      exact q1
    · rw [r5]
      have q1 := (h1 31 (by omega)).2
      rw [cap31] at q1
      exact q1
  refine ⟨⟨?_, ?_, ?_, ?_, ?_⟩, p, ?_, ?_, ?_, ?_, ?_⟩
  · intro k hk
    have q := h1 k (by omega)
    refine ⟨q.1, fun hc => ?_⟩
    have hc2 : ¬ 0 ≤ c k := by omega
    simp only [eh_ucap, hk, hc2, if_true, if_false] at q
    omega
  · intro s hs4
    have q := h4 s (by omega)
    rw [e1 s hs4, hs _ (by omega) (by omega)] at q
    simp only [eh_ug, hs4, if_true] at q
    omega
  · rw [r4, r5]
    have q1 := (h1 30 (by omega)).2
    have q2 := (h1 31 (by omega)).2
    rw [cap30] at q1
    rw [cap31] at q2
    exact ⟨q1, q2⟩
  · intro t ht
    have q := h4 (6 + t) (by omega)
    rw [e4 t ht, hs _ (by omega) (by omega)] at q
    have k0 : 6 + t - 6 = t := by omega
    have m1 : ¬ 6 + t < 4 := by omega
    have m2 : ¬ 6 + t < 6 := by omega
    have m3 : 6 + t < 10 := by omega
    simp only [eh_ug, k0, m1, m2, m3, if_true, if_false] at q
    omega
  · rw [c4]
    have q1 := (h1 32 (by omega)).2
    rw [cap32] at q1
    exact q1
  · intro k hk hc
    have q := h2 k (by omega)
    simp only [eh_ua, eh_ub, eh_uw, hk, if_true] at q
    by_cases hx : x k < eh_ucap c A B k
    · exact q hx
    · exfalso
      simp only [eh_ucap, hk, hc, if_true] at hx
      have z := eh_sm_ge_one (f := fun t => x (5 * (k / 5) + t)) (n := 5) (k := k % 5) (fun t ht => (h1 _ (by omega)).1) (by omega)
      have e2 : 5 * (k / 5) + k % 5 = k := by omega
      have z2 : x k ≤ eh_row x (k / 5) := by
        try dsimp only at z
        rw [e2] at z
        exact z
      have := rA (k / 5) (by omega)
      have := hA (k / 5) (by omega)
      omega
  · intro k hk hx
    have q := h3 k (by omega) hx
    simp only [eh_ua, eh_ub, eh_uw, hk, if_true] at q
    exact q
  · rw [r4]
    have q2 := h2 30 (by omega)
    have q3 := h3 30 (by omega)
    rw [cap30] at q2
    simp [eh_ua, eh_ub, eh_uw] at q2 q3
    exact ⟨q2, q3⟩
  · rw [r5]
    have q2 := h2 31 (by omega)
    have q3 := h3 31 (by omega)
    rw [cap31] at q2
    simp [eh_ua, eh_ub, eh_uw] at q2 q3
    exact ⟨q2, q3⟩
  · rw [c4]
    have q2 := h2 32 (by omega)
    have q3 := h3 32 (by omega)
    rw [cap32] at q2
    simp [eh_ua, eh_ub, eh_uw] at q2 q3
    exact ⟨q2, q3⟩
