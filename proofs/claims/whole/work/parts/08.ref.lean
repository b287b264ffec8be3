/-! the table of 7 sources and 6 sinks (a spare source 6, a spare sink 5) that the reference fills: f (6 s + t) -/
def eh_rc (c : Nat → Int) (s t : Nat) : Int :=
  if s < 6 ∧ t < 5 then c (5 * s + t) else if (s = 4 ∨ s = 5) ∧ t = 5 ∨ s = 6 ∧ 4 ≤ t then 0 else -1
def eh_rp (s t : Nat) : Int := if s < 6 ∧ t < 5 then eh_pw (5 * s + t) else 0

/-- what lies in the table, beside what is still to be given (su) and to be taken (de) -/
def eh_rf (c S D f su de : Nat → Int) : Prop :=
  (∀ s t, s < 7 → t < 6 → 0 ≤ f (6 * s + t) ∧ (eh_rc c s t < 0 → f (6 * s + t) = 0)) ∧
  (∀ s, s < 7 → 0 ≤ su s ∧ su s + eh_sm (fun t => f (6 * s + t)) 6 = S s) ∧
  (∀ t, t < 6 → 0 ≤ de t ∧ de t + eh_sm (fun s => f (6 * s + t)) 7 = D t)

def eh_ry (A B y : Nat → Int) (S6 : Int) (s t : Nat) : Int :=
  if s < 6 ∧ t < 5 then y (5 * s + t) else if s = 4 ∧ t = 5 then A 4 - eh_row y 4 else if s = 5 ∧ t = 5 then A 5 - eh_row y 5
  else if s = 6 ∧ t = 4 then B 4 - eh_col y 4 else if s = 6 ∧ t = 5 then S6 - (B 4 - eh_col y 4) else 0

set_option maxHeartbeats 4000000 in
/-- a plan fills the table -/
theorem eh_ry_ok {c A B S D y : Nat → Int} (h : eh_feas c A B y) (hS : ∀ s, s < 6 → S s = A s) (hD : ∀ t, t < 5 → D t = B t)
    (hSD : eh_sm S 7 = eh_sm D 6) (hS6 : B 4 ≤ S 6) :
    (∀ s t, s < 7 → t < 6 → 0 ≤ eh_ry A B y (S 6) s t ∧ (eh_rc c s t < 0 → eh_ry A B y (S 6) s t = 0)) ∧
    (∀ s, s < 7 → eh_sm (fun t => eh_ry A B y (S 6) s t) 6 = S s) ∧
    (∀ t, t < 6 → eh_sm (fun s => eh_ry A B y (S 6) s t) 7 = D t) := by
  obtain ⟨f1, f2, f3, f4, f5⟩ := h
  have c40 : 0 ≤ eh_col y 4 := eh_sm_nonneg (fun t ht => (f1 _ (by omega)).1)
  have hS0 := hS 0 (by omega); have hS1 := hS 1 (by omega); have hS2 := hS 2 (by omega)
  have hS3 := hS 3 (by omega); have hS4 := hS 4 (by omega); have hS5 := hS 5 (by omega)
  have hD0 := hD 0 (by omega); have hD1 := hD 1 (by omega); have hD2 := hD 2 (by omega)
  have hD3 := hD 3 (by omega); have hD4 := hD 4 (by omega)
  have a0 := f2 0 (by omega); have a1 := f2 1 (by omega); have a2 := f2 2 (by omega); have a3 := f2 3 (by omega)
  have b0 := f4 0 (by omega); have b1 := f4 1 (by omega); have b2 := f4 2 (by omega); have b3 := f4 3 (by omega)
  refine ⟨?_, ?_, ?_⟩
  · intro s t hs ht
    by_cases h1 : s < 6 ∧ t < 5
    · simp only [eh_ry, eh_rc, h1, if_true, and_self]
      exact f1 _ (by omega)
    · rcases (show (s = 4 ∧ t = 5) ∨ (s = 5 ∧ t = 5) ∨ (s = 6 ∧ t = 4) ∨ (s = 6 ∧ t = 5) ∨ (s < 4 ∧ t = 5) ∨ (s = 6 ∧ t < 4) by omega) with ⟨rfl, rfl⟩ | ⟨rfl, rfl⟩ | ⟨rfl, rfl⟩ | ⟨rfl, rfl⟩ | ⟨q, rfl⟩ | ⟨rfl, q⟩
      · simp [eh_ry, eh_rc]; exact f3.1
      · simp [eh_ry, eh_rc]; exact f3.2
      · simp [eh_ry, eh_rc]; exact f5
      · simp [eh_ry, eh_rc]; omega
      · have q1 : ¬ s = 4 := by omega
        have q2 : ¬ s = 5 := by omega
        have q3 : ¬ s = 6 := by omega
        simp [eh_ry, q1, q2, q3]
      · have q1 : ¬ t = 4 := by omega
        have q2 : ¬ t = 5 := by omega
        simp [eh_ry, q1, q2]
  · intro s hs
    rcases (show s = 0 ∨ s = 1 ∨ s = 2 ∨ s = 3 ∨ s = 4 ∨ s = 5 ∨ s = 6 by omega) with rfl | rfl | rfl | rfl | rfl | rfl | rfl <;>
      simp [eh_sm, eh_ry, eh_row_e, eh_col_e] at a0 a1 a2 a3 ⊢ <;> omega
  · have hsum : S 0 + S 1 + S 2 + S 3 + S 4 + S 5 + S 6 = D 0 + D 1 + D 2 + D 3 + D 4 + D 5 := by
      simpa [eh_sm] using hSD
    intro t ht
    rcases (show t = 0 ∨ t = 1 ∨ t = 2 ∨ t = 3 ∨ t = 4 ∨ t = 5 by omega) with rfl | rfl | rfl | rfl | rfl | rfl
    · simp [eh_sm, eh_ry, eh_col_e] at b0 ⊢; omega
    · simp [eh_sm, eh_ry, eh_col_e] at b1 ⊢; omega
    · simp [eh_sm, eh_ry, eh_col_e] at b2 ⊢; omega
    · simp [eh_sm, eh_ry, eh_col_e] at b3 ⊢; omega
    · simp [eh_sm, eh_ry, eh_col_e]; omega
    · simp [eh_sm, eh_ry, eh_row_e, eh_col_e] at a0 a1 a2 a3 b0 b1 b2 b3 ⊢; omega

/-- sums of a table against numbers of its rows and columns -/
theorem eh_tab (F : Nat → Nat → Int) (r : Nat → Int) (q : Nat → Int) (n m : Nat) :
    eh_sm (fun s => eh_sm (fun t => F s t * (r s - q t)) m) n
      = eh_sm (fun s => eh_sm (fun t => F s t) m * r s) n - eh_sm (fun t => eh_sm (fun s => F s t) n * q t) m := by
  have e1 : eh_sm (fun s => eh_sm (fun t => F s t * (r s - q t)) m) n
      = eh_sm (fun s => eh_sm (fun t => F s t * r s) m) n - eh_sm (fun s => eh_sm (fun t => F s t * q t) m) n := by
    rw [← eh_sm_sub]
    apply eh_sm_congr
    intro s _
    rw [← eh_sm_sub]
    apply eh_sm_congr
    intro t _
    rw [Int.mul_sub]
  rw [e1, eh_sm_swap (fun s t => F s t * q t)]
  congr 1
  · apply eh_sm_congr; intro s _; rw [eh_sm_mulr]
  · apply eh_sm_congr; intro t _; rw [eh_sm_mulr]

set_option maxHeartbeats 1000000 in
/-- the reached places cut the rest off: there is no plan -/
theorem eh_ref_none {c A B S D f su de : Nat → Int} (hf : eh_rf c S D f su de) (hS : ∀ s, s < 6 → S s = A s) (hD : ∀ t, t < 5 → D t = B t)
    (hSD : eh_sm S 7 = eh_sm D 6) (hS6 : B 4 ≤ S 6) (Rs Rt : Nat → Prop)
    (h1 : ∀ s, s < 7 → 0 < su s → Rs s) (h2 : ∀ s t, s < 7 → t < 6 → Rs s → 0 ≤ eh_rc c s t → Rt t)
    (h3 : ∀ s t, s < 7 → t < 6 → Rt t → 0 < f (6 * s + t) → Rs s) (h4 : ∀ t, t < 6 → Rt t → de t = 0)
    {t0 : Nat} (ht0 : t0 < 6) (hd0 : 0 < de t0) (y : Nat → Int) : ¬ eh_feas c A B y := by
  intro hy
  obtain ⟨y1, y2, y3⟩ := eh_ry_ok hy hS hD hSD hS6
  obtain ⟨g1, g2, g3⟩ := hf
  have dRs : ∀ s, Decidable (Rs s) := fun s => Classical.propDecidable _
  have dRt : ∀ t, Decidable (Rt t) := fun t => Classical.propDecidable _
  generalize eh_ry A B y (S 6) = Y at y1 y2 y3
  have e := eh_tab (fun s t => Y s t - f (6 * s + t)) (fun s => eh_in (Rs s)) (fun t => eh_in (Rt t)) 7 6
  have r1 : ∀ s, s < 7 → eh_sm (fun t => Y s t - f (6 * s + t)) 6 * eh_in (Rs s) = su s := by
    intro s hs
    rw [eh_sm_sub, y2 s hs]
    have q := g2 s hs
    by_cases hr : Rs s
    · simp only [eh_in, hr, if_true]; omega
    · simp only [eh_in, hr, if_false]
      have : ¬ 0 < su s := fun z => hr (h1 s hs z)
      omega
  have r2 : ∀ t, t < 6 → eh_sm (fun s => Y s t - f (6 * s + t)) 7 * eh_in (Rt t) = 0 := by
    intro t ht
    rw [eh_sm_sub, y3 t ht]
    have q := g3 t ht
    by_cases hr : Rt t
    · simp only [eh_in, hr, if_true]
      have := h4 t ht hr
      omega
    · simp only [eh_in, hr, if_false]; omega
  rw [eh_sm_congr (n := 7) r1, eh_sm_congr (n := 6) (g := fun _ => 0) r2, eh_sm_zero (f := fun _ => 0) (fun _ _ => rfl)] at e
  have le : eh_sm (fun s => eh_sm (fun t => (Y s t - f (6 * s + t)) * (eh_in (Rs s) - eh_in (Rt t))) 6) 7 ≤ 0 := by
    apply eh_sm_nonpos
    intro s hs
    apply eh_sm_nonpos
    intro t ht
    have q1 := y1 s t hs ht
    have q2 := g1 s t hs ht
    by_cases a : Rs s
    · by_cases b : Rt t
      · simp only [eh_in, a, b, if_true]; omega
      · have hc : eh_rc c s t < 0 := by
          apply Classical.byContradiction
          intro z
          exact b (h2 s t hs ht a (by omega))
        have := q1.2 hc
        have := q2.2 hc
        simp only [eh_in, a, b, if_true, if_false]; omega
    · by_cases b : Rt t
      · have : ¬ 0 < f (6 * s + t) := fun z => a (h3 s t hs ht b z)
        simp only [eh_in, a, b, if_true, if_false]; omega
      · simp only [eh_in, a, b, if_false]; omega
  -- the litres left on both sides are the same
  have tot : eh_sm su 7 = eh_sm de 6 := by
    have t1 : eh_sm S 7 = eh_sm su 7 + eh_sm (fun s => eh_sm (fun t => f (6 * s + t)) 6) 7 := by
      rw [← eh_sm_add]
      exact eh_sm_congr (fun s hs => (g2 s hs).2.symm)
    have t2 : eh_sm D 6 = eh_sm de 6 + eh_sm (fun t => eh_sm (fun s => f (6 * s + t)) 7) 6 := by
      rw [← eh_sm_add]
      exact eh_sm_congr (fun t ht => (g3 t ht).2.symm)
    rw [eh_sm_swap (fun s t => f (6 * s + t))] at t1
    omega
  have pos : 0 < eh_sm de 6 := by
    have := eh_sm_ge_one (f := de) (n := 6) (k := t0) (fun t ht => (g3 t ht).1) ht0
    omega
  have e2 : eh_sm (fun s => su s) 7 = eh_sm su 7 := rfl
  omega

set_option maxHeartbeats 1000000 in
/-- the full table with a right potential is the plan of least cost -/
theorem eh_ref_plan {c A B S D f g : Nat → Int} (hf : eh_rf c S D f (fun _ => 0) (fun _ => 0)) (hS : ∀ s, s < 6 → S s = A s) (hD : ∀ t, t < 5 → D t = B t)
    (hS6 : B 4 < S 6)
    (p1 : ∀ s t, s < 7 → t < 6 → 0 ≤ eh_rc c s t → g (7 + t) ≤ g s + (1152921504606846976 * eh_rc c s t + eh_rp s t))
    (p2 : ∀ s t, s < 7 → t < 6 → 0 < f (6 * s + t) → g s ≤ g (7 + t) - (1152921504606846976 * eh_rc c s t + eh_rp s t)) :
    eh_feas c A B (fun k => f (6 * (k / 5) + k % 5)) ∧ eh_cert 1152921504606846976 c A B (fun k => f (6 * (k / 5) + k % 5)) := by
  obtain ⟨g1, g2, g3⟩ := hf
  have key : ∀ k, k < 30 → k / 5 < 6 ∧ k % 5 < 5 ∧ 5 * (k / 5) + k % 5 = k := fun k hk => by omega
  have rowE : ∀ s, s < 6 → eh_row (fun k => f (6 * (k / 5) + k % 5)) s = eh_sm (fun t => f (6 * s + t)) 5 := by
    intro s hs
    apply eh_sm_congr
    intro t ht
    have e1 : (5 * s + t) / 5 = s := by omega
    have e2 : (5 * s + t) % 5 = t := by omega
    try dsimp only
    rw [e1, e2]
  have colE : ∀ t, t < 5 → eh_col (fun k => f (6 * (k / 5) + k % 5)) t = eh_sm (fun s => f (6 * s + t)) 6 := by
    intro t ht
    apply eh_sm_congr
    intro s hs
    have e1 : (5 * s + t) / 5 = s := by omega
    have e2 : (5 * s + t) % 5 = t := by omega
    try dsimp only
    rw [e1, e2]
  have rowS : ∀ s, s < 6 → eh_sm (fun t => f (6 * s + t)) 5 + f (6 * s + 5) = A s := by
    intro s hs
    have q : (0 : Int) + eh_sm (fun t => f (6 * s + t)) 6 = S s := (g2 s (by omega)).2
    rw [hS s hs] at q
    have e : eh_sm (fun t => f (6 * s + t)) 6 = eh_sm (fun t => f (6 * s + t)) 5 + f (6 * s + 5) := rfl
    omega
  have colS : ∀ t, t < 5 → eh_sm (fun s => f (6 * s + t)) 6 + f (36 + t) = B t := by
    intro t ht
    have q : (0 : Int) + eh_sm (fun s => f (6 * s + t)) 7 = D t := (g3 t (by omega)).2
    rw [hD t ht] at q
    have e : eh_sm (fun s => f (6 * s + t)) 7 = eh_sm (fun s => f (6 * s + t)) 6 + f (6 * 6 + t) := rfl
    have e2 : 6 * 6 + t = 36 + t := by omega
    rw [e2] at e
    omega
  have z5 : ∀ s, s < 4 → f (6 * s + 5) = 0 := by
    intro s hs
    refine (g1 s 5 (by omega) (by omega)).2 ?_
    have q1 : ¬ s = 4 := by omega
    have q2 : ¬ s = 5 := by omega
    have q3 : ¬ s = 6 := by omega
    simp [eh_rc, q1, q2, q3]
  have z6 : ∀ t, t < 4 → f (36 + t) = 0 := by
    intro t ht
    have q := (g1 6 t (by omega) (by omega)).2
    have e2 : 6 * 6 + t = 36 + t := by omega
    rw [e2] at q
    refine q ?_
    have q1 : ¬ 4 ≤ t := by omega
    simp [eh_rc, q1]
  have f41 : 0 < f 41 := by
    have q := (g2 6 (by omega)).2
    have q4 := colS 4 (by omega)
    have n6 : 0 ≤ eh_sm (fun s => f (6 * s + 4)) 6 := eh_sm_nonneg (fun s hs => (g1 s 4 (by omega) (by omega)).1)
    have m0 := z6 0 (by omega)
    have m1 := z6 1 (by omega)
    have m2 := z6 2 (by omega)
    have m3 := z6 3 (by omega)
    simp [eh_sm] at q m0 m1 m2 m3 q4 n6
    omega
  have o1 : g 12 = g 6 := by
    have q1 := p1 6 5 (by omega) (by omega) (by simp [eh_rc])
    have q2 := p2 6 5 (by omega) (by omega) f41
    simp [eh_rc, eh_rp] at q1 q2
    omega
  refine ⟨⟨?_, ?_, ?_, ?_, ?_⟩, fun v => if v < 6 then g v else g (v + 1), ?_, ?_, ?_, ?_, ?_⟩
  · intro k hk
    obtain ⟨k1, k2, k3⟩ := key k hk
    have q := g1 (k / 5) (k % 5) (by omega) (by omega)
    refine ⟨q.1, fun hc => q.2 ?_⟩
    simp only [eh_rc, k1, k2, k3, and_self, if_true]
    exact hc
  · intro s hs
    rw [rowE s (by omega)]
    have := rowS s (by omega)
    have := z5 s hs
    omega
  · rw [rowE 4 (by omega), rowE 5 (by omega)]
    have q1 := rowS 4 (by omega)
    have q2 := rowS 5 (by omega)
    have q3 := (g1 4 5 (by omega) (by omega)).1
    have q4 := (g1 5 5 (by omega) (by omega)).1
    omega
  · intro t ht
    rw [colE t (by omega)]
    have := colS t (by omega)
    have := z6 t ht
    omega
  · rw [colE 4 (by omega)]
    have q1 := colS 4 (by omega)
    have q3 := (g1 6 4 (by omega) (by omega)).1
    have e2 : 6 * 6 + 4 = 36 + 4 := by omega
    rw [e2] at q3
    omega
  · intro k hk hc
    obtain ⟨k1, k2, k3⟩ := key k hk
    have q := p1 (k / 5) (k % 5) (by omega) (by omega) (by simp only [eh_rc, k1, k2, k3, and_self, if_true]; exact hc)
    simp only [eh_rc, eh_rp, k1, k2, k3, and_self, if_true] at q
    have m1 : ¬ 6 + k % 5 < 6 := by omega
    have m2 : 6 + k % 5 + 1 = 7 + k % 5 := by omega
    simp only [k1, m1, m2, if_true, if_false]
    exact q
  · intro k hk hy
    obtain ⟨k1, k2, k3⟩ := key k hk
    have q := p2 (k / 5) (k % 5) (by omega) (by omega) hy
    simp only [eh_rc, eh_rp, k1, k2, k3, and_self, if_true] at q
    have m1 : ¬ 6 + k % 5 < 6 := by omega
    have m2 : 6 + k % 5 + 1 = 7 + k % 5 := by omega
    simp only [k1, m1, m2, if_true, if_false]
    exact q
  · rw [rowE 4 (by omega)]
    have q1 := rowS 4 (by omega)
    have q2 := p1 4 5 (by omega) (by omega) (by simp [eh_rc])
    have q3 := p2 4 5 (by omega) (by omega)
    simp [eh_rc, eh_rp] at q1 q2 q3 ⊢
    exact ⟨fun z => q3 (by omega), fun _ => q2⟩
  · rw [rowE 5 (by omega)]
    have q1 := rowS 5 (by omega)
    have q2 := p1 5 5 (by omega) (by omega) (by simp [eh_rc])
    have q3 := p2 5 5 (by omega) (by omega)
    simp [eh_rc, eh_rp] at q1 q2 q3 ⊢
    exact ⟨fun z => q3 (by omega), fun _ => q2⟩
  · rw [colE 4 (by omega)]
    have q1 := colS 4 (by omega)
    have q2 := p1 6 4 (by omega) (by omega) (by simp [eh_rc])
    have q3 := p2 6 4 (by omega) (by omega)
    simp [eh_rc, eh_rp] at q1 q2 q3 ⊢
    exact ⟨fun z => by have := q3 (by omega); omega, fun _ => by omega⟩
