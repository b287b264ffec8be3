/-! what the making of the plan keeps -/
section
variable {c A B : Nat → Int} {K : Nat} {a b : Nat → Nat} {w cap x : Nat → Int}

theorem eh_net_cap (hn : eh_net c A B K a b w cap) (h4 : A 4 ≤ 1000000000) (h5 : A 5 ≤ 1000000000) (hB : B 4 ≤ 1000000000) : ∀ k, k < K → cap k ≤ 1000000000 := by
  intro k hk
  obtain ⟨rfl, h2⟩ := hn
  obtain ⟨u, q1, q2, q3⟩ := eh_io_sur hk
  have := (h2 u q1 q2).2.2.2
  rw [q3] at this
  rw [this]
  unfold eh_ucap
  by_cases g1 : u < 30
  · rw [if_pos g1]; split <;> omega
  · rw [if_neg g1]
    by_cases g2 : u < 32
    · rw [if_pos g2]
      rcases (show u = 30 ∨ u = 31 by omega) with rfl | rfl
      · exact h4
      · exact h5
    · rw [if_neg g2]; split <;> omega
theorem eh_net_cap0 (hn : eh_net c A B K a b w cap) (h4 : 0 ≤ A 4) (h5 : 0 ≤ A 5) (hB : 0 ≤ B 4) : ∀ k, k < K → 0 ≤ cap k := by
  intro k hk
  obtain ⟨rfl, h2⟩ := hn
  obtain ⟨u, q1, q2, q3⟩ := eh_io_sur hk
  have := (h2 u q1 q2).2.2.2
  rw [q3] at this
  rw [this]
  unfold eh_ucap
  by_cases g1 : u < 30
  · rw [if_pos g1]; split <;> omega
  · rw [if_neg g1]
    by_cases g2 : u < 32
    · rw [if_pos g2]
      rcases (show u = 30 ∨ u = 31 by omega) with rfl | rfl
      · exact h4
      · exact h5
    · rw [if_neg g2]; split <;> omega

/-- with nothing flowing the potential 0 is right -/
theorem eh_pl_z (hn : eh_net c A B K a b w cap) (h4 : 0 ≤ A 4) (h5 : 0 ≤ A 5) (hB : 0 ≤ B 4) (hx : ∀ k, k < K → x k = 0) (s t : Nat) : eh_pl c K a b w cap s t 0 x := by
  have hcap := eh_net_cap0 hn h4 h5 hB
  apply eh_pl_0 (p := fun _ => 0)
  · intro k hk; rw [hx k hk]; exact ⟨Int.le_refl _, hcap k hk⟩
  · intro e he hr
    obtain ⟨u, q1, q2, q3, h | h⟩ := eh_net_e hn he
    · rw [h.2.2.2]
      have : 0 ≤ eh_uw c u := by
        unfold eh_uw
        by_cases g1 : u < 30
        · rw [if_pos g1]
          have hc := q2 g1
          have hp : 0 ≤ eh_pw u := by
            unfold eh_pw
            rw [if_pos g1]
            exact Int.le_of_lt (Int.pow_pos (by decide))
          omega
        · rw [if_neg g1]; split <;> omega
      show (0 : Int) ≤ 0 + eh_uw c u
      omega
    · exfalso
      unfold eh_rm at hr
      rw [if_neg (by omega), hx (e / 2) (by omega)] at hr
      omega

/-- whatever start and end: the turns of the next push begin anew -/
theorem eh_pl_re {s t s' t' : Nat} (h : eh_pl c K a b w cap s t 0 x) : eh_pl c K a b w cap s' t' 0 x := by
  obtain ⟨h1, p, D, h2, _, _⟩ := h
  exact eh_pl_0 h1 h2

theorem eh_xu_nn (hn : eh_net c A B K a b w cap) (hx : ∀ k, k < K → 0 ≤ x k ∧ x k ≤ cap k) {u : Nat} (hu : u < 41) : 0 ≤ eh_xu c x u := by
  by_cases hv : eh_va c u
  · rw [eh_xu_va hv]
    have := eh_io_lt hu hv
    rw [← hn.1] at this
    exact (hx _ this).1
  · have : u < 30 ∧ ¬ 0 ≤ c u := by
      apply Classical.byContradiction
      intro z
      apply hv
      intro z1
      apply Classical.byContradiction
      intro z2
      exact z ⟨z1, z2⟩
    unfold eh_xu
    rw [if_pos this]
    exact Int.le_refl _

theorem eh_hw_p (hn : eh_net c A B K a b w cap) {k : Nat} (hk : k < 4) {lit : Int} (hb : eh_bal K a b x k + lit < 1000000000) : eh_hw K a b cap x k 11 lit := by
  intro x' f h0 hf hx' hbal
  have hio : eh_io c (33 + k) = 2 * k := by unfold eh_io; rw [if_neg (by omega), if_neg (by omega), if_pos (by omega)]; omega
  have hv : eh_va c (33 + k) := fun z => by omega
  have hlt := eh_io_lt (c := c) (u := 33 + k) (by omega) hv
  obtain ⟨q1, q2, q3, q4⟩ := hn.2 (33 + k) (by omega) hv
  rw [hio] at q1 q2 q3 q4 hlt
  have hKK := hn.1
  refine ⟨2 * (2 * k), by omega, ?_, ?_, ?_⟩
  · unfold eh_tl
    rw [if_pos (by omega), show 2 * (2 * k) / 2 = 2 * k by omega, q1]
    unfold eh_ua
    rw [if_neg (by omega), if_neg (by omega), if_neg (by omega), if_pos (by omega)]; omega
  · unfold eh_hd
    rw [if_pos (by omega), show 2 * (2 * k) / 2 = 2 * k by omega, q2]
    unfold eh_ub
    rw [if_neg (by omega), if_neg (by omega), if_pos (by omega)]
  · unfold eh_rm
    rw [if_pos (by omega), show 2 * (2 * k) / 2 = 2 * k by omega, q4]
    have hc1 : eh_ucap c A B (33 + k) = 1000000000 := by
      unfold eh_ucap
      rw [if_neg (by omega), if_neg (by omega), if_neg (by omega)]
    rw [hc1]
    have hb2 := hbal k (by omega)
    have e1 : eh_bal K a b x' k = eh_ubal (eh_xu c x') k := eh_net_bal hn x' k
    rw [e1, (eh_ubal_e (eh_xu c x')).1 k hk, eh_xu_va hv, hio] at hb2
    have hrow : 0 ≤ eh_row (eh_xu c x') k := eh_sm_nonneg (fun t ht => eh_xu_nn hn hx' (by omega))
    have i1 : eh_in (k = k) = 1 := by simp [eh_in]
    have i2 : eh_in (11 = k) = 0 := by
      have : ¬ 11 = k := by omega
      simp [eh_in, this]
    rw [i1, i2] at hb2
    omega

theorem eh_hw_f (hn : eh_net c A B K a b w cap) {k : Nat} (hk : k < 4) {lit : Int} (hb : lit - eh_bal K a b x (6 + k) < 1000000000) : eh_hw K a b cap x 11 (6 + k) lit := by
  intro x' f h0 hf hx' hbal
  have hio : eh_io c (37 + k) = 2 * k + 1 := by unfold eh_io; rw [if_neg (by omega), if_neg (by omega), if_neg (by omega)]; omega
  have hv : eh_va c (37 + k) := fun z => by omega
  have hlt := eh_io_lt (c := c) (u := 37 + k) (by omega) hv
  obtain ⟨q1, q2, q3, q4⟩ := hn.2 (37 + k) (by omega) hv
  rw [hio] at q1 q2 q3 q4 hlt
  have hKK := hn.1
  refine ⟨2 * (2 * k + 1), by omega, ?_, ?_, ?_⟩
  · unfold eh_tl
    rw [if_pos (by omega), show 2 * (2 * k + 1) / 2 = 2 * k + 1 by omega, q1]
    unfold eh_ua
    rw [if_neg (by omega), if_neg (by omega), if_neg (by omega), if_neg (by omega)]
  · unfold eh_hd
    rw [if_pos (by omega), show 2 * (2 * k + 1) / 2 = 2 * k + 1 by omega, q2]
    unfold eh_ub
    rw [if_neg (by omega), if_neg (by omega), if_neg (by omega)]; omega
  · unfold eh_rm
    rw [if_pos (by omega), show 2 * (2 * k + 1) / 2 = 2 * k + 1 by omega, q4]
    have hc1 : eh_ucap c A B (37 + k) = 1000000000 := by
      unfold eh_ucap
      rw [if_neg (by omega), if_neg (by omega), if_neg (by omega)]
    rw [hc1]
    have hb2 := hbal (6 + k) (by omega)
    have e1 : eh_bal K a b x' (6 + k) = eh_ubal (eh_xu c x') (6 + k) := eh_net_bal hn x' (6 + k)
    rw [e1, (eh_ubal_e (eh_xu c x')).2.2.2.1 k hk, eh_xu_va hv, hio] at hb2
    have hcol : 0 ≤ eh_col (eh_xu c x') k := eh_sm_nonneg (fun t ht => eh_xu_nn hn hx' (by omega))
    have i1 : eh_in (11 = 6 + k) = 0 := by
      have : ¬ 11 = 6 + k := by omega
      simp [eh_in, this]
    have i2 : eh_in (6 + k = 6 + k) = 1 := by simp [eh_in]
    rw [i1, i2] at hb2
    omega
end

/-- the balances after the pushes of the first i placed and the first j filled spans -/
def eh_bb (A B : Nat → Int) (i j v : Nat) : Int := eh_sm (fun k => A k * (eh_in (k = v) - eh_in (11 = v))) i + eh_sm (fun k => B k * (eh_in (11 = v) - eh_in (6 + k = v))) j
theorem eh_bb_end {A B : Nat → Int} {m : Nat} (hm : m ≤ 4) (hA : ∀ k, m ≤ k → k < 4 → A k = 0) (hB : ∀ k, m ≤ k → k < 4 → B k = 0) : ∀ v, v < 12 → eh_bb A B m m v = eh_ug A B v := by
  have ext : ∀ (f : Nat → Int) (m : Nat), m ≤ 4 → (∀ k, m ≤ k → k < 4 → f k = 0) → eh_sm f m = eh_sm f 4 := by
    intro f m hm hf
    have : ∀ d, m + d ≤ 4 → eh_sm f m = eh_sm f (m + d) := by
      intro d
      induction d with
      | zero => intro _; rfl
      | succ d ih =>
        intro hd
        show _ = eh_sm f (m + d) + f (m + d)
        rw [← ih (by omega), hf (m + d) (by omega) (by omega)]
        omega
    have q := this (4 - m) (by omega)
    rw [show m + (4 - m) = 4 by omega] at q
    exact q
  intro v hv
  unfold eh_bb
  rw [ext _ m hm (fun k h1 h2 => by rw [hA k h1 h2, Int.zero_mul]), ext _ m hm (fun k h1 h2 => by rw [hB k h1 h2, Int.zero_mul])]
  rcases (show v = 0 ∨ v = 1 ∨ v = 2 ∨ v = 3 ∨ v = 4 ∨ v = 5 ∨ v = 6 ∨ v = 7 ∨ v = 8 ∨ v = 9 ∨ v = 10 ∨ v = 11 by omega) with rfl | rfl | rfl | rfl | rfl | rfl | rfl | rfl | rfl | rfl | rfl | rfl <;>
    simp [eh_sm, eh_in, eh_ug] <;> omega

/-- the network after the plan was made: pco is the plan's cost, or -1 where something is short -/
def eh_PS (c A B : Nat → Int) (K : Nat) (a b : Nat → Nat) (w cap x gT gH gR gW gA : Nat → Int) (pco : Int) : Prop :=
  eh_net c A B K a b w cap ∧ eh_NS K a b w cap x gT gH gR gW ∧ (∀ m, m < 30 → gA m = if 0 ≤ c m then ((2 * (8 + eh_H c m) : Nat) : Int) else -1) ∧
  eh_pl c K a b w cap 11 11 0 x ∧ (∀ v, v < 12 → eh_bal K a b x v = eh_ug A B v) ∧
  ((pco = -1 ∧ ∃ k, k < 8 ∧ 0 < x k) ∨ (pco = eh_tt c (eh_xu c x) 30 ∧ ∀ k, k < 8 → ¬ 0 < x k))

theorem eh_bb_p (A B : Nat → Int) {i : Nat} (hi : i < 4) : eh_bb A B i 0 i = 0 := by
  unfold eh_bb
  rw [eh_sm_zero (n := i) (fun k hk => by
    have h1 : ¬ k = i := by omega
    have h2 : ¬ 11 = i := by omega
    simp [eh_in, h1, h2])]
  rfl
theorem eh_bb_f (A B : Nat → Int) {m j : Nat} (hm : m ≤ 4) (hj : j < 4) : eh_bb A B m j (6 + j) = 0 := by
  unfold eh_bb
  rw [eh_sm_zero (n := m) (fun k hk => by
    have h1 : ¬ k = 6 + j := by omega
    have h2 : ¬ 11 = 6 + j := by omega
    simp [eh_in, h1, h2]), eh_sm_zero (n := j) (fun k hk => by
    have h1 : ¬ 6 + k = 6 + j := by omega
    have h2 : ¬ 11 = 6 + j := by omega
    have h3 : ¬ k = j := by omega
    simp [eh_in, h2, h3])]
  rfl
theorem eh_bb_sp (A B : Nat → Int) (i v : Nat) : eh_bb A B (i + 1) 0 v = eh_bb A B i 0 v + A i * (eh_in (i = v) - eh_in (11 = v)) := by
  show eh_sm _ i + A i * (eh_in (i = v) - eh_in (11 = v)) + 0 = eh_sm _ i + 0 + A i * (eh_in (i = v) - eh_in (11 = v))
  omega
theorem eh_bb_sf (A B : Nat → Int) (m j v : Nat) : eh_bb A B m (j + 1) v = eh_bb A B m j v + B j * (eh_in (11 = v) - eh_in (6 + j = v)) := by
  show eh_sm _ m + (eh_sm _ j + B j * (eh_in (11 = v) - eh_in (6 + j = v))) = eh_sm _ m + eh_sm _ j + B j * (eh_in (11 = v) - eh_in (6 + j = v))
  omega
theorem eh_bal_0 {K : Nat} {a b : Nat → Nat} {x : Nat → Int} (h : ∀ k, k < K → x k = 0) (A B : Nat → Int) (v : Nat) : eh_bal K a b x v = eh_bb A B 0 0 v := by
  unfold eh_bal
  rw [eh_sm_zero (fun k hk => by rw [h k hk, Int.zero_mul])]
  rfl
