/-! circulations: sum against a potential, uniqueness by a simple cycle, the cut of a shortage -/
def eh_in (p : Prop) [Decidable p] : Int := if p then 1 else 0

/-- z is a circulation on the nodes below N with the edges k < K from a k to b k -/
def eh_circ (K N : Nat) (a b : Nat → Nat) (z : Nat → Int) : Prop :=
  ∀ v, v < N → eh_sm (fun k => z k * (eh_in (a k = v) - eh_in (b k = v))) K = 0

theorem eh_pick (r : Nat → Int) {N u : Nat} (hu : u < N) : eh_sm (fun v => r v * eh_in (u = v)) N = r u := by
  rw [eh_sm_one hu]
  · simp [eh_in]
  · intro i _ hne
    have : ¬ u = i := fun e => hne e.symm
    simp [eh_in, this]

theorem eh_circ_pot {K N : Nat} {a b : Nat → Nat} {z : Nat → Int} (hab : ∀ k, k < K → a k < N ∧ b k < N)
    (hc : eh_circ K N a b z) (r : Nat → Int) : eh_sm (fun k => z k * (r (a k) - r (b k))) K = 0 := by
  have h1 : eh_sm (fun k => z k * (r (a k) - r (b k))) K
      = eh_sm (fun k => eh_sm (fun v => r v * (z k * (eh_in (a k = v) - eh_in (b k = v)))) N) K := by
    apply eh_sm_congr
    intro k hk
    have h2 := eh_pick r (hab k hk).1
    have h3 := eh_pick r (hab k hk).2
    rw [← h2, ← h3, ← eh_sm_sub, ← eh_sm_mul]
    apply eh_sm_congr
    intro v _
    rw [← Int.mul_sub, ← Int.mul_assoc, ← Int.mul_assoc, Int.mul_comm (z k) (r v)]
  rw [h1, eh_sm_swap]
  apply eh_sm_zero
  intro v hv
  rw [eh_sm_mul, hc v hv, Int.mul_zero]

/-- where an edge of z comes in, an edge of z goes out -/
theorem eh_next {K N : Nat} {a b : Nat → Nat} {z : Nat → Int} (hab : ∀ k, k < K → a k < N ∧ b k < N)
    (hc : eh_circ K N a b z) (k : Nat) (hk : k < K) (hz : z k ≠ 0) :
    ∃ k', k' < K ∧ z k' ≠ 0 ∧ (if 0 < z k' then a k' else b k') = (if 0 < z k then b k else a k) := by
  apply Classical.byContradiction
  intro hn
  have hn' : ∀ j, j < K → z j ≠ 0 → (if 0 < z j then a j else b j) ≠ (if 0 < z k then b k else a k) :=
    fun j hj h0 e => hn ⟨j, hj, h0, e⟩
  generalize hv : (if 0 < z k then b k else a k) = v at hn'
  have hvN : v < N := by
    rw [← hv]
    split
    · exact (hab k hk).2
    · exact (hab k hk).1
  have h0 := hc v hvN
  have h1 : eh_sm (fun k => z k * (eh_in (a k = v) - eh_in (b k = v))) K < 0 := by
    apply eh_sm_neg (k := k) _ hk
    · have h2 := hn' k hk hz
      by_cases hp : 0 < z k
      · simp only [hp, if_true] at hv h2
        have h3 : ¬ a k = v := h2
        have h4 : b k = v := hv
        simp only [eh_in, h3, h4, if_true, if_false]
        omega
      · simp only [hp, if_false] at hv h2
        have h3 : ¬ b k = v := h2
        have h4 : a k = v := hv
        simp only [eh_in, h3, h4, if_true, if_false]
        omega
    · intro j hj
      by_cases hj0 : z j = 0
      · simp [hj0]
      · have h2 := hn' j hj hj0
        by_cases hp : 0 < z j
        · simp only [hp, if_true] at h2
          have h3 : ¬ a j = v := h2
          by_cases h4 : b j = v
          · simp only [eh_in, h3, h4, if_true, if_false]; omega
          · simp only [eh_in, h3, h4, if_false]; omega
        · simp only [hp, if_false] at h2
          have h3 : ¬ b j = v := h2
          by_cases h4 : a j = v
          · simp only [eh_in, h3, h4, if_true, if_false]; omega
          · simp only [eh_in, h3, h4, if_false]; omega
  omega

/-- the power of 2 of an edge: none for q from 30 on -/
def eh_pw (q : Nat) : Int := if q < 30 then 2 ^ q else 0

theorem eh_pw_sum (q : Nat) (s : Int) : s * eh_pw q = eh_sm (fun m => (if q = m then s else 0) * 2 ^ m) 30 := by
  by_cases h : q < 30
  · rw [eh_sm_one h]
    · simp [eh_pw, h]
    · intro i _ hne
      have : ¬ q = i := fun e => hne e.symm
      simp [this]
  · rw [eh_sm_zero]
    · simp [eh_pw, h]
    · intro i hi
      have : ¬ q = i := by omega
      simp [this]

/-- at most one of the terms isn't 0, each is -1, 0 or 1 -/
theorem eh_sm_unit {f : Nat → Int} {n : Nat} (h : ∀ i, i < n → -1 ≤ f i ∧ f i ≤ 1)
    (hu : ∀ i j, i < j → j < n → f i = 0 ∨ f j = 0) : -1 ≤ eh_sm f n ∧ eh_sm f n ≤ 1 := by
  by_cases hc : ∃ k, k < n ∧ f k ≠ 0
  · obtain ⟨k, hk, hf⟩ := hc
    rw [eh_sm_one hk]
    · exact h k hk
    · intro i hi hne
      by_cases hik : i < k
      · rcases hu i k hik hk with e | e
        · exact e
        · exact absurd e hf
      · rcases hu k i (by omega) hi with e | e
        · exact absurd e hf
        · exact e
  · rw [eh_sm_zero]
    · omega
    · intro i hi
      apply Classical.byContradiction
      intro hf
      exact hc ⟨i, hi, hf⟩

/-- signed different powers: the sum is below 2^30 in size, and 0 only where there is no power -/
theorem eh_pw_dist {n : Nat} {q : Nat → Nat} {s : Nat → Int} (hs : ∀ l, l < n → s l = 1 ∨ s l = -1)
    (hq : ∀ i j, i < j → j < n → q i < 30 → q i ≠ q j) :
    (eh_sm (fun l => s l * eh_pw (q l)) n < 2 ^ 30 ∧ -(2 ^ 30 : Int) < eh_sm (fun l => s l * eh_pw (q l)) n) ∧
    (eh_sm (fun l => s l * eh_pw (q l)) n = 0 → ∀ l, l < n → 30 ≤ q l) := by
  have e : eh_sm (fun l => s l * eh_pw (q l)) n
      = eh_sm (fun m => eh_sm (fun l => if q l = m then s l else 0) n * 2 ^ m) 30 := by
    have e1 : eh_sm (fun l => s l * eh_pw (q l)) n
        = eh_sm (fun l => eh_sm (fun m => (if q l = m then s l else 0) * 2 ^ m) 30) n :=
      eh_sm_congr (fun l _ => eh_pw_sum (q l) (s l))
    rw [e1, eh_sm_swap]
    apply eh_sm_congr
    intro m _
    rw [eh_sm_mulr]
  have hd := eh_dig (fun m => eh_sm (fun l => if q l = m then s l else 0) n) 30 (by
    intro m hm
    apply eh_sm_unit
    · intro l hl
      try dsimp only
      split
      · rcases hs l hl with h | h <;> omega
      · omega
    · intro i j hij hj
      try dsimp only
      by_cases h1 : q i = m
      · right
        have h2 := hq i j hij hj (by omega)
        have h3 : ¬ q j = m := by omega
        simp [h3]
      · left
        simp [h1])
  rw [e]
  refine ⟨hd.1, fun h0 l hl => ?_⟩
  apply Classical.byContradiction
  intro hlt
  have h1 := hd.2 h0 (q l) (by omega)
  try dsimp only at h1
  rw [eh_sm_one hl] at h1
  · simp at h1
    rcases hs l hl with h | h <;> omega
  · intro i hi hne
    have h3 : ¬ q i = q l := by
      intro e
      by_cases hil : i < l
      · exact hq i l hil hl (by omega) e
      · exact hq l i (by omega) hi (by omega) e.symm
    simp [h3]

set_option maxHeartbeats 1000000 in
/-- a circulation that neither of two right potentials allows to be improved is 0: costs c, different powers of 2 (q), and beside them a star of edges (q from 30 on) around one node o -/
theorem eh_uniq {K N o : Nat} {a b q : Nat → Nat} {c z p1 p2 : Nat → Int} {M1 M2 : Int}
    (hab : ∀ k, k < K → a k < N ∧ b k < N) (hc : eh_circ K N a b z)
    (h1 : ∀ k, k < K → 0 < z k → p1 (b k) ≤ p1 (a k) + (M1 * c k + eh_pw (q k)))
    (h1' : ∀ k, k < K → z k < 0 → p1 (a k) ≤ p1 (b k) - (M1 * c k + eh_pw (q k)))
    (h2 : ∀ k, k < K → 0 < z k → p2 (a k) ≤ p2 (b k) - (M2 * c k + eh_pw (q k)))
    (h2' : ∀ k, k < K → z k < 0 → p2 (b k) ≤ p2 (a k) + (M2 * c k + eh_pw (q k)))
    (hq : ∀ i j, i < K → j < K → q i < 30 → q i = q j → i = j)
    (hst : ∀ k, k < K → 30 ≤ q k → (a k = o ∧ b k ≠ o) ∨ (a k ≠ o ∧ b k = o))
    (hsi : ∀ i j, i < K → j < K → 30 ≤ q i → 30 ≤ q j → ∀ v, v ≠ o → (a i = v ∨ b i = v) → (a j = v ∨ b j = v) → i = j)
    (hM1 : 2 ^ 30 ≤ M1) (hM2 : 2 ^ 30 ≤ M2) : ∀ k, k < K → z k = 0 := by
  intro k0 hk0
  apply Classical.byContradiction
  intro hz0
  obtain ⟨nx, hnx⟩ := Classical.axiomOfChoice (r := fun (k k' : Nat) => k < K → z k ≠ 0 → (k' < K ∧ z k' ≠ 0 ∧ (if 0 < z k' then a k' else b k') = (if 0 < z k then b k else a k))) (by
    intro k
    by_cases hk : k < K
    · by_cases hz : z k ≠ 0
      · obtain ⟨k', h⟩ := eh_next hab hc k hk hz
        exact ⟨k', fun _ _ => h⟩
      · exact ⟨0, fun _ h => absurd h hz⟩
    · exact ⟨0, fun h _ => absurd h hk⟩)
  have hS : ∀ i, eh_it nx k0 i < K ∧ z (eh_it nx k0 i) ≠ 0 := by
    intro i
    induction i with
    | zero => exact ⟨hk0, hz0⟩
    | succ i ih => exact ⟨(hnx _ ih.1 ih.2).1, (hnx _ ih.1 ih.2).2.1⟩
  have hstep : ∀ i, (if 0 < z (eh_it nx k0 (i + 1)) then a (eh_it nx k0 (i + 1)) else b (eh_it nx k0 (i + 1)))
      = (if 0 < z (eh_it nx k0 i) then b (eh_it nx k0 i) else a (eh_it nx k0 i)) :=
    fun i => (hnx _ (hS i).1 (hS i).2).2.2
  generalize eh_it nx k0 = e at hS hstep
  obtain ⟨i, j, hij, hjN, he, hd⟩ := eh_cyc N (fun i => if 0 < z (e i) then a (e i) else b (e i)) (by
    intro i
    try dsimp only
    have := hab _ (hS i).1
    split <;> omega)
  obtain ⟨n, rfl⟩ : ∃ n, j = i + n := ⟨j - i, by omega⟩
  have hn0 : 0 < n := by omega
  -- node l of the cycle
  have hnode : ∀ l, (if 0 < z (e (i + l)) then b (e (i + l)) else a (e (i + l))) = (if 0 < z (e (i + (l + 1))) then a (e (i + (l + 1))) else b (e (i + (l + 1)))) :=
    fun l => (hstep (i + l)).symm
  have hdi : ∀ x y, x < y → y < n → e (i + x) ≠ e (i + y) := by
    intro x y hxy hy heq
    apply hd (i + x) (i + y) (by omega) (by omega)
    try dsimp only
    rw [heq]
  have g1 : ∀ l, p1 (if 0 < z (e (i + (l + 1))) then a (e (i + (l + 1))) else b (e (i + (l + 1)))) - p1 (if 0 < z (e (i + l)) then a (e (i + l)) else b (e (i + l))) ≤ (if 0 < z (e (i + l)) then 1 else -1) * (M1 * c (e (i + l)) + eh_pw (q (e (i + l)))) := by
    intro l
    rw [← hnode l]
    have hk := (hS (i + l)).1
    have hz := (hS (i + l)).2
    by_cases hp : 0 < z (e (i + l))
    · have := h1 _ hk hp
      simp only [hp, if_true]
      omega
    · have := h1' _ hk (by omega)
      simp only [hp, if_false]
      omega
  have g2 : ∀ l, (if 0 < z (e (i + l)) then 1 else -1) * (M2 * c (e (i + l)) + eh_pw (q (e (i + l)))) ≤ p2 (if 0 < z (e (i + (l + 1))) then a (e (i + (l + 1))) else b (e (i + (l + 1)))) - p2 (if 0 < z (e (i + l)) then a (e (i + l)) else b (e (i + l))) := by
    intro l
    rw [← hnode l]
    have hk := (hS (i + l)).1
    have hz := (hS (i + l)).2
    by_cases hp : 0 < z (e (i + l))
    · have := h2 _ hk hp
      simp only [hp, if_true]
      omega
    · have := h2' _ hk (by omega)
      simp only [hp, if_false]
      omega
  have s1 := eh_sm_le (n := n) (fun l _ => g1 l)
  have s2 := eh_sm_le (n := n) (fun l _ => g2 l)
  have t1 := eh_sm_tel (fun l => p1 (if 0 < z (e (i + l)) then a (e (i + l)) else b (e (i + l)))) n
  have t2 := eh_sm_tel (fun l => p2 (if 0 < z (e (i + l)) then a (e (i + l)) else b (e (i + l)))) n
  rw [t1] at s1
  rw [t2] at s2
  try dsimp only at he
  have u1 : p1 (if 0 < z (e (i + n)) then a (e (i + n)) else b (e (i + n))) - p1 (if 0 < z (e (i + 0)) then a (e (i + 0)) else b (e (i + 0))) = 0 := by
    rw [Nat.add_zero, ← he]; omega
  have u2 : p2 (if 0 < z (e (i + n)) then a (e (i + n)) else b (e (i + n))) - p2 (if 0 < z (e (i + 0)) then a (e (i + 0)) else b (e (i + 0))) = 0 := by
    rw [Nat.add_zero, ← he]; omega
  rw [u1] at s1
  rw [u2] at s2
  have hsum : ∀ M : Int, eh_sm (fun l => (if 0 < z (e (i + l)) then 1 else -1) * (M * c (e (i + l)) + eh_pw (q (e (i + l))))) n
      = M * eh_sm (fun l => (if 0 < z (e (i + l)) then 1 else -1) * c (e (i + l))) n + eh_sm (fun l => (if 0 < z (e (i + l)) then 1 else -1) * eh_pw (q (e (i + l)))) n := by
    intro M
    rw [← eh_sm_mul, ← eh_sm_add]
    apply eh_sm_congr
    intro l _
    rw [Int.mul_add, ← Int.mul_assoc, ← Int.mul_assoc, Int.mul_comm M]
  rw [hsum] at s1 s2
  have hP := eh_pw_dist (n := n) (q := fun l => q (e (i + l))) (s := fun l => if 0 < z (e (i + l)) then 1 else -1)
    (by intro l _; (try dsimp only); split <;> simp)
    (by
      intro x y hxy hy hlt heq
      exact hdi x y hxy hy (hq _ _ (hS _).1 (hS _).1 hlt heq))
  try dsimp only at hP
  generalize eh_sm (fun l => (if 0 < z (e (i + l)) then 1 else -1) * c (e (i + l))) n = C at s1 s2
  generalize eh_sm (fun l => (if 0 < z (e (i + l)) then 1 else -1) * eh_pw (q (e (i + l)))) n = P at s1 s2 hP
  obtain ⟨⟨hPu, hPl⟩, hP0⟩ := hP
  have hC0 : C = 0 := by
    have k1 : 0 ≤ C := by
      apply Classical.byContradiction
      intro hneg
      have : M1 * C ≤ M1 * (-1) := Int.mul_le_mul_of_nonneg_left (by omega) (by omega)
      omega
    have k2 : C ≤ 0 := by
      apply Classical.byContradiction
      intro hpos
      have : M2 * 1 ≤ M2 * C := Int.mul_le_mul_of_nonneg_left (by omega) (by omega)
      omega
    omega
  rw [hC0, Int.mul_zero] at s1 s2
  have hP00 : P = 0 := by omega
  have hstar := hP0 hP00
  -- all edges of the cycle are edges of the star
  have hends : ∀ l, (if 0 < z (e (i + l)) then a (e (i + l)) else b (e (i + l))) ≠ (if 0 < z (e (i + l)) then b (e (i + l)) else a (e (i + l))) ∨ n ≤ l := by
    intro l
    by_cases hl : l < n
    · left
      rcases hst _ (hS (i + l)).1 (hstar l hl) with h | h <;> split <;> omega
    · right; omega
  have same : ∀ x y v, x < n → y < n → v ≠ o →
      (if 0 < z (e (i + x)) then b (e (i + x)) else a (e (i + x))) = v →
      (if 0 < z (e (i + y)) then a (e (i + y)) else b (e (i + y))) = v → e (i + x) = e (i + y) := by
    intro x y v hx hy hv e1 e2
    apply hsi _ _ (hS _).1 (hS _).1 (hstar x hx) (hstar y hy) v hv
    · split at e1
      · exact Or.inr e1
      · exact Or.inl e1
    · split at e2
      · exact Or.inl e2
      · exact Or.inr e2
  have he0 : (if 0 < z (e (i + n)) then a (e (i + n)) else b (e (i + n))) = (if 0 < z (e (i + 0)) then a (e (i + 0)) else b (e (i + 0))) := he.symm
  by_cases n1 : n = 1
  · subst n1
    have h3 := hnode 0
    rcases hends 0 with h | h
    · exact h (by rw [h3]; exact he0.symm)
    · omega
  · -- n ≥ 2
    by_cases hv : (if 0 < z (e (i + (0 + 1))) then a (e (i + (0 + 1))) else b (e (i + (0 + 1)))) = o
    · -- node 1 is o, node 2 is not
      have h4 : (if 0 < z (e (i + 1)) then b (e (i + 1)) else a (e (i + 1))) ≠ o := by
        rcases hends 1 with h | h
        · intro hh; exact h (by rw [hh]; exact hv)
        · omega
      by_cases n2 : n = 2
      · subst n2
        have h5 := hnode 1
        exact hdi 0 1 (by omega) (by omega) (same 1 0 _ (by omega) (by omega) h4 rfl (by rw [h5]; exact he0.symm)).symm
      · exact hdi 1 2 (by omega) (by omega) (same 1 2 _ (by omega) (by omega) h4 rfl (hnode 1).symm)
    · exact hdi 0 1 (by omega) (by omega) (same 0 1 _ (by omega) (by omega) hv (hnode 0) rfl)

/-- between two potentials that are far apart there is a place where no potential lies -/
theorem eh_gap (N : Nat) (r : Nat → Int) (u : Nat) (hu : u < N) (B : Int) (hB : 0 < B) :
    ∃ i : Nat, i < N ∧ ∀ v, v < N → r v ≤ r u + i * B ∨ r u + i * B + B < r v := by
  apply Classical.byContradiction
  intro hn
  obtain ⟨f, hf⟩ := Classical.axiomOfChoice (r := fun (i v : Nat) => (i < N → v < N ∧ r u + i * B < r v ∧ r v ≤ r u + i * B + B) ∧ (¬ i < N → v = u)) (by
    intro i
    by_cases hi : i < N
    · have h1 : ¬ ∀ v, v < N → r v ≤ r u + i * B ∨ r u + i * B + B < r v := fun h => hn ⟨i, hi, h⟩
      have h2 : ∃ v, ¬ (v < N → r v ≤ r u + i * B ∨ r u + i * B + B < r v) := by
        apply Classical.byContradiction
        intro h3
        exact h1 (fun v => Classical.byContradiction (fun h4 => h3 ⟨v, h4⟩))
      obtain ⟨v, hv⟩ := h2
      have hvN : v < N := Classical.byContradiction (fun h => hv (fun h' => absurd h' h))
      refine ⟨v, fun _ => ⟨hvN, ?_, ?_⟩, fun h => absurd hi h⟩
      · apply Classical.byContradiction; intro h; exact hv (fun _ => Or.inl (by omega))
      · apply Classical.byContradiction; intro h; exact hv (fun _ => Or.inr (by omega))
    · exact ⟨u, fun h => absurd h hi, fun _ => rfl⟩)
  obtain ⟨i, j, hij, hj, he⟩ := eh_pig N f (by
    intro i hi
    by_cases h : i < N
    · exact ((hf i).1 h).1
    · rw [(hf i).2 h]; exact hu)
  have h1 := (hf i).1 (by omega)
  have hiB : (0 : Int) ≤ i * B := Int.mul_nonneg (by omega) (by omega)
  by_cases h : j < N
  · have h2 := (hf j).1 h
    rw [← he] at h2
    have h3 : (i : Int) * B + B ≤ j * B := by
      have : ((i : Int) + 1) * B ≤ j * B := Int.mul_le_mul_of_nonneg_right (by omega) (by omega)
      rw [Int.add_mul, Int.one_mul] at this
      exact this
    omega
  · have h2 := (hf j).2 h
    rw [← he] at h2
    rw [h2] at h1
    omega

set_option maxHeartbeats 1000000 in
/-- what is short at a right potential is short in every flow of the same balances -/
theorem eh_cut {K N : Nat} {a b : Nat → Nat} {w x y cap p : Nat → Int} {sh : Nat → Prop} {B D : Int}
    (hab : ∀ k, k < K → a k < N ∧ b k < N) (hc : eh_circ K N a b (fun k => y k - x k))
    (hf : ∀ k, k < K → x k < cap k → p (b k) ≤ p (a k) + w k)
    (hb : ∀ k, k < K → 0 < x k → p (a k) ≤ p (b k) - w k)
    (hy : ∀ k, k < K → 0 ≤ y k ∧ y k ≤ cap k) (hx : ∀ k, k < K → 0 ≤ x k)
    (hsh : ∀ k, k < K → sh k → w k = D ∧ y k = 0) (hns : ∀ k, k < K → ¬ sh k → -B ≤ w k ∧ w k ≤ B)
    (hB : 0 < B) (hD : N * B ≤ D) : ∀ k, k < K → sh k → x k = 0 := by
  intro k0 hk0 hs0
  apply Classical.byContradiction
  intro hx0
  obtain ⟨i, hi, hg⟩ := eh_gap N p (a k0) (hab k0 hk0).1 B hB
  generalize hth : p (a k0) + i * B = th at hg
  have hiB : (0 : Int) ≤ i * B := Int.mul_nonneg (by omega) (by omega)
  have hiD : (i : Int) * B + B ≤ D := by
    have h1 : ((i : Int) + 1) * B ≤ N * B := Int.mul_le_mul_of_nonneg_right (by omega) (by omega)
    rw [Int.add_mul, Int.one_mul] at h1
    omega
  have h0 := eh_circ_pot hab hc (fun v => eh_in (p v ≤ th))
  try dsimp only at h0
  have h1 : eh_sm (fun k => (y k - x k) * (eh_in (p (a k) ≤ th) - eh_in (p (b k) ≤ th))) K < 0 := by
    apply eh_sm_neg (k := k0) _ hk0
    · have hx1 := hx k0 hk0
      have h2 := hb k0 hk0 (by omega)
      have h3 := (hsh k0 hk0 hs0)
      have h4 : p (a k0) ≤ th := by omega
      have h5 : ¬ p (b k0) ≤ th := by omega
      simp only [eh_in, h4, h5, if_true, if_false, h3.2]
      omega
    · intro k hk
      have ga := hg _ (hab k hk).1
      have gb := hg _ (hab k hk).2
      have hyk := hy k hk
      have hxk := hx k hk
      by_cases h4 : p (a k) ≤ th
      · by_cases h5 : p (b k) ≤ th
        · simp only [eh_in, h4, h5, if_true]; omega
        · simp only [eh_in, h4, h5, if_true, if_false]
          have h6 : y k ≤ x k := by
            by_cases hs : sh k
            · have := hsh k hk hs; omega
            · have h7 := hns k hk hs
              apply Classical.byContradiction
              intro h8
              have h9 := hf k hk (by omega)
              omega
          omega
      · by_cases h5 : p (b k) ≤ th
        · simp only [eh_in, h4, h5, if_true, if_false]
          have h6 : x k ≤ 0 := by
            apply Classical.byContradiction
            intro h8
            have h9 := hb k hk (by omega)
            by_cases hs : sh k
            · have := hsh k hk hs; omega
            · have h7 := hns k hk hs
              omega
          omega
        · simp only [eh_in, h4, h5, if_false]; omega
  omega
