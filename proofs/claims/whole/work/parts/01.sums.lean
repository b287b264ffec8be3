/-! sums over 0 .. n-1, the pigeonhole, the least number with a property -/
def eh_sm (f : Nat → Int) : Nat → Int
  | 0 => 0
  | n + 1 => eh_sm f n + f n

theorem eh_sm_congr {f g : Nat → Int} {n : Nat} (h : ∀ i, i < n → f i = g i) : eh_sm f n = eh_sm g n := by
  induction n with
  | zero => rfl
  | succ n ih =>
    show eh_sm f n + f n = eh_sm g n + g n
    rw [ih (fun i hi => h i (Nat.lt_succ_of_lt hi)), h n (Nat.lt_succ_self n)]

theorem eh_sm_add (f g : Nat → Int) (n : Nat) : eh_sm (fun i => f i + g i) n = eh_sm f n + eh_sm g n := by
  induction n with
  | zero => rfl
  | succ n ih => simp only [eh_sm, ih]; omega

theorem eh_sm_sub (f g : Nat → Int) (n : Nat) : eh_sm (fun i => f i - g i) n = eh_sm f n - eh_sm g n := by
  induction n with
  | zero => rfl
  | succ n ih => simp only [eh_sm, ih]; omega

theorem eh_sm_mul (c : Int) (f : Nat → Int) (n : Nat) : eh_sm (fun i => c * f i) n = c * eh_sm f n := by
  induction n with
  | zero => simp [eh_sm]
  | succ n ih => simp only [eh_sm, ih, Int.mul_add]

theorem eh_sm_mulr (c : Int) (f : Nat → Int) (n : Nat) : eh_sm (fun i => f i * c) n = eh_sm f n * c := by
  induction n with
  | zero => simp [eh_sm]
  | succ n ih => simp only [eh_sm, ih, Int.add_mul]

theorem eh_sm_zero {f : Nat → Int} {n : Nat} (h : ∀ i, i < n → f i = 0) : eh_sm f n = 0 := by
  induction n with
  | zero => rfl
  | succ n ih =>
    show eh_sm f n + f n = 0
    rw [ih (fun i hi => h i (Nat.lt_succ_of_lt hi)), h n (Nat.lt_succ_self n)]
    rfl

theorem eh_sm_le {f g : Nat → Int} {n : Nat} (h : ∀ i, i < n → f i ≤ g i) : eh_sm f n ≤ eh_sm g n := by
  induction n with
  | zero => exact Int.le_refl _
  | succ n ih =>
    have h1 := ih (fun i hi => h i (Nat.lt_succ_of_lt hi))
    have h2 := h n (Nat.lt_succ_self n)
    show eh_sm f n + f n ≤ eh_sm g n + g n
    omega

theorem eh_sm_nonneg {f : Nat → Int} {n : Nat} (h : ∀ i, i < n → 0 ≤ f i) : 0 ≤ eh_sm f n := by
  have h1 := eh_sm_le (f := fun _ => 0) (g := f) (n := n) h
  rw [eh_sm_zero (fun _ _ => rfl)] at h1
  exact h1

theorem eh_sm_nonpos {f : Nat → Int} {n : Nat} (h : ∀ i, i < n → f i ≤ 0) : eh_sm f n ≤ 0 := by
  have h1 := eh_sm_le (f := f) (g := fun _ => 0) (n := n) h
  rw [eh_sm_zero (f := fun _ => 0) (fun _ _ => rfl)] at h1
  exact h1

theorem eh_sm_neg {f : Nat → Int} {n k : Nat} (h : ∀ i, i < n → f i ≤ 0) (hk : k < n) (hn : f k < 0) : eh_sm f n < 0 := by
  induction n with
  | zero => omega
  | succ n ih =>
    show eh_sm f n + f n < 0
    have h2 := h n (Nat.lt_succ_self n)
    have h3 := eh_sm_nonpos (f := f) (n := n) (fun i hi => h i (Nat.lt_succ_of_lt hi))
    by_cases e : k = n
    · subst e; omega
    · have h1 := ih (fun i hi => h i (Nat.lt_succ_of_lt hi)) (by omega)
      omega

theorem eh_sm_ge_one {f : Nat → Int} {n k : Nat} (h : ∀ i, i < n → 0 ≤ f i) (hk : k < n) : f k ≤ eh_sm f n := by
  induction n with
  | zero => omega
  | succ n ih =>
    show f k ≤ eh_sm f n + f n
    have h2 := h n (Nat.lt_succ_self n)
    have h3 := eh_sm_nonneg (f := f) (n := n) (fun i hi => h i (Nat.lt_succ_of_lt hi))
    by_cases e : k = n
    · subst e; omega
    · have h1 := ih (fun i hi => h i (Nat.lt_succ_of_lt hi)) (by omega)
      omega

theorem eh_sm_one {f : Nat → Int} {n k : Nat} (hk : k < n) (h : ∀ i, i < n → i ≠ k → f i = 0) : eh_sm f n = f k := by
  induction n with
  | zero => omega
  | succ n ih =>
    show eh_sm f n + f n = f k
    by_cases e : k = n
    · subst e
      rw [eh_sm_zero (fun i hi => h i (by omega) (by omega))]
      omega
    · rw [ih (by omega) (fun i hi hne => h i (by omega) hne), h n (Nat.lt_succ_self n) (by omega)]
      omega

theorem eh_sm_swap (f : Nat → Nat → Int) (n m : Nat) :
    eh_sm (fun i => eh_sm (fun j => f i j) m) n = eh_sm (fun j => eh_sm (fun i => f i j) n) m := by
  induction n with
  | zero =>
    show (0 : Int) = _
    exact (eh_sm_zero (fun _ _ => rfl)).symm
  | succ n ih =>
    show eh_sm (fun i => eh_sm (fun j => f i j) m) n + eh_sm (fun j => f n j) m = _
    rw [ih, ← eh_sm_add]
    rfl

theorem eh_sm_split (f : Nat → Int) (n m : Nat) : eh_sm f (n + m) = eh_sm f n + eh_sm (fun i => f (n + i)) m := by
  induction m with
  | zero => show eh_sm f n = eh_sm f n + 0; omega
  | succ m ih =>
    show eh_sm f (n + m) + f (n + m) = eh_sm f n + (eh_sm (fun i => f (n + i)) m + f (n + m))
    rw [ih]; omega

theorem eh_sm_tel (g : Nat → Int) (n : Nat) : eh_sm (fun i => g (i + 1) - g i) n = g n - g 0 := by
  induction n with
  | zero => show (0 : Int) = g 0 - g 0; omega
  | succ n ih => show eh_sm (fun i => g (i + 1) - g i) n + (g (n + 1) - g n) = _; rw [ih]; omega

theorem eh_pig (n : Nat) : ∀ (f : Nat → Nat), (∀ i, i ≤ n → f i < n) → ∃ i j, i < j ∧ j ≤ n ∧ f i = f j := by
  induction n with
  | zero => intro f h; exact absurd (h 0 (Nat.le_refl 0)) (Nat.not_lt_zero _)
  | succ n ih =>
    intro f h
    by_cases hc : ∃ i, i ≤ n ∧ f i = f (n + 1)
    · obtain ⟨i, hi, he⟩ := hc
      exact ⟨i, n + 1, by omega, Nat.le_refl _, he⟩
    · have hc' : ∀ i, i ≤ n → f i ≠ f (n + 1) := fun i hi he => hc ⟨i, hi, he⟩
      obtain ⟨i, j, hij, hj, he⟩ := ih (fun i => if f (n + 1) < f i then f i - 1 else f i) (by
        intro i hi
        have h1 := h i (by omega)
        have h2 := h (n + 1) (Nat.le_refl _)
        have h3 := hc' i hi
        split <;> omega)
      refine ⟨i, j, hij, by omega, ?_⟩
      have h3 := hc' i (by omega)
      have h4 := hc' j hj
      split at he <;> split at he <;> omega

theorem eh_least (P : Nat → Prop) (h : ∃ k, P k) : ∃ k, P k ∧ ∀ j, j < k → ¬ P j := by
  obtain ⟨k, hk⟩ := h
  induction k using Nat.strongRecOn with
  | _ k ih =>
    by_cases hc : ∃ j, j < k ∧ P j
    · obtain ⟨j, hj, hp⟩ := hc
      exact ih j hj hp
    · exact ⟨k, hk, fun j hj hp => hc ⟨j, hj, hp⟩⟩

/-- a sequence of places below n meets one twice; between the first such two nothing comes twice -/
theorem eh_cyc (n : Nat) (f : Nat → Nat) (h : ∀ i, f i < n) :
    ∃ i j, i < j ∧ j ≤ n ∧ f i = f j ∧ ∀ a b, a < b → b < j → f a ≠ f b := by
  obtain ⟨i0, j0, h1, h2, h3⟩ := eh_pig n f (fun i _ => h i)
  obtain ⟨j, ⟨i, hi, he⟩, hm⟩ := eh_least (fun j => ∃ i, i < j ∧ f i = f j) ⟨j0, i0, h1, h3⟩
  have hj : j ≤ j0 := by
    apply Classical.byContradiction
    intro hn
    exact hm j0 (by omega) ⟨i0, h1, h3⟩
  exact ⟨i, j, hi, by omega, he, fun a b hab hb e => hm b hb ⟨a, hab, e⟩⟩

/-- signed digits -1, 0, 1 in base 2: the sum is small, and 0 only if all are 0 -/
theorem eh_dig (t : Nat → Int) (n : Nat) (h : ∀ m, m < n → -1 ≤ t m ∧ t m ≤ 1) :
    (eh_sm (fun m => t m * 2 ^ m) n < 2 ^ n ∧ -(2 ^ n : Int) < eh_sm (fun m => t m * 2 ^ m) n) ∧
    (eh_sm (fun m => t m * 2 ^ m) n = 0 → ∀ m, m < n → t m = 0) := by
  induction n with
  | zero => exact ⟨by simp [eh_sm], fun _ m hm => by omega⟩
  | succ n ih =>
    obtain ⟨⟨h1, h2⟩, h3⟩ := ih (fun m hm => h m (by omega))
    have h4 := h n (Nat.lt_succ_self n)
    have e : eh_sm (fun m => t m * 2 ^ m) (n + 1) = eh_sm (fun m => t m * 2 ^ m) n + t n * 2 ^ n := rfl
    have e2 : (2 : Int) ^ (n + 1) = 2 * 2 ^ n := by rw [Int.pow_succ]; omega
    rw [e, e2]
    generalize hx : (2 : Int) ^ n = x at h1 h2 ⊢
    generalize hs : eh_sm (fun m => t m * 2 ^ m) n = s at h1 h2 h3 ⊢
    have h5 : t n = -1 ∨ t n = 0 ∨ t n = 1 := by omega
    rcases h5 with h5 | h5 | h5
    · rw [h5]
      exact ⟨by omega, fun hz => by omega⟩
    · rw [h5]
      refine ⟨by omega, fun hz m hm => ?_⟩
      by_cases e : m = n
      · subst e; exact h5
      · exact h3 (by omega) m (by omega)
    · rw [h5]
      exact ⟨by omega, fun hz => by omega⟩

def eh_it (nx : Nat → Nat) (k0 : Nat) : Nat → Nat
  | 0 => k0
  | i + 1 => nx (eh_it nx k0 i)
