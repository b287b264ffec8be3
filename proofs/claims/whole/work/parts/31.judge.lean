/-! sums over the hauls, the first place with a property, what judge looks at, the curve -/
def eh_kc (n : Nat) (ra : Int) (ln cb ys yp : Nat → Int) (k : Nat) : Int := eh_ku n ra ln cb ys yp (k / 5) (k % 5)
theorem eh_kc_at (n : Nat) (ra : Int) (ln cb ys yp : Nat → Int) {a b : Nat} (hb : b < 5) : eh_kc n ra ln cb ys yp (5 * a + b) = eh_ku n ra ln cb ys yp a b := by
  unfold eh_kc
  rw [show (5 * a + b) / 5 = a by omega, show (5 * a + b) % 5 = b by omega]
def eh_ph (c : Nat → Int) (m : Nat) : Int := eh_sm (fun k => if c k = -1 then 0 else 1) m
def eh_wo (c la : Nat → Int) (m : Nat) : Int := eh_sm (fun k => if c k = -1 then 0 else c k * la k) m
def eh_ob (cb : Nat → Int) (m : Nat) : Int := eh_sm (fun k => if cb k = 0 then 1 else 0) m
theorem eh_ph_b (c : Nat → Int) (m : Nat) : 0 ≤ eh_ph c m ∧ eh_ph c m ≤ m := by
  induction m with
  | zero => exact ⟨Int.le_refl _, Int.le_refl _⟩
  | succ m ih =>
    show 0 ≤ eh_ph c m + (if c m = -1 then 0 else 1) ∧ eh_ph c m + (if c m = -1 then 0 else 1) ≤ ((m + 1 : Nat) : Int)
    split <;> omega
theorem eh_ob_b (c : Nat → Int) (m : Nat) : 0 ≤ eh_ob c m ∧ eh_ob c m ≤ m := by
  induction m with
  | zero => exact ⟨Int.le_refl _, Int.le_refl _⟩
  | succ m ih =>
    show 0 ≤ eh_ob c m + (if c m = 0 then 1 else 0) ∧ eh_ob c m + (if c m = 0 then 1 else 0) ≤ ((m + 1 : Nat) : Int)
    split <;> omega
def eh_first (P : Nat → Bool) : Nat → Option Nat
  | 0 => none
  | n + 1 => match eh_first P n with
    | some k => some k
    | none => if P n then some n else none
theorem eh_first_s {P : Nat → Bool} {i : Nat} (h : eh_first P i = none) (hp : P i = false) : eh_first P (i + 1) = none := by
  show (match eh_first P i with | some k => some k | none => if P i then some i else none) = none
  rw [h]; simp [hp]
theorem eh_first_at {P : Nat → Bool} {i : Nat} (h : eh_first P i = none) (hp : P i = true) : ∀ n, i < n → eh_first P n = some i := by
  intro n hn
  induction n with
  | zero => omega
  | succ n ih =>
    show (match eh_first P n with | some k => some k | none => if P n then some n else none) = some i
    by_cases e : i = n
    · subst e; rw [h]; simp [hp]
    · rw [ih (by omega)]
def eh_fo (o : Option Nat) (d z : Int) : Int := match o with
  | some k => d + (k : Int)
  | none => z
/-- what a source gives, what a sink wants -/
def eh_gv (n : Nat) (sh : Int) (ln : Nat → Int) (cu cl : Nat → Nat) (yl : Nat → Int) (k : Nat) : Int := if k < 4 then (if k + 1 < n then eh_plc cu cl ln sh k else 0) else yl (k - 4)
def eh_wn (n : Nat) (ln : Nat → Int) (fu fl : Nat → Nat) (yl : Nat → Int) (k : Nat) : Int := if k < 4 then (if k + 1 < n then eh_kut fu fl ln k else 0) else yl 2
def eh_sb (n : Nat) (sh : Int) (ln la : Nat → Int) (cu cl : Nat → Nat) (yl : Nat → Int) (k : Nat) : Bool :=
  if k < 4 then decide (eh_row la k ≠ eh_gv n sh ln cu cl yl k) else decide (eh_gv n sh ln cu cl yl k < eh_row la k)
def eh_tb (n : Nat) (ln la : Nat → Int) (fu fl : Nat → Nat) (yl : Nat → Int) (k : Nat) : Bool :=
  if k < 4 then decide (eh_col la k ≠ eh_wn n ln fu fl yl k) else decide (eh_wn n ln fu fl yl k < eh_col la k)
def eh_ib (c la : Nat → Int) (k : Nat) : Bool := decide (0 < la k ∧ c k = -1)
def eh_jg (n : Nat) (sh ra : Int) (ln cb la : Nat → Int) (cu cl fu fl : Nat → Nat) (ys yl yp : Nat → Int) : Int :=
  eh_fo (eh_first (eh_sb n sh ln la cu cl yl) 6) 0 (eh_fo (eh_first (eh_tb n ln la fu fl yl) 5) 6 (eh_fo (eh_first (eh_ib (eh_kc n ra ln cb ys yp) la) 30) 100 (-1)))
/-- the curve, and where it is balanced -/
def eh_cv (cu cl fu fl : Nat → Nat) (ln : Nat → Int) (sh : Int) (k : Nat) : Int := eh_sm (fun j => eh_plc cu cl ln sh j - eh_kut fu fl ln j) k
def eh_isb (f : Nat → Int) (k : Nat) : Bool :=
  decide (f k = 0 ∨ (f k < 0 ∧ 0 < (if k = 0 then 0 else f (k - 1))) ∨ (0 < f k ∧ (if k = 0 then 0 else f (k - 1)) < 0))
def eh_bc (f : Nat → Int) (m : Nat) : Int := eh_sm (fun k => if eh_isb f k then 1 else 0) m
def eh_bl (f : Nat → Int) (n : Nat) (i : Int) : Int := eh_fo (eh_first (fun k => eh_isb f k && decide (eh_bc f k = i)) n) 0 (-1)
theorem eh_bc_b (f : Nat → Int) (m : Nat) : 0 ≤ eh_bc f m ∧ eh_bc f m ≤ m := by
  induction m with
  | zero => exact ⟨Int.le_refl _, Int.le_refl _⟩
  | succ m ih =>
    show 0 ≤ eh_bc f m + (if eh_isb f m then 1 else 0) ∧ eh_bc f m + (if eh_isb f m then 1 else 0) ≤ ((m + 1 : Nat) : Int)
    split <;> omega
section
variable {n : Nat} {sh ra : Int} {ln cb la : Nat → Int} {cu cl fu fl : Nat → Nat} {ys yl yp : Nat → Int}
theorem eh_cv_b (h : eh_ES n sh ra ln cb la cu cl fu fl ys yl yp) (k : Nat) (hk : k < n ∨ k = 0) : -10000000 * (k : Int) ≤ eh_cv cu cl fu fl ln sh k ∧ eh_cv cu cl fu fl ln sh k ≤ 10000000 * (k : Int) := by
  induction k with
  | zero => exact ⟨by show (-10000000 : Int) * 0 ≤ 0; omega, by show (0 : Int) ≤ 10000000 * 0; omega⟩
  | succ k ih =>
    have h1 := ih (by omega)
    have h2 := eh_plc_b h (show k + 1 < n by omega)
    have h3 := eh_fil_b h (show k + 1 < n by omega)
    show -10000000 * ((k + 1 : Nat) : Int) ≤ eh_cv cu cl fu fl ln sh k + (eh_plc cu cl ln sh k - eh_kut fu fl ln k) ∧ eh_cv cu cl fu fl ln sh k + (eh_plc cu cl ln sh k - eh_kut fu fl ln k) ≤ 10000000 * ((k + 1 : Nat) : Int)
    omega
end
