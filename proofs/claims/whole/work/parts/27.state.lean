/-! the state of the road, what it must keep, litres, costs -/
/-- a fraction as it stands in a section -/
def eh_FS (u v : Nat) : Prop := 0 < v ∧ v ≤ 40000 ∧ u ≤ 20000 * v
def eh_lt (u1 v1 u2 v2 : Nat) (len : Int) : Int := (((u1 : Int) * v2 + (u2 : Int) * v1) * len * 5 + (v1 : Int) * v2) / (2 * ((v1 : Int) * v2))
theorem eh_lt_b {u1 v1 u2 v2 : Nat} {len : Int} (h1 : eh_FS u1 v1) (h2 : eh_FS u2 v2) (hl : 0 ≤ len ∧ len ≤ 100) :
    (0 < (v1 : Int) * v2 ∧ (v1 : Int) * v2 ≤ 1600000000) ∧ (0 ≤ ((u1 : Int) * v2 + (u2 : Int) * v1) * len * 5 ∧ ((u1 : Int) * v2 + (u2 : Int) * v1) * len * 5 ≤ 32000000000000000) ∧
    (0 ≤ eh_lt u1 v1 u2 v2 len ∧ eh_lt u1 v1 u2 v2 len ≤ 10000000) := by
  obtain ⟨a1, a2, a3⟩ := h1
  obtain ⟨b1, b2, b3⟩ := h2
  have p0 : (0 : Int) < (v1 : Int) * v2 := Int.mul_pos (by omega) (by omega)
  have p1 : (v1 : Int) * v2 ≤ 40000 * 40000 := Int.mul_le_mul (by omega) (by omega) (by omega) (by omega)
  have q1 : (u1 : Int) * v2 ≤ 20000 * v1 * v2 := Int.mul_le_mul_of_nonneg_right (by omega) (by omega)
  have q2 : (u2 : Int) * v1 ≤ 20000 * v2 * v1 := Int.mul_le_mul_of_nonneg_right (by omega) (by omega)
  have q3 : (20000 : Int) * v1 * v2 = 20000 * (v1 * v2) := Int.mul_assoc _ _ _
  have q4 : (20000 : Int) * v2 * v1 = 20000 * (v1 * v2) := by rw [Int.mul_assoc, Int.mul_comm (v2 : Int) v1]
  have z1 : (0 : Int) ≤ (u1 : Int) * v2 := Int.mul_nonneg (by omega) (by omega)
  have z2 : (0 : Int) ≤ (u2 : Int) * v1 := Int.mul_nonneg (by omega) (by omega)
  unfold eh_lt
  generalize (v1 : Int) * v2 = V at *
  generalize hN : (u1 : Int) * v2 + (u2 : Int) * v1 = N at *
  have n1 : N ≤ 40000 * V := by omega
  have n0 : 0 ≤ N := by omega
  have m1 : N * len ≤ 40000 * V * 100 := Int.mul_le_mul n1 hl.2 hl.1 (by omega)
  have m0 : 0 ≤ N * len := Int.mul_nonneg n0 hl.1
  refine ⟨⟨p0, by omega⟩, ⟨by omega, by omega⟩, Int.ediv_nonneg (by omega) (by omega), ?_⟩
  have : (N * len * 5 + V) / (2 * V) < 10000001 := Int.ediv_lt_of_lt_mul (by omega) (by omega)
  omega

def eh_kut (cu cl : Nat → Nat) (ln : Nat → Int) (k : Nat) : Int := eh_lt (cu k) (cl k) (cu (k + 1)) (cl (k + 1)) (ln k)
def eh_plc (cu cl : Nat → Nat) (ln : Nat → Int) (sh : Int) (k : Nat) : Int := eh_kut cu cl ln k * sh / 1000

/-- the state: n stations, shrink, rate, lengths, closed borders (0, 1), laid litres, twice the areas of cut and fill, yards (span or -1, litres, price) -/
def eh_ES (n : Nat) (sh ra : Int) (ln cb la : Nat → Int) (cu cl fu fl : Nat → Nat) (ys yl yp : Nat → Int) : Prop :=
  n ≤ 5 ∧ (500 ≤ sh ∧ sh ≤ 1000) ∧ (0 ≤ ra ∧ ra ≤ 100) ∧ (∀ k, k + 1 < n → 1 ≤ ln k ∧ ln k ≤ 100) ∧ (∀ k, k < 3 → cb k = 0 ∨ cb k = 1) ∧
  (∀ k, k < 30 → 0 ≤ la k ∧ la k ≤ 100000000) ∧ (∀ i, i < n → eh_FS (cu i) (cl i) ∧ eh_FS (fu i) (fl i)) ∧
  (∀ i, i < 3 → (ys i = -1 ∧ yl i = 0 ∧ yp i = 0) ∨ (0 ≤ ys i ∧ ys i + 1 < n ∧ (0 ≤ yl i ∧ yl i ≤ 100000000) ∧ (0 ≤ yp i ∧ yp i ≤ 1000)))

section
variable {n : Nat} {sh ra : Int} {ln cb la : Nat → Int} {cu cl fu fl : Nat → Nat} {ys yl yp : Nat → Int}
theorem eh_kut_b (h : eh_ES n sh ra ln cb la cu cl fu fl ys yl yp) {k : Nat} (hk : k + 1 < n) : 0 ≤ eh_kut cu cl ln k ∧ eh_kut cu cl ln k ≤ 10000000 := by
  have h1 := (h.2.2.2.2.2.2.1 k (by omega)).1
  have h2 := (h.2.2.2.2.2.2.1 (k + 1) hk).1
  have h3 := h.2.2.2.1 k hk
  exact (eh_lt_b h1 h2 (by omega)).2.2
theorem eh_fil_b (h : eh_ES n sh ra ln cb la cu cl fu fl ys yl yp) {k : Nat} (hk : k + 1 < n) : 0 ≤ eh_kut fu fl ln k ∧ eh_kut fu fl ln k ≤ 10000000 := by
  have h1 := (h.2.2.2.2.2.2.1 k (by omega)).2
  have h2 := (h.2.2.2.2.2.2.1 (k + 1) hk).2
  have h3 := h.2.2.2.1 k hk
  exact (eh_lt_b h1 h2 (by omega)).2.2
theorem eh_plc_b (h : eh_ES n sh ra ln cb la cu cl fu fl ys yl yp) {k : Nat} (hk : k + 1 < n) : 0 ≤ eh_plc cu cl ln sh k ∧ eh_plc cu cl ln sh k ≤ 10000000 ∧ 0 ≤ eh_kut cu cl ln k * sh ∧ eh_kut cu cl ln k * sh ≤ 10000000000 := by
  have h1 := eh_kut_b h hk
  have h2 := h.2.1
  have h3 : eh_kut cu cl ln k * sh ≤ 10000000 * 1000 := Int.mul_le_mul (by omega) (by omega) (by omega) (by omega)
  have h4 : 0 ≤ eh_kut cu cl ln k * sh := Int.mul_nonneg (by omega) (by omega)
  unfold eh_plc
  generalize eh_kut cu cl ln k * sh = X at *
  omega
end

/-- references -/
def eh_o5 (a0 a1 a2 a3 a4 : Nat) (i : Nat) : Option Nat := match i with
  | 0 => some a0 | 1 => some a1 | 2 => some a2 | 3 => some a3 | 4 => some a4 | _ => none
def eh_o3 (a0 a1 a2 : Nat) (i : Nat) : Option Nat := match i with
  | 0 => some a0 | 1 => some a1 | 2 => some a2 | _ => none

/-- the span of a source, of a sink; below 0: none -/
def eh_so (n : Nat) (ys : Nat → Int) (k : Nat) : Int := if k < 4 then (if k + 1 < n then (k : Int) else -1) else ys (k - 4)
def eh_si (n : Nat) (ys : Nat → Int) (k : Nat) : Int := if k < 4 then (if k + 1 < n then (k : Int) else -1) else ys 2
/-- no border closed from span lo up to span hi -/
def eh_op (cb : Nat → Int) (lo hi : Nat) : Prop := ∀ k, lo ≤ k → k < hi → cb k = 0
def eh_opb (cb : Nat → Int) (lo : Nat) : Nat → Bool
  | 0 => true
  | n + 1 => eh_opb cb lo n && decide (cb (lo + n) = 0)
theorem eh_opb_iff (cb : Nat → Int) (lo n : Nat) : eh_opb cb lo n = true ↔ eh_op cb lo (lo + n) := by
  induction n with
  | zero => simp only [eh_opb, true_iff]; intro k h1 h2; omega
  | succ n ih =>
    simp only [eh_opb, Bool.and_eq_true, decide_eq_true_eq, ih]
    constructor
    · intro ⟨h1, h2⟩ k h3 h4
      by_cases e : k = lo + n
      · subst e; exact h2
      · exact h1 k h3 (by omega)
    · intro h
      exact ⟨fun k h1 h2 => h k h1 (by omega), h (lo + n) (by omega) (by omega)⟩
/-- the way between the middles of spans lo and lo + n, twice -/
def eh_wy2 (ln : Nat → Int) (lo : Nat) : Nat → Int
  | 0 => 0
  | n + 1 => eh_wy2 ln lo n + (ln (lo + n) + ln (lo + n + 1))
def eh_ku (n : Nat) (ra : Int) (ln cb ys yp : Nat → Int) (s t : Nat) : Int :=
  if eh_so n ys s < 0 ∨ eh_si n ys t < 0 ∨ (4 ≤ s ∧ t = 4) then -1
  else if eh_opb cb (min (eh_so n ys s).toNat (eh_si n ys t).toNat) (max (eh_so n ys s).toNat (eh_si n ys t).toNat - min (eh_so n ys s).toNat (eh_si n ys t).toNat) = false then -1
  else ra * eh_wy2 ln (min (eh_so n ys s).toNat (eh_si n ys t).toNat) (max (eh_so n ys s).toNat (eh_si n ys t).toNat - min (eh_so n ys s).toNat (eh_si n ys t).toNat)
    + (if 4 ≤ s then yp (s - 4) else if t = 4 then yp 2 else 0)

section
variable {p : Program} {l : Launch} {e : Env} {R : Room} {s : State} {m : MethodId} {args : Array Value} {below : List Frame} {meth : Method} {c : Code} {H : Heap} {locs : List Loc} {cells slots : Nat} {Q : State → Prop}
variable {cc : ByteArray} {pc : Nat} {ls : Array Slot} {rest : List Value} {D : va_G} {cl : List vw_C} {a : Nat} {tys : List (ClassId × FieldType)} {ws : va_W}
theorem we_aald (hexec : p.tables.exec = Jvm.exec) (hb : c.code = cc) (hK : va_K D cl tys s) (hP : va_P D cl ws H) (q0 t0 : Nat) {cA : ClassId} {C : String} {n : Nat} {f : Nat → Option Nat} (ha : ws[q0]? = some (a, .inl (cA, n, .inr (.inr (.inr (.inr f)))))) (ht : tys[t0]? = some (cA, .object C)) {i : Int} (k : Nat) (hi : i = (k : Int)) (hk : k < n) (hn : n < 2147483648) {r : Nat} (hf : f k = some r) (hdg : decode cc pc = .ok (.aaload, 1))
    (kk : W p l e R s m args below meth c H locs cells slots Q (F0 m (pc + 1) ls (.ref r :: rest))) : W p l e R s m args below meth c H locs cells slots Q (F0 m pc ls (.int (eI i) :: .ref a :: rest)) :=
  va_aldq hexec hb hK hP q0 t0 ha ht (eh_ix hi hk hn).1 hdg (by rw [(eh_ix hi hk hn).2, hf]; exact kk)
end
