/-! machine numbers as numbers: eI z, eL z for a number z within reach -/
def eI (z : Int) : Int32 := Int32.ofInt z
def eL (z : Int) : Int64 := Int64.ofInt z
/-- within reach of an int, of a long -/
def eh_i (z : Int) : Prop := -2147483648 ≤ z ∧ z < 2147483648
def eh_l (z : Int) : Prop := -9223372036854775808 ≤ z ∧ z < 9223372036854775808

theorem eI_add (a b : Int) : eI a + eI b = eI (a + b) := (Int32.ofInt_add a b).symm
theorem eI_sub (a b : Int) : eI a - eI b = eI (a - b) := (Int32.ofInt_sub a b).symm
theorem eI_mul (a b : Int) : eI a * eI b = eI (a * b) := (Int32.ofInt_mul a b).symm
theorem eI_neg (a : Int) : - eI a = eI (-a) := (Int32.ofInt_neg a).symm
theorem eL_add (a b : Int) : eL a + eL b = eL (a + b) := (Int64.ofInt_add a b).symm
theorem eL_sub (a b : Int) : eL a - eL b = eL (a - b) := (Int64.ofInt_sub a b).symm
theorem eL_mul (a b : Int) : eL a * eL b = eL (a * b) := (Int64.ofInt_mul a b).symm
theorem eL_neg (a : Int) : - eL a = eL (-a) := (Int64.ofInt_neg a).symm
theorem eI_t {a : Int} (h : eh_i a) : (eI a).toInt = a := Int32.toInt_ofInt_of_le (by have := h.1; omega) (by have := h.2; omega)
theorem eL_t {a : Int} (h : eh_l a) : (eL a).toInt = a := Int64.toInt_ofInt_of_le (by have := h.1; omega) (by have := h.2; omega)
theorem eI_of (x : Int32) : x = eI x.toInt := (Int32.ofInt_toInt x).symm
theorem eL_of (x : Int64) : x = eL x.toInt := (Int64.ofInt_toInt x).symm
theorem eI_rg (x : Int32) : eh_i x.toInt := ⟨Int32.le_toInt x, Int32.toInt_lt x⟩
theorem eL_rg (x : Int64) : eh_l x.toInt := ⟨Int64.le_toInt x, Int64.toInt_lt x⟩
theorem eI_lt {a b : Int} (ha : eh_i a) (hb : eh_i b) : eI a < eI b ↔ a < b := by rw [Int32.lt_iff_toInt_lt, eI_t ha, eI_t hb]
theorem eI_le {a b : Int} (ha : eh_i a) (hb : eh_i b) : eI a ≤ eI b ↔ a ≤ b := by rw [Int32.le_iff_toInt_le, eI_t ha, eI_t hb]
theorem eI_eq {a b : Int} (ha : eh_i a) (hb : eh_i b) : eI a = eI b ↔ a = b := by rw [← Int32.toInt_inj, eI_t ha, eI_t hb]
theorem eL_lt {a b : Int} (ha : eh_l a) (hb : eh_l b) : eL a < eL b ↔ a < b := by rw [Int64.lt_iff_toInt_lt, eL_t ha, eL_t hb]
theorem eL_le {a b : Int} (ha : eh_l a) (hb : eh_l b) : eL a ≤ eL b ↔ a ≤ b := by rw [Int64.le_iff_toInt_le, eL_t ha, eL_t hb]
theorem eL_eq {a b : Int} (ha : eh_l a) (hb : eh_l b) : eL a = eL b ↔ a = b := by rw [← Int64.toInt_inj, eL_t ha, eL_t hb]
theorem eI_l {a : Int} (h : eh_i a) : (eI a).toInt64 = eL a := by
  have h1 : (eI a).toInt64.toInt = a := by rw [Int32.toInt_toInt64, eI_t h]
  have h2 := eL_of (eI a).toInt64
  rw [h1] at h2
  exact h2
theorem eL_i (a : Int) : (eL a).toInt32 = eI a := Int64.toInt32_ofInt
theorem eI_0 : eI 0 = 0 := rfl
theorem eI_1 : eI 1 = 1 := rfl
theorem eL_0 : eL 0 = 0 := rfl
theorem eI_ne0 {a : Int} (h : eh_i a) : ¬ eI a = 0 ↔ a ≠ 0 := by
  have h0 : eh_i 0 := by constructor <;> omega
  rw [← eI_0, eI_eq h h0]
theorem eL_ne0 {a : Int} (h : eh_l a) : ¬ eL a = 0 ↔ a ≠ 0 := by
  have h0 : eh_l 0 := by constructor <;> omega
  rw [← eL_0, eL_eq h h0]
theorem eI_div {a b : Int} (ha : eh_i a) (hb : eh_i b) (h0 : 0 ≤ a) (h1 : 0 < b) : eI a / eI b = eI (a / b) := by
  rw [← Int.tdiv_eq_ediv_of_nonneg h0]
  exact (Int32.ofInt_tdiv ha.1 (by have := ha.2; show a ≤ 2147483647; omega) hb.1 (by have := hb.2; show b ≤ 2147483647; omega)).symm
theorem eL_div {a b : Int} (ha : eh_l a) (hb : eh_l b) (h0 : 0 ≤ a) (h1 : 0 < b) : eL a / eL b = eL (a / b) := by
  rw [← Int.tdiv_eq_ediv_of_nonneg h0]
  exact (Int64.ofInt_tdiv ha.1 (by have := ha.2; show a ≤ 9223372036854775807; omega) hb.1 (by have := hb.2; show b ≤ 9223372036854775807; omega)).symm
theorem eI_rem {a b : Int} (ha : eh_i a) (hb : eh_i b) (h0 : 0 ≤ a) (h1 : 0 < b) : eI a - eI a / eI b * eI b = eI (a % b) := by
  rw [eI_div ha hb h0 h1, eI_mul, eI_sub]
  congr 1
  have := Int.emod_add_mul_ediv a b
  have e : b * (a / b) = a / b * b := Int.mul_comm _ _
  omega
theorem eL_rem {a b : Int} (ha : eh_l a) (hb : eh_l b) (h0 : 0 ≤ a) (h1 : 0 < b) : eL a - eL a / eL b * eL b = eL (a % b) := by
  rw [eL_div ha hb h0 h1, eL_mul, eL_sub]
  congr 1
  have := Int.emod_add_mul_ediv a b
  have e : b * (a / b) = a / b * b := Int.mul_comm _ _
  omega
/-- an index within an array -/
theorem eI_in {a : Int} {n : Nat} (h : eh_i a) (h0 : 0 ≤ a) (h1 : a < n) : vp_in (eI a) n := by
  rw [vp_in_iff, eI_t h]
  exact ⟨h0, h1⟩
theorem eI_cl {a : Int} (h : eh_i a) : (eI a).toNatClampNeg = a.toNat := Int32.toNatClampNeg_ofInt_of_le (by have := h.1; omega) (by have := h.2; omega)
theorem eI_n (n : Nat) : eI (n : Int) = nI n := Int32.ofInt_eq_ofNat
theorem eL_n (n : Nat) : eL (n : Int) = lN n := Int64.ofInt_eq_ofNat
theorem eL_shl32 (a : Int) : eL a <<< ((eI 32).toInt64 &&& 63) = eL (4294967296 * a) := by
  have h1 : eL a = eL a := rfl
  have e : ∀ x : Int64, x <<< ((eI 32).toInt64 &&& 63) = x * eL 4294967296 := by
    intro x
    apply Int64.toBitVec_inj.mp
    have h2 : ((eI 32).toInt64 &&& 63) = 32 := by decide
    rw [h2]
    show (x.toBitVec <<< (BitVec.smod (32 : Int64).toBitVec 64)) = x.toBitVec * (eL 4294967296).toBitVec
    have h3 : (BitVec.smod (32 : Int64).toBitVec 64) = 32#64 := by decide
    have h4 : (eL 4294967296).toBitVec = BitVec.twoPow 64 32 := by decide
    rw [h3, h4]
    rw [BitVec.shiftLeft_eq']
    show x.toBitVec <<< 32 = _
    rw [BitVec.shiftLeft_eq_mul_twoPow]
  rw [e, eL_mul, Int.mul_comm]
