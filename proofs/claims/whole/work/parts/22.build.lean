/-! the network as it is built; shifts -/
theorem eh_shr32 {a : Int} (h : eh_l a) : eL a >>> ((eI 32).toInt64 &&& 63) = eL (a / 4294967296) := by
  apply Int64.toInt_inj.mp
  have hd : ((((eI 32).toInt64 &&& 63) : Int64).toBitVec.smod 64).toNat = 32 := by decide +kernel
  have e : (eL a >>> ((eI 32).toInt64 &&& 63)).toInt = (eL a).toInt >>> 32 := by
    rw [← hd]
    exact BitVec.toInt_sshiftRight ..
  have h2 := h.1
  have h3 := h.2
  rw [e, Int.shiftRight_eq_div_pow, eL_t h, eL_t (by constructor <;> omega)]
  rfl
theorem eh_shl1 : ∀ q : Nat, q < 30 → eL 1 <<< ((eI (q : Int)).toInt64 &&& 63) = eL (eh_pw q) := by decide +kernel

section
variable {K : Nat} {a b : Nat → Nat} {w cap x gT gH gR gW : Nat → Int}
theorem eh_NS_join (h : eh_NS K a b w cap x gT gH gR gW) (f t : Nat) (li ww : Int) :
    eh_NS (K + 1) (eh_upd a K f) (eh_upd b K t) (eh_upd w K ww) (eh_upd cap K li) (eh_upd x K 0)
      (eh_upd (eh_upd gT (2 * K) (f : Int)) (2 * K + 1) (t : Int)) (eh_upd (eh_upd gH (2 * K) (t : Int)) (2 * K + 1) (f : Int))
      (eh_upd (eh_upd gR (2 * K) li) (2 * K + 1) 0) (eh_upd (eh_upd gW (2 * K) ww) (2 * K + 1) (-ww)) := by
  intro e he
  by_cases e1 : e = 2 * K + 1
  · subst e1
    have m1 : ¬ (2 * K + 1) % 2 = 0 := by omega
    have m2 : (2 * K + 1) / 2 = K := by omega
    simp only [eh_upd_s, eh_tl, eh_hd, eh_rm, eh_wt, m1, m2, if_false]
    exact ⟨trivial, trivial, trivial, trivial⟩
  · by_cases e2 : e = 2 * K
    · subst e2
      have m1 : 2 * K % 2 = 0 := by omega
      have m2 : 2 * K / 2 = K := by omega
      simp only [eh_upd_n _ _ e1, eh_upd_s, eh_tl, eh_hd, eh_rm, eh_wt, m1, m2, if_true]
      exact ⟨trivial, trivial, by omega, trivial⟩
    · have q := h e (by omega)
      have m : e / 2 ≠ K := by omega
      simp only [eh_tl, eh_hd, eh_rm, eh_wt] at q ⊢
      simp only [eh_upd_n _ _ e1, eh_upd_n _ _ e2, eh_upd_n _ _ m]
      exact q
end

/-- stage n of the building: the edges below n of the network of all edges, and the shortages -/
def eh_bd (c A B : Nat → Int) (n K : Nat) (a b : Nat → Nat) (w cap x gA : Nat → Int) : Prop :=
  K = 8 + eh_H c (min n 30) + (n - 30) ∧
  (∀ u, u < 41 → (u < n ∨ 33 ≤ u) → eh_va c u → a (eh_io c u) = eh_ua u ∧ b (eh_io c u) = eh_ub u ∧ w (eh_io c u) = eh_uw c u ∧ cap (eh_io c u) = eh_ucap c A B u) ∧
  (∀ k, k < K → x k = 0) ∧ (∀ m, m < 30 → gA m = if m < n ∧ 0 ≤ c m then ((2 * (8 + eh_H c m) : Nat) : Int) else -1)

theorem eh_bd_io {c : Nat → Int} {n u : Nat} (hn : n ≤ 33) (hu : u < 41) (h : u < n ∨ 33 ≤ u) (hv : eh_va c u) : eh_io c u < 8 + eh_H c (min n 30) + (n - 30) := by
  unfold eh_io
  by_cases h1 : u < 30
  · have hlt : u < n := by omega
    have q := eh_H_lt c (show u < min n 30 by omega) (hv h1)
    simp only [h1, if_true]; omega
  · by_cases h2 : u < 33
    · have e : min n 30 = 30 := by omega
      simp only [h1, h2, if_true, if_false, e]; omega
    · by_cases h3 : u < 37
      · simp only [h1, h2, h3, if_true, if_false]; omega
      · simp only [h1, h2, h3, if_false]; omega

theorem eh_bd_at {c : Nat → Int} {n : Nat} (hn : n < 33) : eh_io c n = 8 + eh_H c (min n 30) + (n - 30) := by
  unfold eh_io
  by_cases h1 : n < 30
  · simp only [h1, if_true, show min n 30 = n by omega]; omega
  · simp only [h1, hn, if_true, if_false, show min n 30 = 30 by omega]

theorem eh_bd_s {c A B : Nat → Int} {n K : Nat} {a b : Nat → Nat} {w cap x gA gA' : Nat → Int} (h : eh_bd c A B n K a b w cap x gA) (hn : n < 33) (hv : eh_va c n)
    (hA : ∀ m, m < 30 → gA' m = if m = n then ((2 * K : Nat) : Int) else gA m) :
    eh_bd c A B (n + 1) (K + 1) (eh_upd a K (eh_ua n)) (eh_upd b K (eh_ub n)) (eh_upd w K (eh_uw c n)) (eh_upd cap K (eh_ucap c A B n)) (eh_upd x K 0) gA' := by
  obtain ⟨h1, h2, h3, h4⟩ := h
  have hat := eh_bd_at (c := c) hn
  have hK : K = eh_io c n := by omega
  refine ⟨?_, ?_, ?_, ?_⟩
  · by_cases q : n < 30
    · have e1 : min (n + 1) 30 = n + 1 := by omega
      have e2 : min n 30 = n := by omega
      have e3 : eh_H c (n + 1) = eh_H c n + 1 := by have := hv q; simp [eh_H, this]
      rw [e2] at h1
      rw [e1, e3]; omega
    · have e1 : min (n + 1) 30 = 30 := by omega
      have e2 : min n 30 = 30 := by omega
      rw [e2] at h1
      rw [e1]; omega
  · intro u hu hb hvu
    by_cases q : u = n
    · subst q
      rw [← hK]
      simp only [eh_upd_s]
      exact ⟨trivial, trivial, trivial, trivial⟩
    · have hlt := eh_bd_io (c := c) (n := n) (by omega) hu (by omega) hvu
      have hne : eh_io c u ≠ K := by omega
      simp only [eh_upd_n _ _ hne]
      exact h2 u hu (by omega) hvu
  · intro k hk
    by_cases q : k = K
    · subst q; rw [eh_upd_s]
    · rw [eh_upd_n _ _ q]; exact h3 k (by omega)
  · intro m hm
    rw [hA m hm]
    by_cases q : m = n
    · subst q
      have hc := hv hm
      have e : m < m + 1 ∧ 0 ≤ c m := ⟨by omega, hc⟩
      rw [if_pos rfl, if_pos e]
      have e2 : min m 30 = m := by omega
      rw [e2] at h1
      have : K = 8 + eh_H c m := by omega
      rw [this]
    · rw [if_neg q, h4 m hm]
      by_cases z : m < n ∧ 0 ≤ c m
      · rw [if_pos z, if_pos ⟨by omega, z.2⟩]
      · rw [if_neg z, if_neg (fun y => z ⟨by omega, y.2⟩)]

theorem eh_bd_skip {c A B : Nat → Int} {n K : Nat} {a b : Nat → Nat} {w cap x gA : Nat → Int} (h : eh_bd c A B n K a b w cap x gA) (hn : n < 30) (hc : ¬ 0 ≤ c n) :
    eh_bd c A B (n + 1) K a b w cap x gA := by
  obtain ⟨h1, h2, h3, h4⟩ := h
  refine ⟨?_, ?_, h3, ?_⟩
  · have e1 : min (n + 1) 30 = n + 1 := by omega
    have e2 : min n 30 = n := by omega
    have e3 : eh_H c (n + 1) = eh_H c n := by simp [eh_H, hc]
    rw [e2] at h1
    rw [e1, e3]; omega
  · intro u hu hb hv
    by_cases q : u = n
    · subst q; exact absurd (hv hn) hc
    · exact h2 u hu (by omega) hv
  · intro m hm
    rw [h4 m hm]
    by_cases z : m < n ∧ 0 ≤ c m
    · rw [if_pos z, if_pos ⟨by omega, z.2⟩]
    · rw [if_neg z, if_neg (fun y => z ⟨by
        have := y.1
        have : m ≠ n := fun q => hc (q ▸ y.2)
        omega, y.2⟩)]

/-- the empty network: the shortages alone -/
def eh_em (i : Nat) (a b : Nat → Nat) (w cap x : Nat → Int) : Prop :=
  (∀ j, j < i → a (2 * j) = j ∧ b (2 * j) = 11 ∧ a (2 * j + 1) = 11 ∧ b (2 * j + 1) = 6 + j) ∧ (∀ k, k < 2 * i → w k = 18014398509481984 ∧ cap k = 1000000000 ∧ x k = 0)
theorem eh_em_0 (a b : Nat → Nat) (w cap x : Nat → Int) : eh_em 0 a b w cap x := ⟨fun j h => by omega, fun k h => by omega⟩
theorem eh_em_s {i : Nat} {a b : Nat → Nat} {w cap x : Nat → Int} (h : eh_em i a b w cap x) :
    eh_em (i + 1) (eh_upd (eh_upd a (2 * i) i) (2 * i + 1) 11) (eh_upd (eh_upd b (2 * i) 11) (2 * i + 1) (6 + i))
      (eh_upd (eh_upd w (2 * i) 18014398509481984) (2 * i + 1) 18014398509481984) (eh_upd (eh_upd cap (2 * i) 1000000000) (2 * i + 1) 1000000000) (eh_upd (eh_upd x (2 * i) 0) (2 * i + 1) 0) := by
  obtain ⟨h1, h2⟩ := h
  constructor
  · intro j hj
    by_cases q : j = i
    · subst q
      have n1 : 2 * j ≠ 2 * j + 1 := by omega
      simp only [eh_upd_s, eh_upd_n _ _ n1]
      exact ⟨trivial, trivial, trivial, trivial⟩
    · have n1 : 2 * j ≠ 2 * i + 1 := by omega
      have n2 : 2 * j ≠ 2 * i := by omega
      have n3 : 2 * j + 1 ≠ 2 * i + 1 := by omega
      have n4 : 2 * j + 1 ≠ 2 * i := by omega
      simp only [eh_upd_n _ _ n1, eh_upd_n _ _ n2, eh_upd_n _ _ n3, eh_upd_n _ _ n4]
      exact h1 j (by omega)
  · intro k hk
    by_cases q : k = 2 * i + 1
    · subst q; simp only [eh_upd_s]; exact ⟨trivial, trivial, trivial⟩
    · by_cases q2 : k = 2 * i
      · subst q2; simp only [eh_upd_n _ _ q, eh_upd_s]; exact ⟨trivial, trivial, trivial⟩
      · simp only [eh_upd_n _ _ q, eh_upd_n _ _ q2]
        exact h2 k (by omega)
theorem eh_em_bd {a b : Nat → Nat} {w cap x gA : Nat → Int} (h : eh_em 4 a b w cap x) (hA : ∀ m, m < 30 → gA m = -1) (c A B : Nat → Int) : eh_bd c A B 0 8 a b w cap x gA := by
  obtain ⟨h1, h2⟩ := h
  refine ⟨by simp [eh_H], ?_, fun k hk => (h2 k (by omega)).2.2, fun m hm => by rw [hA m hm, if_neg (by omega)]⟩
  intro u hu hb _
  have g1 : ¬ u < 30 := by omega
  have g2 : ¬ u < 33 := by omega
  have g3 : ¬ u < 32 := by omega
  have g4 : ¬ u = 32 := by omega
  by_cases q : u < 37
  · obtain ⟨a1, a2, _, _⟩ := h1 (u - 33) (by omega)
    obtain ⟨b1, b2, _⟩ := h2 (2 * (u - 33)) (by omega)
    simp only [eh_io, eh_ua, eh_ub, eh_uw, eh_ucap, g1, g2, g3, g4, q, if_true, if_false]
    exact ⟨a1, a2, b1, b2⟩
  · obtain ⟨_, _, a1, a2⟩ := h1 (u - 37) (by omega)
    obtain ⟨b1, b2, _⟩ := h2 (2 * (u - 37) + 1) (by omega)
    simp only [eh_io, eh_ua, eh_ub, eh_uw, eh_ucap, g1, g2, g3, g4, q, if_false]
    exact ⟨a1, by omega, b1, b2⟩
theorem eh_bd_net {c A B : Nat → Int} {K : Nat} {a b : Nat → Nat} {w cap x gA : Nat → Int} (h : eh_bd c A B 33 K a b w cap x gA) : eh_net c A B K a b w cap := by
  obtain ⟨h1, h2, _, _⟩ := h
  refine ⟨?_, fun u hu hv => h2 u hu (by omega) hv⟩
  have e : min 33 30 = 30 := rfl
  rw [e] at h1
  omega
