/-! the network as it is built (only possible hauls have edges) and the network of all edges -/
def eh_H (c : Nat → Int) : Nat → Nat
  | 0 => 0
  | n + 1 => eh_H c n + (if 0 ≤ c n then 1 else 0)

theorem eh_H_mono (c : Nat → Int) {m n : Nat} (h : m ≤ n) : eh_H c m ≤ eh_H c n := by
  induction n with
  | zero => have : m = 0 := by omega
            subst this; exact Nat.le_refl _
  | succ n ih =>
    by_cases e : m = n + 1
    · subst e; exact Nat.le_refl _
    · have := ih (by omega)
      show eh_H c m ≤ eh_H c n + (if 0 ≤ c n then 1 else 0)
      omega

theorem eh_H_lt (c : Nat → Int) {m n : Nat} (h : m < n) (hc : 0 ≤ c m) : eh_H c m < eh_H c n := by
  have h1 := eh_H_mono c (show m + 1 ≤ n by omega)
  have h2 : eh_H c (m + 1) = eh_H c m + 1 := by simp [eh_H, hc]
  omega

theorem eh_H_le (c : Nat → Int) (n : Nat) : eh_H c n ≤ n := by
  induction n with
  | zero => exact Nat.le_refl _
  | succ n ih =>
    show eh_H c n + (if 0 ≤ c n then 1 else 0) ≤ n + 1
    split <;> omega

theorem eh_H_inv (c : Nat → Int) : ∀ (n k : Nat), k < eh_H c n → ∃ m, m < n ∧ 0 ≤ c m ∧ eh_H c m = k := by
  intro n
  induction n with
  | zero => intro k h; simp [eh_H] at h
  | succ n ih =>
    intro k h
    by_cases hk : k < eh_H c n
    · obtain ⟨m, q1, q2, q3⟩ := ih k hk
      exact ⟨m, by omega, q2, q3⟩
    · have h2 : eh_H c (n + 1) = eh_H c n + (if 0 ≤ c n then 1 else 0) := rfl
      by_cases hc : 0 ≤ c n
      · simp only [hc, if_true] at h2
        exact ⟨n, by omega, hc, by omega⟩
      · simp only [hc, if_false] at h2
        omega

/-- the place of an edge of the network of all edges in the network that is built -/
def eh_io (c : Nat → Int) (u : Nat) : Nat :=
  if u < 30 then 8 + eh_H c u else if u < 33 then 8 + eh_H c 30 + (u - 30) else if u < 37 then 2 * (u - 33) else 2 * (u - 37) + 1
def eh_va (c : Nat → Int) (u : Nat) : Prop := u < 30 → 0 ≤ c u

theorem eh_io_lt {c : Nat → Int} {u : Nat} (hu : u < 41) (hv : eh_va c u) : eh_io c u < 11 + eh_H c 30 := by
  unfold eh_io
  by_cases h1 : u < 30
  · have := eh_H_lt c h1 (hv h1)
    simp only [h1, if_true]; omega
  · by_cases h2 : u < 33
    · simp only [h1, h2, if_true, if_false]; omega
    · by_cases h3 : u < 37
      · simp only [h1, h2, h3, if_true, if_false]; omega
      · simp only [h1, h2, h3, if_false]; omega

theorem eh_io_sur {c : Nat → Int} {k : Nat} (hk : k < 11 + eh_H c 30) : ∃ u, u < 41 ∧ eh_va c u ∧ eh_io c u = k := by
  by_cases h1 : k < 8
  · by_cases h2 : k % 2 = 0
    · refine ⟨33 + k / 2, by omega, fun h => by omega, ?_⟩
      have q1 : ¬ 33 + k / 2 < 30 := by omega
      have q2 : ¬ 33 + k / 2 < 33 := by omega
      have q3 : 33 + k / 2 < 37 := by omega
      simp only [eh_io, q1, q2, q3, if_true, if_false]; omega
    · refine ⟨37 + k / 2, by omega, fun h => by omega, ?_⟩
      have q1 : ¬ 37 + k / 2 < 30 := by omega
      have q2 : ¬ 37 + k / 2 < 33 := by omega
      have q3 : ¬ 37 + k / 2 < 37 := by omega
      simp only [eh_io, q1, q2, q3, if_false]; omega
  · by_cases h2 : k < 8 + eh_H c 30
    · obtain ⟨m, q1, q2, q3⟩ := eh_H_inv c 30 (k - 8) (by omega)
      refine ⟨m, by omega, fun _ => q2, ?_⟩
      simp only [eh_io, q1, if_true]; omega
    · refine ⟨30 + (k - 8 - eh_H c 30), by omega, fun h => by omega, ?_⟩
      have q1 : ¬ 30 + (k - 8 - eh_H c 30) < 30 := by omega
      have q2 : 30 + (k - 8 - eh_H c 30) < 33 := by omega
      simp only [eh_io, q1, q2, if_true, if_false]; omega

theorem eh_io_inj {c : Nat → Int} {u v : Nat} (hu : u < 41) (hv : v < 41) (gu : eh_va c u) (gv : eh_va c v) (h : eh_io c u = eh_io c v) : u = v := by
  have m1 : ∀ w, w < 30 → 0 ≤ c w → eh_H c w < eh_H c 30 := fun w hw hc => eh_H_lt c hw hc
  unfold eh_io at h
  by_cases a1 : u < 30
  · have z1 := m1 u a1 (gu a1)
    by_cases b1 : v < 30
    · simp only [a1, b1, if_true] at h
      rcases Nat.lt_trichotomy u v with q | q | q
      · have := eh_H_lt c q (gu a1); omega
      · exact q
      · have := eh_H_lt c q (gv b1); omega
    · by_cases b2 : v < 33
      · simp only [a1, b1, b2, if_true, if_false] at h; omega
      · by_cases b3 : v < 37
        · simp only [a1, b1, b2, b3, if_true, if_false] at h; omega
        · simp only [a1, b1, b2, b3, if_true, if_false] at h; omega
  · by_cases b1 : v < 30
    · have z2 := m1 v b1 (gv b1)
      by_cases a2 : u < 33
      · simp only [a1, a2, b1, if_true, if_false] at h; omega
      · by_cases a3 : u < 37
        · simp only [a1, a2, a3, b1, if_true, if_false] at h; omega
        · simp only [a1, a2, a3, b1, if_true, if_false] at h; omega
    · by_cases a2 : u < 33 <;> by_cases a3 : u < 37 <;> by_cases b2 : v < 33 <;> by_cases b3 : v < 37 <;>
        simp only [a1, a2, a3, b1, b2, b3, if_true, if_false] at h <;> omega

theorem eh_H_sum (c : Nat → Int) (G : Nat → Int) (n : Nat) :
    eh_sm (fun k => G (8 + k)) (eh_H c n) = eh_sm (fun u => if 0 ≤ c u then G (8 + eh_H c u) else 0) n := by
  induction n with
  | zero => rfl
  | succ n ih =>
    have h2 : eh_H c (n + 1) = eh_H c n + (if 0 ≤ c n then 1 else 0) := rfl
    have h3 : eh_sm (fun u => if 0 ≤ c u then G (8 + eh_H c u) else 0) (n + 1)
      = eh_sm (fun u => if 0 ≤ c u then G (8 + eh_H c u) else 0) n + (if 0 ≤ c n then G (8 + eh_H c n) else 0) := rfl
    rw [h2, h3, ← ih]
    by_cases hc : 0 ≤ c n
    · simp only [hc, if_true]
      rfl
    · simp only [hc, if_false, Nat.add_zero]
      omega

set_option maxHeartbeats 1000000 in
/-- a sum over the edges that are built is one over all edges -/
theorem eh_io_sum (c : Nat → Int) (G F : Nat → Int) (h : ∀ u, u < 41 → eh_va c u → G (eh_io c u) = F u) (h0 : ∀ u, u < 30 → ¬ 0 ≤ c u → F u = 0) :
    eh_sm G (11 + eh_H c 30) = eh_sm F 41 := by
  have e1 : 11 + eh_H c 30 = 8 + eh_H c 30 + 3 := by omega
  rw [e1, eh_sm_split G (8 + eh_H c 30) 3, eh_sm_split G 8 (eh_H c 30), eh_H_sum]
  have e2 : eh_sm F 41 = eh_sm F 30 + eh_sm (fun i => F (30 + i)) 11 := eh_sm_split F 30 11
  have e3 : eh_sm (fun u => if 0 ≤ c u then G (8 + eh_H c u) else 0) 30 = eh_sm F 30 := by
    apply eh_sm_congr
    intro u hu
    by_cases hc : 0 ≤ c u
    · simp only [hc, if_true]
      have := h u (by omega) (fun _ => hc)
      simp only [eh_io, hu, if_true] at this
      exact this
    · simp only [hc, if_false]
      exact (h0 u hu hc).symm
  rw [e3, e2]
  have v30 := h 30 (by omega) (fun q => by omega)
  have v31 := h 31 (by omega) (fun q => by omega)
  have v32 := h 32 (by omega) (fun q => by omega)
  have v33 := h 33 (by omega) (fun q => by omega)
  have v34 := h 34 (by omega) (fun q => by omega)
  have v35 := h 35 (by omega) (fun q => by omega)
  have v36 := h 36 (by omega) (fun q => by omega)
  have v37 := h 37 (by omega) (fun q => by omega)
  have v38 := h 38 (by omega) (fun q => by omega)
  have v39 := h 39 (by omega) (fun q => by omega)
  have v40 := h 40 (by omega) (fun q => by omega)
  simp [eh_io] at v30 v31 v32 v33 v34 v35 v36 v37 v38 v39 v40
  simp [eh_sm]
  rw [← v30, ← v31, ← v32, ← v33, ← v34, ← v35, ← v36, ← v37, ← v38, ← v39, ← v40]
  omega

/-- the network that is built -/
def eh_net (c A B : Nat → Int) (K : Nat) (a b : Nat → Nat) (w cap : Nat → Int) : Prop :=
  K = 11 + eh_H c 30 ∧ ∀ u, u < 41 → eh_va c u →
    a (eh_io c u) = eh_ua u ∧ b (eh_io c u) = eh_ub u ∧ w (eh_io c u) = eh_uw c u ∧ cap (eh_io c u) = eh_ucap c A B u

def eh_xu (c x : Nat → Int) (u : Nat) : Int := if u < 30 ∧ ¬ 0 ≤ c u then 0 else x (eh_io c u)

theorem eh_xu_va {c x : Nat → Int} {u : Nat} (h : eh_va c u) : eh_xu c x u = x (eh_io c u) := by
  unfold eh_xu
  by_cases h1 : u < 30
  · have := h h1
    simp [h1, this]
  · simp [h1]

theorem eh_net_bal {c A B : Nat → Int} {K : Nat} {a b : Nat → Nat} {w cap : Nat → Int} (hn : eh_net c A B K a b w cap) (x : Nat → Int) (v : Nat) :
    eh_sm (fun k => x k * (eh_in (a k = v) - eh_in (b k = v))) K = eh_ubal (eh_xu c x) v := by
  obtain ⟨rfl, h2⟩ := hn
  apply eh_io_sum
  · intro u hu hv
    obtain ⟨q1, q2, _, _⟩ := h2 u hu hv
    try dsimp only
    rw [q1, q2, eh_xu_va hv]
  · intro u hu hc
    simp [eh_xu, hu, hc]

/-- a right potential in the network that is built is one in the network of all edges -/
theorem eh_net_ufl {c A B : Nat → Int} {K : Nat} {a b : Nat → Nat} {w cap x p : Nat → Int} (hn : eh_net c A B K a b w cap)
    (hx : ∀ k, k < K → 0 ≤ x k ∧ x k ≤ cap k)
    (hp : eh_pot (2 * K) (eh_tl a b) (eh_hd a b) (eh_rm cap x) (eh_wt w) p)
    (hb : ∀ v, v < 12 → eh_sm (fun k => x k * (eh_in (a k = v) - eh_in (b k = v))) K = eh_ug A B v) :
    eh_ufl c A B (eh_xu c x) p := by
  have hn2 := hn
  obtain ⟨rfl, h2⟩ := hn
  rw [eh_pot_pair] at hp
  have nv : ∀ u, ¬ eh_va c u → u < 30 ∧ ¬ 0 ≤ c u := by
    intro u h
    apply Classical.byContradiction
    intro z
    apply h
    intro h3
    apply Classical.byContradiction
    intro z2
    exact z ⟨h3, z2⟩
  refine ⟨?_, ?_, ?_, ?_⟩
  · intro u hu
    by_cases hv : eh_va c u
    · rw [eh_xu_va hv]
      obtain ⟨_, _, _, q⟩ := h2 u hu hv
      rw [← q]
      exact hx _ (eh_io_lt hu hv)
    · obtain ⟨z1, z2⟩ := nv u hv
      simp [eh_xu, eh_ucap, z1, z2]
  · intro u hu hlt
    by_cases hv : eh_va c u
    · rw [eh_xu_va hv] at hlt
      obtain ⟨q1, q2, q3, q4⟩ := h2 u hu hv
      rw [← q4] at hlt
      have := (hp _ (eh_io_lt hu hv)).1 hlt
      rw [q1, q2, q3] at this
      exact this
    · obtain ⟨z1, z2⟩ := nv u hv
      simp [eh_xu, eh_ucap, z1, z2] at hlt
  · intro u hu hlt
    by_cases hv : eh_va c u
    · rw [eh_xu_va hv] at hlt
      obtain ⟨q1, q2, q3, q4⟩ := h2 u hu hv
      have := (hp _ (eh_io_lt hu hv)).2 hlt
      rw [q1, q2, q3] at this
      exact this
    · obtain ⟨z1, z2⟩ := nv u hv
      simp [eh_xu, z1, z2] at hlt
  · intro v hv
    rw [← eh_net_bal hn2 x v]
    exact hb v hv

/-- the shape of the network that is built: up gives the edge of the network of all edges -/
def eh_nc2 (c : Nat → Int) (u : Nat) : Int := if u < 30 then c u else if u < 33 then 0 else 4194304

theorem eh_net_shape {c A B : Nat → Int} {K : Nat} {a b : Nat → Nat} {w cap : Nat → Int} (hn : eh_net c A B K a b w cap) :
    ∃ q : Nat → Nat, (∀ k, k < K → q k < 41 ∧ eh_va c (q k) ∧ eh_io c (q k) = k ∧ a k = eh_ua (q k) ∧ b k = eh_ub (q k) ∧ w k = eh_w (fun k => eh_nc2 c (q k)) q k) ∧
      eh_shape K 12 11 a b q (fun k => eh_nc2 c (q k)) := by
  obtain ⟨rfl, h2⟩ := hn
  obtain ⟨q, hq⟩ := Classical.axiomOfChoice (r := fun (k u : Nat) => k < 11 + eh_H c 30 → u < 41 ∧ eh_va c u ∧ eh_io c u = k) (by
    intro k
    by_cases hk : k < 11 + eh_H c 30
    · obtain ⟨u, h⟩ := eh_io_sur hk
      exact ⟨u, fun _ => h⟩
    · exact ⟨0, fun h => absurd h hk⟩)
  have hab : ∀ k, k < 11 + eh_H c 30 → a k = eh_ua (q k) ∧ b k = eh_ub (q k) ∧ w k = eh_uw c (q k) := by
    intro k hk
    obtain ⟨z1, z2, z3⟩ := hq k hk
    obtain ⟨y1, y2, y3, _⟩ := h2 _ z1 z2
    rw [z3] at y1 y2 y3
    exact ⟨y1, y2, y3⟩
  have pw0 : ∀ k, 30 ≤ k → eh_pw k = 0 := by
    intro k hk
    have : ¬ k < 30 := by omega
    simp [eh_pw, this]
  refine ⟨q, ?_, ?_, ?_, ?_, ?_⟩
  · intro k hk
    obtain ⟨z1, z2, z3⟩ := hq k hk
    obtain ⟨y1, y2, y3⟩ := hab k hk
    refine ⟨z1, z2, z3, y1, y2, ?_⟩
    rw [y3]
    unfold eh_w eh_nc2 eh_uw
    try dsimp only
    by_cases g1 : q k < 30
    · simp only [g1, if_true]
    · by_cases g2 : q k < 33
      · simp only [g1, g2, if_true, if_false, pw0 _ (by omega : 30 ≤ q k)]; omega
      · simp only [g1, g2, if_false, pw0 _ (by omega : 30 ≤ q k)]; omega
  · intro k hk
    obtain ⟨y1, y2, _⟩ := hab k hk
    rw [y1, y2]
    exact eh_u_lt _ (hq k hk).1
  · intro i j hi hj _ he
    rw [← (hq i hi).2.2, ← (hq j hj).2.2, he]
  · intro k hk h30
    obtain ⟨y1, y2, _⟩ := hab k hk
    rw [y1, y2]
    exact eh_u_st _ (hq k hk).1 h30
  · intro i j hi hj h30 h30' v hv h3 h4
    obtain ⟨y1, y2, _⟩ := hab i hi
    obtain ⟨y1', y2', _⟩ := hab j hj
    rw [y1, y2] at h3
    rw [y1', y2'] at h4
    have e := eh_u_si _ _ (hq i hi).1 (hq j hj).1 h30 h30' v hv h3 h4
    rw [← (hq i hi).2.2, ← (hq j hj).2.2, e]
