/-! the search for a cycle of weight below 0: numbers g from 0 on, pr: the edge by which a node was last bettered, lu: 1 + the round of that -/
def eh_ck (tl : Nat → Nat) (pr : Nat → Option Nat) : Nat → Nat → List Nat → Prop
  | v, u, [] => v = u
  | v, u, e :: L => pr v = some e ∧ eh_ck tl pr (tl e) u L

def eh_nc (E : Nat) (tl hd : Nat → Nat) (rm wt : Nat → Int) (r j : Nat) (g : Nat → Int) (pr : Nat → Option Nat) (lu : Nat → Nat) : Prop :=
  (∀ v e, pr v = some e → e < E ∧ 0 < rm e ∧ hd e = v ∧ g (tl e) + wt e ≤ g v ∧ lu v ≤ lu (tl e) + 1) ∧
  (∀ v, 0 < lu v → pr v ≠ none) ∧ (∀ v, lu v ≤ r + 1) ∧
  (∀ v L, L ≠ [] → (L.map hd).Nodup → eh_ck tl pr v v L → eh_ws wt L < 0) ∧
  (∀ e, e < E → 0 < rm e → e < j → g (hd e) ≤ g (tl e) + wt e ∨ lu (tl e) = r + 1) ∧
  (∀ e, e < E → 0 < rm e → j ≤ e → 0 < r → g (hd e) ≤ g (tl e) + wt e ∨ r ≤ lu (tl e))

section
variable {E : Nat} {tl hd : Nat → Nat} {rm wt : Nat → Int}

theorem eh_nc_begin : eh_nc E tl hd rm wt 0 0 (fun _ => 0) (fun _ => none) (fun _ => 0) := by
  refine ⟨fun v e h => (by cases h), fun v h => (by cases h), fun v => Nat.zero_le _, ?_, fun e _ _ h => (by omega), fun e _ _ _ h => (by omega)⟩
  intro v L h _ hc
  cases L with
  | nil => exact absurd rfl h
  | cons e L => cases hc.1

theorem eh_nc_round {r : Nat} {g : Nat → Int} {pr : Nat → Option Nat} {lu : Nat → Nat} (h : eh_nc E tl hd rm wt r E g pr lu) :
    eh_nc E tl hd rm wt (r + 1) 0 g pr lu := by
  obtain ⟨h1, h2, h3, h4, h5, h6⟩ := h
  refine ⟨h1, h2, fun v => ?_, h4, fun e _ _ q => (by omega), ?_⟩
  · have := h3 v; omega
  · intro e he hr _ _
    rcases h5 e he hr he with q | q
    · exact Or.inl q
    · exact Or.inr (by omega)

theorem eh_nc_skip {r j : Nat} {g : Nat → Int} {pr : Nat → Option Nat} {lu : Nat → Nat} (h : eh_nc E tl hd rm wt r j g pr lu)
    (hn : 0 < rm j → g (hd j) ≤ g (tl j) + wt j) : eh_nc E tl hd rm wt r (j + 1) g pr lu := by
  obtain ⟨h1, h2, h3, h4, h5, h6⟩ := h
  refine ⟨h1, h2, h3, h4, ?_, fun e he hr q => h6 e he hr (by omega)⟩
  intro e he hr hj
  by_cases q : e = j
  · subst q; exact Or.inl (hn hr)
  · exact h5 e he hr (by omega)

theorem eh_ck_le {g : Nat → Int} {pr : Nat → Option Nat} (h1 : ∀ v e, pr v = some e → g (tl e) + wt e ≤ g v) :
    ∀ {L : List Nat} {v u : Nat}, eh_ck tl pr v u L → g u + eh_ws wt L ≤ g v := by
  intro L
  induction L with
  | nil => intro v u h; have e : v = u := h; subst e; simp [eh_ws]
  | cons e L ih =>
    intro v u h
    have q1 := h1 v e h.1
    have q2 := ih h.2
    show g u + (wt e + eh_ws wt L) ≤ g v
    omega

theorem eh_ck_app {pr : Nat → Option Nat} : ∀ {A B : List Nat} {v u : Nat}, eh_ck tl pr v u (A ++ B) → ∃ m, eh_ck tl pr v m A ∧ eh_ck tl pr m u B := by
  intro A
  induction A with
  | nil => intro B v u h; exact ⟨v, rfl, h⟩
  | cons e A ih =>
    intro B v u h
    obtain ⟨m, q1, q2⟩ := ih h.2
    exact ⟨m, ⟨h.1, q1⟩, q2⟩

theorem eh_ck_join {pr : Nat → Option Nat} : ∀ {A B : List Nat} {v m u : Nat}, eh_ck tl pr v m A → eh_ck tl pr m u B → eh_ck tl pr v u (A ++ B) := by
  intro A
  induction A with
  | nil => intro B v m u h h2; have e : v = m := h; subst e; exact h2
  | cons e A ih => intro B v m u h h2; exact ⟨h.1, ih h.2 h2⟩

/-- a chain that has no edge into k is a chain of the tree before -/
theorem eh_ck_old {pr : Nat → Option Nat} {k j : Nat} (hh : ∀ v e, eh_upd pr k (some j) v = some e → hd e = v) :
    ∀ {L : List Nat} {v u : Nat}, k ∉ L.map hd → eh_ck tl (eh_upd pr k (some j)) v u L → eh_ck tl pr v u L := by
  intro L
  induction L with
  | nil => intro v u _ h; exact h
  | cons e L ih =>
    intro v u hn h
    rw [List.map_cons] at hn
    have q := hh v e h.1
    have hv : v ≠ k := fun ev => hn (by rw [q, ev]; exact List.mem_cons_self)
    refine ⟨?_, ih (fun hm => hn (List.mem_cons_of_mem _ hm)) h.2⟩
    have := h.1
    rw [eh_upd_n _ _ hv] at this
    exact this

theorem eh_nc_take {r j : Nat} {g : Nat → Int} {pr : Nat → Option Nat} {lu : Nat → Nat} (h : eh_nc E tl hd rm wt r j g pr lu)
    (hj : j < E) (hr : 0 < rm j) (hne : hd j ≠ tl j) (hlt : g (tl j) + wt j < g (hd j)) :
    eh_nc E tl hd rm wt r (j + 1) (eh_upd g (hd j) (g (tl j) + wt j)) (eh_upd pr (hd j) (some j)) (eh_upd lu (hd j) (r + 1)) := by
  obtain ⟨h1, h2, h3, h4, h5, h6⟩ := h
  have hle : ∀ v, eh_upd g (hd j) (g (tl j) + wt j) v ≤ g v := by
    intro v
    by_cases e : v = hd j
    · subst e; rw [eh_upd_s]; omega
    · rw [eh_upd_n _ _ e]; omega
  have hlu : ∀ v, lu v ≤ eh_upd lu (hd j) (r + 1) v := by
    intro v
    by_cases e : v = hd j
    · subst e; rw [eh_upd_s]; exact h3 _
    · rw [eh_upd_n _ _ e]; omega
  have hup : r ≤ lu (tl j) := by
    by_cases h0 : 0 < r
    · rcases h6 j hj hr (Nat.le_refl _) h0 with q | q
      · omega
      · exact q
    · omega
  have k1 : ∀ v e, eh_upd pr (hd j) (some j) v = some e → e < E ∧ 0 < rm e ∧ hd e = v ∧
      eh_upd g (hd j) (g (tl j) + wt j) (tl e) + wt e ≤ eh_upd g (hd j) (g (tl j) + wt j) v ∧
      eh_upd lu (hd j) (r + 1) v ≤ eh_upd lu (hd j) (r + 1) (tl e) + 1 := by
    intro v e he
    by_cases ev : v = hd j
    · subst ev
      rw [eh_upd_s] at he
      have : j = e := Option.some.inj he
      subst this
      rw [eh_upd_s, eh_upd_s, eh_upd_n _ _ (Ne.symm hne), eh_upd_n _ _ (Ne.symm hne)]
      exact ⟨hj, hr, rfl, Int.le_refl _, by omega⟩
    · rw [eh_upd_n _ _ ev] at he
      obtain ⟨q1, q2, q3, q4, q5⟩ := h1 v e he
      rw [eh_upd_n _ _ ev, eh_upd_n _ _ ev]
      have := hle (tl e)
      have := hlu (tl e)
      exact ⟨q1, q2, q3, by omega, by omega⟩
  refine ⟨k1, ?_, ?_, ?_, ?_, ?_⟩
  · intro v hv
    by_cases ev : v = hd j
    · subst ev; rw [eh_upd_s]; simp
    · rw [eh_upd_n _ _ ev] at hv ⊢
      exact h2 v hv
  · intro v
    by_cases ev : v = hd j
    · subst ev; rw [eh_upd_s]; omega
    · rw [eh_upd_n _ _ ev]; exact h3 v
  · intro v L hL hnd hc
    by_cases hm : hd j ∈ L.map hd
    · rw [List.mem_map] at hm
      obtain ⟨x, hx, hxe⟩ := hm
      obtain ⟨A, B, rfl⟩ := List.append_of_mem hx
      obtain ⟨m, c1, c2, c3⟩ := eh_ck_app hc
      have hm2 : hd x = m := (k1 m x c2).2.2.1
      have hmj : m = hd j := by rw [← hm2, hxe]
      have hxj : x = j := by
        rw [hmj, eh_upd_s] at c2
        exact (Option.some.inj c2).symm
      subst hxj
      rw [List.map_append, List.map_cons] at hnd
      have nA : hd x ∉ A.map hd := by
        intro q
        have := (List.nodup_append.mp hnd).2.2 _ q _ List.mem_cons_self
        exact this rfl
      have nB : hd x ∉ B.map hd := (List.nodup_cons.mp (List.nodup_append.mp hnd).2.1).1
      have hh : ∀ v e, eh_upd pr (hd x) (some x) v = some e → hd e = v := fun v e q => (k1 v e q).2.2.1
      have o1 := eh_ck_old hh nA c1
      have o2 := eh_ck_old hh nB c3
      rw [hmj] at o1
      have o3 := eh_ck_join o2 o1
      have o4 := eh_ck_le (g := g) (wt := wt) (fun v e q => (h1 v e q).2.2.2.1) o3
      rw [eh_ws_app] at o4 ⊢
      show eh_ws wt A + (wt x + eh_ws wt B) < 0
      omega
    · have hh : ∀ v e, eh_upd pr (hd j) (some j) v = some e → hd e = v := fun v e q => (k1 v e q).2.2.1
      exact h4 v L hL hnd (eh_ck_old hh hm hc)
  · intro e he hr' hej
    by_cases q : e = j
    · subst q
      left
      rw [eh_upd_s, eh_upd_n _ _ (Ne.symm hne)]
      omega
    · by_cases et : tl e = hd j
      · right; rw [et, eh_upd_s]
      · rcases h5 e he hr' (by omega) with z | z
        · left
          have := hle (hd e)
          rw [eh_upd_n _ _ et]
          omega
        · right; rw [eh_upd_n _ _ et]; exact z
  · intro e he hr' hej h0
    by_cases et : tl e = hd j
    · right; rw [et, eh_upd_s]; omega
    · rcases h6 e he hr' (by omega) h0 with z | z
      · left
        have := hle (hd e)
        rw [eh_upd_n _ _ et]
        omega
      · right; rw [eh_upd_n _ _ et]; exact z

/-- a round without a change leaves a right potential -/
theorem eh_nc_pot {r : Nat} {g : Nat → Int} {pr : Nat → Option Nat} {lu : Nat → Nat} (h : eh_nc E tl hd rm wt r E g pr lu)
    (hn : ∀ v, lu v ≤ r) : eh_pot E tl hd rm wt g := by
  intro e he hr
  rcases h.2.2.2.2.1 e he hr he with q | q
  · exact q
  · have := hn (tl e); omega

theorem eh_it_add (nx : Nat → Nat) (k0 a b : Nat) : eh_it nx k0 (a + b) = eh_it nx (eh_it nx k0 a) b := by
  induction b with
  | zero => rfl
  | succ b ih => show nx (eh_it nx k0 (a + b)) = nx (eh_it nx (eh_it nx k0 a) b); rw [ih]

/-- after as many rounds as there are nodes, and one more, all with a change: that many steps back from the last change there is a cycle, and it weighs less than 0 -/
theorem eh_nc_cycle {N : Nat} {g : Nat → Int} {pr : Nat → Option Nat} {lu : Nat → Nat} (h : eh_nc E tl hd rm wt N E g pr lu)
    (hN : ∀ e, e < E → tl e < N) {v0 : Nat} (hv : v0 < N) (hl : lu v0 = N + 1) {nx : Nat → Nat} (hnx : ∀ v e, pr v = some e → nx v = tl e) :
    (∀ k, k ≤ N → pr (eh_it nx v0 k) ≠ none ∧ eh_it nx v0 k < N) ∧
    ∃ L, L ≠ [] ∧ (L.map hd).Nodup ∧ eh_ck tl pr (eh_it nx v0 N) (eh_it nx v0 N) L ∧ eh_ws wt L < 0 := by
  obtain ⟨h1, h2, h3, h4, h5, h6⟩ := h
  have hlu : ∀ k, k ≤ N → N + 1 ≤ lu (eh_it nx v0 k) + k := by
    intro k
    induction k with
    | zero => intro _; show N + 1 ≤ lu v0 + 0; omega
    | succ k ih =>
      intro hk
      have q := ih (by omega)
      have q2 := h2 (eh_it nx v0 k) (by omega)
      cases he : pr (eh_it nx v0 k) with
      | none => exact absurd he q2
      | some e =>
        have q3 := (h1 _ _ he).2.2.2.2
        show N + 1 ≤ lu (nx (eh_it nx v0 k)) + (k + 1)
        rw [hnx _ _ he]
        omega
  have hpr : ∀ k, k ≤ N → pr (eh_it nx v0 k) ≠ none := fun k hk => h2 _ (by have := hlu k hk; omega)
  have hlt : ∀ k, k ≤ N → eh_it nx v0 k < N := by
    intro k
    induction k with
    | zero => intro _; exact hv
    | succ k ih =>
      intro hk
      cases he : pr (eh_it nx v0 k) with
      | none => exact absurd he (hpr k (by omega))
      | some e =>
        show nx (eh_it nx v0 k) < N
        rw [hnx _ _ he]
        exact hN e (h1 _ _ he).1
  refine ⟨fun k hk => ⟨hpr k hk, hlt k hk⟩, ?_⟩
  obtain ⟨i, j, hij, hj, he⟩ := eh_pig N (eh_it nx v0) hlt
  obtain ⟨P, rfl⟩ : ∃ P, j = i + P := ⟨j - i, by omega⟩
  have hper : ∀ m, eh_it nx v0 (i + P + m) = eh_it nx v0 (i + m) := by
    intro m
    rw [eh_it_add nx v0 (i + P) m, ← he, ← eh_it_add]
  have hall : ∀ m, pr (eh_it nx v0 (i + m)) ≠ none := by
    intro m
    induction m using Nat.strongRecOn with
    | _ m ih =>
      by_cases hm : m < P
      · exact hpr _ (by omega)
      · have q := hper (m - P)
        have e1 : i + P + (m - P) = i + m := by omega
        rw [e1] at q
        rw [q]
        exact ih (m - P) (by omega)
  have hallN : ∀ m, pr (eh_it nx v0 (N + m)) ≠ none := by
    intro m
    have e1 : N + m = i + (N + m - i) := by omega
    rw [e1]
    exact hall _
  have hret : eh_it nx v0 (N + P) = eh_it nx v0 N := by
    have q := hper (N - i)
    have e1 : i + P + (N - i) = N + P := by omega
    have e2 : i + (N - i) = N := by omega
    rw [e1, e2] at q
    exact q
  obtain ⟨R, ⟨hR0, hR⟩, hRm⟩ := eh_least (fun R => 0 < R ∧ eh_it nx v0 (N + R) = eh_it nx v0 N) ⟨P, by omega, hret⟩
  -- the chain of n steps from N on
  have hch : ∀ n, ∃ L, L.length = n ∧ eh_ck tl pr (eh_it nx v0 N) (eh_it nx v0 (N + n)) L ∧
      L.map hd = (List.range n).map (fun m => eh_it nx v0 (N + m)) := by
    intro n
    induction n with
    | zero => exact ⟨[], rfl, rfl, rfl⟩
    | succ n ih =>
      obtain ⟨L, q1, q2, q3⟩ := ih
      cases he2 : pr (eh_it nx v0 (N + n)) with
      | none => exact absurd he2 (hallN n)
      | some e =>
        refine ⟨L ++ [e], by simp [q1], eh_ck_join q2 ⟨he2, ?_⟩, ?_⟩
        · show tl e = nx (eh_it nx v0 (N + n))
          rw [hnx _ _ he2]
        · rw [List.map_append, q3, List.range_succ, List.map_append]
          have := (h1 _ _ he2).2.2.1
          simp [this]
  obtain ⟨L, q1, q2, q3⟩ := hch R
  have hLne : L ≠ [] := by
    intro e
    rw [e] at q1
    simp at q1
    omega
  have hnd : (L.map hd).Nodup := by
    rw [q3, List.nodup_iff_pairwise_ne, List.pairwise_iff_getElem]
    intro x y hx hy hxy heq
    simp only [List.length_map, List.length_range] at hx hy
    simp only [List.getElem_map, List.getElem_range] at heq
    have e1 : eh_it nx v0 (N + (R - y + x)) = eh_it nx v0 N := by
      have f1 : N + (R - y + x) = N + x + (R - y) := by omega
      have f2 : N + R = N + y + (R - y) := by omega
      rw [f1, eh_it_add, heq, ← eh_it_add, ← f2]
      exact hR
    exact hRm (R - y + x) (by omega) ⟨by omega, e1⟩
  rw [hR] at q2
  exact ⟨L, hLne, hnd, q2, h4 _ L hLne hnd q2⟩

end
