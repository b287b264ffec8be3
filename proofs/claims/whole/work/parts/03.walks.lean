/-! ways in a network: edges e < E from tl e to hd e with room rm e and weight wt e; right potentials; short ways -/
def eh_pot (E : Nat) (tl hd : Nat → Nat) (rm wt p : Nat → Int) : Prop :=
  ∀ e, e < E → 0 < rm e → p (hd e) ≤ p (tl e) + wt e

def eh_wk (E : Nat) (tl hd : Nat → Nat) (rm : Nat → Int) : Nat → Nat → List Nat → Prop
  | u, v, [] => u = v
  | u, v, e :: L => (e < E ∧ 0 < rm e ∧ tl e = u) ∧ eh_wk E tl hd rm (hd e) v L

def eh_ws (wt : Nat → Int) : List Nat → Int
  | [] => 0
  | e :: L => wt e + eh_ws wt L

def eh_end (hd : Nat → Nat) : Nat → List Nat → Nat
  | u, [] => u
  | _, e :: L => eh_end hd (hd e) L

theorem eh_ws_app (wt : Nat → Int) (A B : List Nat) : eh_ws wt (A ++ B) = eh_ws wt A + eh_ws wt B := by
  induction A with
  | nil => show eh_ws wt B = 0 + eh_ws wt B; omega
  | cons e A ih => show wt e + eh_ws wt (A ++ B) = wt e + eh_ws wt A + eh_ws wt B; rw [ih]; omega

theorem eh_ws_le {wt : Nat → Int} {M : Int} {E : Nat} (h : ∀ e, e < E → wt e ≤ M) {L : List Nat} (hL : ∀ e, e ∈ L → e < E) :
    eh_ws wt L ≤ L.length * M := by
  induction L with
  | nil => simp [eh_ws]
  | cons e L ih =>
    have h1 := ih (fun x hx => hL x (List.mem_cons_of_mem _ hx))
    have h2 := h e (hL e (List.mem_cons_self))
    show wt e + eh_ws wt L ≤ _
    have h3 : (((e :: L).length : Nat) : Int) * M = L.length * M + M := by
      rw [List.length_cons, Int.natCast_add, Int.add_mul]; simp
    rw [h3]; omega

theorem eh_ws_ge {wt : Nat → Int} {M : Int} {E : Nat} (h : ∀ e, e < E → -M ≤ wt e) {L : List Nat} (hL : ∀ e, e ∈ L → e < E) :
    -(L.length * M) ≤ eh_ws wt L := by
  induction L with
  | nil => simp [eh_ws]
  | cons e L ih =>
    have h1 := ih (fun x hx => hL x (List.mem_cons_of_mem _ hx))
    have h2 := h e (hL e (List.mem_cons_self))
    show _ ≤ wt e + eh_ws wt L
    have h3 : (((e :: L).length : Nat) : Int) * M = L.length * M + M := by
      rw [List.length_cons, Int.natCast_add, Int.add_mul]; simp
    rw [h3]; omega

section
variable {E : Nat} {tl hd : Nat → Nat} {rm wt : Nat → Int}

theorem eh_wk_end {u v : Nat} {L : List Nat} (h : eh_wk E tl hd rm u v L) : eh_end hd u L = v := by
  induction L generalizing u with
  | nil => exact h
  | cons e L ih => exact ih h.2

theorem eh_wk_app {u v : Nat} {A B : List Nat} (h : eh_wk E tl hd rm u v (A ++ B)) :
    eh_wk E tl hd rm u (eh_end hd u A) A ∧ eh_wk E tl hd rm (eh_end hd u A) v B := by
  induction A generalizing u with
  | nil => exact ⟨rfl, h⟩
  | cons e A ih => exact ⟨⟨h.1, (ih h.2).1⟩, (ih h.2).2⟩

theorem eh_wk_join {u m v : Nat} {A B : List Nat} (h : eh_wk E tl hd rm u m A) (h2 : eh_wk E tl hd rm m v B) :
    eh_wk E tl hd rm u v (A ++ B) := by
  induction A generalizing u with
  | nil => have e : u = m := h; subst e; exact h2
  | cons e A ih => exact ⟨h.1, ih h.2⟩

theorem eh_wk_mem {u v : Nat} {L : List Nat} (h : eh_wk E tl hd rm u v L) : ∀ e, e ∈ L → e < E ∧ 0 < rm e := by
  induction L generalizing u with
  | nil => intro e he; cases he
  | cons x L ih =>
    intro e he
    rcases List.mem_cons.mp he with rfl | he
    · exact ⟨h.1.1, h.1.2.1⟩
    · exact ih h.2 e he

theorem eh_wk_pot {p : Nat → Int} (hp : eh_pot E tl hd rm wt p) {u v : Nat} {L : List Nat} (h : eh_wk E tl hd rm u v L) :
    p v ≤ p u + eh_ws wt L := by
  induction L generalizing u with
  | nil => have e : u = v := h; subst e; simp [eh_ws]
  | cons e L ih =>
    obtain ⟨⟨h1, h2, h3⟩, h4⟩ := h
    have h5 := ih h4
    have h6 := hp e h1 h2
    rw [h3] at h6
    show p v ≤ p u + (wt e + eh_ws wt L)
    omega

theorem eh_end_lt {N : Nat} (hN : ∀ e, e < E → hd e < N) {u : Nat} (hu : u < N) {L : List Nat} (hL : ∀ e, e ∈ L → e < E) :
    eh_end hd u L < N := by
  induction L generalizing u with
  | nil => exact hu
  | cons e L ih => exact ih (hN e (hL e (List.mem_cons_self))) (fun x hx => hL x (List.mem_cons_of_mem _ hx))

theorem eh_end_app (u : Nat) (A B : List Nat) : eh_end hd u (A ++ B) = eh_end hd (eh_end hd u A) B := by
  induction A generalizing u with
  | nil => rfl
  | cons e A ih => exact ih (hd e)

/-- with a right potential, a way as light as a given one needs fewer edges than there are nodes -/
theorem eh_wk_short {N : Nat} {p : Nat → Int} (hp : eh_pot E tl hd rm wt p) (hN : ∀ e, e < E → hd e < N) {u v : Nat} (hu : u < N) :
    ∀ (n : Nat) (L : List Nat), L.length = n → eh_wk E tl hd rm u v L →
      ∃ L', eh_wk E tl hd rm u v L' ∧ L'.length < N ∧ eh_ws wt L' ≤ eh_ws wt L := by
  intro n
  induction n using Nat.strongRecOn with
  | _ n ih =>
    intro L hLn h
    by_cases hlt : L.length < N
    · exact ⟨L, h, hlt, Int.le_refl _⟩
    · obtain ⟨i, j, hij, hj, he⟩ := eh_pig N (fun k => eh_end hd u (L.take k)) (by
        intro k _
        exact eh_end_lt hN hu (fun e he => (eh_wk_mem h e (List.mem_of_mem_take he)).1))
      obtain ⟨m, rfl⟩ : ∃ m, j = i + m := ⟨j - i, by omega⟩
      have e1 : L.take (i + m) = L.take i ++ (L.drop i).take m := List.take_add
      have e2 : L = (L.take i ++ (L.drop i).take m) ++ L.drop (i + m) := by
        rw [← e1, List.take_append_drop]
      try dsimp only at he
      rw [e1, eh_end_app] at he
      have hA : (L.take i).length = i := by rw [List.length_take]; omega
      have hC : (L.drop (i + m)).length = L.length - (i + m) := List.length_drop
      generalize L.take i = A at *
      generalize (L.drop i).take m = M at *
      generalize L.drop (i + m) = C at *
      subst e2
      obtain ⟨h1, h2⟩ := eh_wk_app h
      obtain ⟨h3, h4⟩ := eh_wk_app h1
      rw [eh_end_app, ← he] at h2
      rw [eh_end_app, ← he] at h4
      have h5 := eh_wk_pot hp h4
      obtain ⟨L', q1, q2, q3⟩ := ih (A ++ C).length (by rw [List.length_append]; rw [← hLn]; omega) (A ++ C) rfl (eh_wk_join h3 h2)
      refine ⟨L', q1, q2, ?_⟩
      rw [eh_ws_app] at q3
      rw [eh_ws_app, eh_ws_app]
      omega

end

/-! the search of Bellman and Ford, from s, in rounds; F: out of reach -/
/-- what holds in round k (k rounds are through) when the edges below j have been looked at -/
def eh_bf (E : Nat) (tl hd : Nat → Nat) (rm wt : Nat → Int) (F : Int) (s k j : Nat) (d : Nat → Int) (et : Nat → Option Nat) (bt : Prop) : Prop :=
  (d s = 0 ∧ et s = none) ∧
  (∀ v, d v ≤ F) ∧
  (∀ v, d v < F → ∃ L, eh_wk E tl hd rm s v L ∧ eh_ws wt L = d v) ∧
  (∀ v e, et v = some e → e < E ∧ 0 < rm e ∧ hd e = v ∧ d (tl e) < F ∧ d (tl e) + wt e ≤ d v) ∧
  (∀ v L, eh_wk E tl hd rm s v L → L.length ≤ k → d v ≤ eh_ws wt L) ∧
  (∀ u L e, eh_wk E tl hd rm s u L → L.length ≤ k → e < j → 0 < rm e → tl e = u → d (hd e) ≤ eh_ws wt L + wt e) ∧
  (¬ bt → ∀ e, e < j → 0 < rm e → d (tl e) < F → d (hd e) ≤ d (tl e) + wt e)

/-- the tree of the edges et: L leads back from v to s -/
def eh_tr (tl : Nat → Nat) (et : Nat → Option Nat) (s : Nat) : Nat → List Nat → Prop
  | v, [] => v = s ∧ et s = none
  | v, e :: L => et v = some e ∧ eh_tr tl et s (tl e) L

def eh_upd {α : Type} (f : Nat → α) (k : Nat) (x : α) : Nat → α := fun j => if j = k then x else f j

theorem eh_upd_s {α : Type} (f : Nat → α) (k : Nat) (x : α) : eh_upd f k x k = x := by simp [eh_upd]
theorem eh_upd_n {α : Type} (f : Nat → α) {k j : Nat} (x : α) (h : j ≠ k) : eh_upd f k x j = f j := by simp [eh_upd, h]

section
variable {E : Nat} {tl hd : Nat → Nat} {rm wt : Nat → Int} {F : Int} {s : Nat}

theorem eh_bf_begin (hF : 0 < F) : eh_bf E tl hd rm wt F s 0 0 (fun v => if v = s then 0 else F) (fun _ => none) False := by
  refine ⟨⟨by simp, rfl⟩, ?_, ?_, ?_, ?_, ?_, ?_⟩
  · intro v; (try dsimp only); split <;> omega
  · intro v hv
    by_cases h : v = s
    · subst h; exact ⟨[], rfl, by simp [eh_ws]⟩
    · simp [h] at hv
  · intro v e h; cases h
  · intro v L h hl
    have : L = [] := List.length_eq_zero_iff.mp (by omega)
    subst this
    have e : s = v := h
    subst e
    simp [eh_ws]
  · intro u L e _ _ h; omega
  · intro _ e h; omega

/-- a round is through: the next begins -/
theorem eh_bf_round {k : Nat} {d : Nat → Int} {et : Nat → Option Nat} {bt : Prop} (h : eh_bf E tl hd rm wt F s k E d et bt) :
    eh_bf E tl hd rm wt F s (k + 1) 0 d et False := by
  obtain ⟨h1, h2, h3, h4, h5, h6, _⟩ := h
  refine ⟨h1, h2, h3, h4, ?_, ?_, ?_⟩
  · intro v L hw hl
    rcases List.eq_nil_or_concat L with rfl | ⟨A, e, rfl⟩
    · exact h5 v [] hw (by simp)
    · rw [List.concat_eq_append] at hw hl ⊢
      obtain ⟨q1, ⟨q2, q3, q4⟩, q5⟩ := eh_wk_app hw
      have q5 : hd e = v := q5
      have := h6 _ A e q1 (by simp at hl; omega) q2 q3 q4
      rw [q5] at this
      rw [eh_ws_app]
      simpa [eh_ws] using this
  · intro u L e _ _ h; omega
  · intro _ e h; omega

/-- an edge that betters nothing -/
theorem eh_bf_skip {k j : Nat} {d : Nat → Int} {et : Nat → Option Nat} {bt : Prop} {M : Int}
    (hM : ∀ e, e < E → wt e ≤ M) (hk : k * M < F) (hM0 : 0 ≤ M)
    (h : eh_bf E tl hd rm wt F s k j d et bt)
    (hn : 0 < rm j → d (tl j) < F → d (hd j) ≤ d (tl j) + wt j) : eh_bf E tl hd rm wt F s k (j + 1) d et bt := by
  obtain ⟨h1, h2, h3, h4, h5, h6, h7⟩ := h
  refine ⟨h1, h2, h3, h4, h5, ?_, ?_⟩
  · intro u L e hw hl he hr ht
    by_cases hej : e = j
    · subst hej
      have q1 := h5 u L hw hl
      have q2 := eh_ws_le hM (fun e he => (eh_wk_mem hw e he).1)
      have q3 : (L.length : Int) * M ≤ k * M := Int.mul_le_mul_of_nonneg_right (by omega) hM0
      have q4 := hn hr (by rw [ht]; omega)
      rw [ht] at q4
      omega
    · exact h6 u L e hw hl (by omega) hr ht
  · intro hb e he hr hd'
    by_cases hej : e = j
    · subst hej; exact hn hr hd'
    · exact h7 hb e (by omega) hr hd'

/-- an edge that betters its head -/
theorem eh_bf_take {k j : Nat} {d : Nat → Int} {et : Nat → Option Nat} {bt : Prop} {p : Nat → Int}
    (hp : eh_pot E tl hd rm wt p) (hj : j < E)
    (h : eh_bf E tl hd rm wt F s k j d et bt) (hr : 0 < rm j) (hd1 : d (tl j) < F) (hlt : d (tl j) + wt j < d (hd j)) :
    hd j ≠ s ∧ hd j ≠ tl j ∧
    eh_bf E tl hd rm wt F s k (j + 1) (eh_upd d (hd j) (d (tl j) + wt j)) (eh_upd et (hd j) (some j)) True := by
  obtain ⟨h1, h2, h3, h4, h5, h6, h7⟩ := h
  obtain ⟨L0, w0, e0⟩ := h3 _ hd1
  have hns : hd j ≠ s := by
    intro e
    have q := eh_wk_pot hp w0
    have q2 := hp j hj hr
    rw [e, h1.1] at hlt
    rw [e] at q2
    omega
  have hnt : hd j ≠ tl j := by
    intro e
    have q2 := hp j hj hr
    rw [e] at q2 hlt
    omega
  have hle : ∀ v, eh_upd d (hd j) (d (tl j) + wt j) v ≤ d v := by
    intro v
    by_cases e : v = hd j
    · subst e; rw [eh_upd_s]; omega
    · rw [eh_upd_n _ _ e]; omega
  refine ⟨hns, hnt, ⟨?_, ?_⟩, ?_, ?_, ?_, ?_, ?_, ?_⟩
  · rw [eh_upd_n _ _ (Ne.symm hns)]; exact h1.1
  · rw [eh_upd_n _ _ (Ne.symm hns)]; exact h1.2
  · intro v; have := hle v; have := h2 v; omega
  · intro v hv
    by_cases e : v = hd j
    · subst e
      rw [eh_upd_s]
      exact ⟨L0 ++ [j], eh_wk_join w0 ⟨⟨hj, hr, rfl⟩, rfl⟩, by rw [eh_ws_app, e0]; simp [eh_ws]⟩
    · rw [eh_upd_n _ _ e] at hv ⊢
      exact h3 v hv
  · intro v e he
    by_cases ev : v = hd j
    · subst ev
      rw [eh_upd_s] at he
      have : j = e := Option.some.inj he
      subst this
      rw [eh_upd_s, eh_upd_n _ _ (Ne.symm hnt)]
      exact ⟨hj, hr, rfl, hd1, Int.le_refl _⟩
    · rw [eh_upd_n _ _ ev] at he ⊢
      obtain ⟨q1, q2, q3, q4, q5⟩ := h4 v e he
      have := hle (tl e)
      exact ⟨q1, q2, q3, by omega, by omega⟩
  · intro v L hw hl
    have := hle v
    have := h5 v L hw hl
    omega
  · intro u L e hw hl he hr' ht
    by_cases hej : e = j
    · subst hej
      rw [eh_upd_s]
      have := h5 u L hw hl
      rw [ht]
      omega
    · have := hle (hd e)
      have := h6 u L e hw hl (by omega) hr' ht
      omega
  · intro hb; exact absurd trivial hb

/-- at the end, after a round without a change or after N - 1 rounds and one more: every edge is kept -/
theorem eh_bf_done {N k : Nat} {d : Nat → Int} {et : Nat → Option Nat} {bt : Prop} {p : Nat → Int} {M : Int}
    (hp : eh_pot E tl hd rm wt p) (hN : ∀ e, e < E → hd e < N) (hs : s < N)
    (hM : ∀ e, e < E → wt e ≤ M) (hM0 : 0 ≤ M) (hF : N * M < F)
    (h : eh_bf E tl hd rm wt F s k E d et bt) (hk : ¬ bt ∨ N ≤ k + 1) :
    ∀ e, e < E → 0 < rm e → d (tl e) < F → d (hd e) ≤ d (tl e) + wt e := by
  obtain ⟨h1, h2, h3, h4, h5, h6, h7⟩ := h
  intro e he hr ht
  rcases hk with hb | hk
  · exact h7 hb e he hr ht
  · obtain ⟨L, w, ew⟩ := h3 _ ht
    obtain ⟨L', q1, q2, q3⟩ := eh_wk_short hp hN hs _ (L ++ [e]) rfl (eh_wk_join w (⟨⟨he, hr, rfl⟩, rfl⟩ : eh_wk E tl hd rm (tl e) (hd e) [e]))
    have q4 := h5 _ L' q1 (by omega)
    rw [eh_ws_app, ew] at q3
    simp only [eh_ws] at q3
    omega

/-- no number falls below the lightest way -/
theorem eh_bf_low {N k j : Nat} {d : Nat → Int} {et : Nat → Option Nat} {bt : Prop} {p : Nat → Int} {M : Int}
    (hp : eh_pot E tl hd rm wt p) (hN : ∀ e, e < E → hd e < N) (hs : s < N)
    (hM : ∀ e, e < E → -M ≤ wt e) (hM0 : 0 ≤ M) (hF : 0 < F)
    (h : eh_bf E tl hd rm wt F s k j d et bt) : ∀ v, -(N * M) ≤ d v := by
  intro v
  have hNM : (0 : Int) ≤ N * M := Int.mul_nonneg (by omega) hM0
  by_cases hv : d v < F
  · obtain ⟨L, w, ew⟩ := h.2.2.1 v hv
    obtain ⟨L', q1, q2, q3⟩ := eh_wk_short hp hN hs _ L rfl w
    have q4 := eh_ws_ge hM (fun e he => (eh_wk_mem q1 e he).1)
    have q5 : (L'.length : Int) * M ≤ N * M := Int.mul_le_mul_of_nonneg_right (by omega) hM0
    omega
  · omega

/-- the tree stays a tree -/
theorem eh_tr_take {k j : Nat} {d : Nat → Int} {et : Nat → Option Nat} {bt : Prop} {p : Nat → Int}
    (hp : eh_pot E tl hd rm wt p) (hj : j < E)
    (h : eh_bf E tl hd rm wt F s k j d et bt) (hr : 0 < rm j) (hd1 : d (tl j) < F) (hlt : d (tl j) + wt j < d (hd j))
    (ht : ∀ v, d v < F → ∃ L, eh_tr tl et s v L) :
    ∀ v, eh_upd d (hd j) (d (tl j) + wt j) v < F → ∃ L, eh_tr tl (eh_upd et (hd j) (some j)) s v L := by
  have hns := (eh_bf_take hp hj h hr hd1 hlt).1
  obtain ⟨h1, h2, h3, h4, h5, h6, h7⟩ := h
  have av : ∀ (L : List Nat) (u : Nat), eh_tr tl et s u L →
      (∃ L', eh_tr tl (eh_upd et (hd j) (some j)) s u L') ∨ (∃ A, eh_wk E tl hd rm (hd j) u A ∧ d (hd j) + eh_ws wt A ≤ d u) := by
    intro L
    induction L with
    | nil =>
      intro u hu
      obtain ⟨rfl, hu2⟩ := hu
      exact Or.inl ⟨[], rfl, by rw [eh_upd_n _ _ (Ne.symm hns)]; exact hu2⟩
    | cons e L ih =>
      intro u hu
      obtain ⟨hu1, hu2⟩ := hu
      by_cases e1 : u = hd j
      · subst e1
        exact Or.inr ⟨[], rfl, by simp [eh_ws]⟩
      · rcases ih _ hu2 with ⟨L', q⟩ | ⟨A, q1, q2⟩
        · exact Or.inl ⟨e :: L', by rw [eh_upd_n _ _ e1]; exact hu1, q⟩
        · obtain ⟨r1, r2, r3, r4, r5⟩ := h4 u e hu1
          refine Or.inr ⟨A ++ [e], eh_wk_join q1 ⟨⟨r1, r2, rfl⟩, r3⟩, ?_⟩
          rw [eh_ws_app]
          simp only [eh_ws]
          omega
  obtain ⟨L0, hL0⟩ := ht _ hd1
  have hu : ∃ L', eh_tr tl (eh_upd et (hd j) (some j)) s (tl j) L' := by
    rcases av L0 _ hL0 with q | ⟨A, q1, q2⟩
    · exact q
    · exfalso
      have q3 := eh_wk_pot hp q1
      have q4 := hp j hj hr
      omega
  obtain ⟨L1, hL1⟩ := hu
  have hv : eh_tr tl (eh_upd et (hd j) (some j)) s (hd j) (j :: L1) := ⟨eh_upd_s _ _ _, hL1⟩
  have gen : ∀ (L : List Nat) (y : Nat), eh_tr tl et s y L → ∃ L', eh_tr tl (eh_upd et (hd j) (some j)) s y L' := by
    intro L
    induction L with
    | nil =>
      intro y hy
      obtain ⟨rfl, hy2⟩ := hy
      exact ⟨[], rfl, by rw [eh_upd_n _ _ (Ne.symm hns)]; exact hy2⟩
    | cons e L ih =>
      intro y hy
      by_cases e1 : y = hd j
      · subst e1; exact ⟨_, hv⟩
      · obtain ⟨L', q⟩ := ih _ hy.2
        exact ⟨e :: L', by rw [eh_upd_n _ _ e1]; exact hy.1, q⟩
  intro v hvF
  by_cases e : v = hd j
  · subst e; exact ⟨_, hv⟩
  · rw [eh_upd_n _ _ e] at hvF
    obtain ⟨L, hL⟩ := ht v hvF
    exact gen L v hL

theorem eh_tr_fun {et : Nat → Option Nat} : ∀ (L L' : List Nat) (v : Nat), eh_tr tl et s v L → eh_tr tl et s v L' → L = L' := by
  intro L
  induction L with
  | nil =>
    intro L' v h h'
    cases L' with
    | nil => rfl
    | cons e L' =>
      obtain ⟨rfl, h2⟩ := h
      have q := h'.1
      rw [h2] at q
      cases q
  | cons e L ih =>
    intro L' v h h'
    cases L' with
    | nil =>
      obtain ⟨rfl, h2⟩ := h'
      have q := h.1
      rw [h2] at q
      cases q
    | cons e' L' =>
      have q : some e = some e' := by rw [← h.1, ← h'.1]
      have q2 : e = e' := Option.some.inj q
      subst q2
      rw [ih L' _ h.2 h'.2]

def eh_bk (tl : Nat → Nat) : Nat → List Nat → Nat → Nat
  | v, _, 0 => v
  | v, [], _ + 1 => v
  | _, e :: L, k + 1 => eh_bk tl (tl e) L k

theorem eh_tr_drop {et : Nat → Option Nat} : ∀ (k : Nat) (L : List Nat) (v : Nat), eh_tr tl et s v L → k ≤ L.length →
    eh_tr tl et s (eh_bk tl v L k) (L.drop k) := by
  intro k
  induction k with
  | zero => intro L v h _; cases L <;> exact h
  | succ k ih =>
    intro L v h hk
    cases L with
    | nil => simp at hk
    | cons e L => exact ih L (tl e) h.2 (by simpa using hk)

theorem eh_tr_lt {et : Nat → Option Nat} {N : Nat} (hv : ∀ v e, et v = some e → tl e < N) : ∀ (k : Nat) (L : List Nat) (v : Nat), v < N → eh_tr tl et s v L →
    eh_bk tl v L k < N := by
  intro k
  induction k with
  | zero => intro L v h _; cases L <;> exact h
  | succ k ih =>
    intro L v h ht
    cases L with
    | nil => exact h
    | cons e L => exact ih L (tl e) (hv v e ht.1) ht.2

/-- the way back meets no node twice: it is shorter than there are nodes -/
theorem eh_tr_len {et : Nat → Option Nat} {N : Nat} (hv : ∀ v e, et v = some e → tl e < N) {L : List Nat} {v : Nat} (hvN : v < N)
    (h : eh_tr tl et s v L) : L.length < N := by
  apply Classical.byContradiction
  intro hn
  obtain ⟨i, j, hij, hj, he⟩ := eh_pig N (eh_bk tl v L) (fun k _ => eh_tr_lt hv k L v hvN h)
  have q1 := eh_tr_drop i L v h (by omega)
  have q2 := eh_tr_drop j L v h (by omega)
  rw [he] at q1
  have q3 := eh_tr_fun _ _ _ q1 q2
  have q4 : (L.drop i).length = (L.drop j).length := by rw [q3]
  rw [List.length_drop, List.length_drop] at q4
  omega

/-- and no edge twice -/
theorem eh_tr_nodup {et : Nat → Option Nat} (hh : ∀ v e, et v = some e → hd e = v) : ∀ {L : List Nat} {v : Nat}, eh_tr tl et s v L → L.Nodup := by
  intro L v h
  have key : ∀ i j (hi : i < L.length) (hj : j < L.length), i < j → L[i] ≠ L[j] := by
    intro i j hi hj hij he
    have q1 := eh_tr_drop i L v h (by omega)
    have q2 := eh_tr_drop j L v h (by omega)
    have d1 : L.drop i = L[i] :: L.drop (i + 1) := List.drop_eq_getElem_cons hi
    have d2 : L.drop j = L[j] :: L.drop (j + 1) := List.drop_eq_getElem_cons hj
    have q1' := q1
    have q2' := q2
    rw [d1] at q1'
    rw [d2] at q2'
    have r1 := hh _ _ q1'.1
    have r2 := hh _ _ q2'.1
    rw [he] at r1
    have r3 : eh_bk tl v L i = eh_bk tl v L j := by rw [← r1, ← r2]
    rw [r3] at q1
    have q3 := eh_tr_fun _ _ _ q1 q2
    have q4 : (L.drop i).length = (L.drop j).length := by rw [q3]
    rw [List.length_drop, List.length_drop] at q4
    omega
  rw [List.nodup_iff_pairwise_ne, List.pairwise_iff_getElem]
  intro i j hi hj hij
  exact key i j hi hj hij

/-- the way back, read forwards, is a way from s -/
theorem eh_tr_wk {k j : Nat} {d : Nat → Int} {et : Nat → Option Nat} {bt : Prop} (h : eh_bf E tl hd rm wt F s k j d et bt)
    (hf : ∀ e, e < E → 0 < rm e → d (tl e) < F → d (hd e) ≤ d (tl e) + wt e) :
    ∀ {L : List Nat} {v : Nat}, eh_tr tl et s v L → eh_wk E tl hd rm s v L.reverse ∧ eh_ws wt L.reverse = d v ∧
      (∀ e, e ∈ L → e < E ∧ 0 < rm e ∧ d (tl e) < F ∧ d (hd e) = d (tl e) + wt e) := by
  obtain ⟨h1, h2, h3, h4, h5, h6, h7⟩ := h
  intro L
  induction L with
  | nil =>
    intro v hv
    obtain ⟨rfl, _⟩ := hv
    exact ⟨rfl, by simp [eh_ws, h1.1], fun e he => by cases he⟩
  | cons e L ih =>
    intro v hv
    obtain ⟨r1, r2, r3, r4, r5⟩ := h4 v e hv.1
    obtain ⟨q1, q2, q3⟩ := ih hv.2
    have r6 := hf e r1 r2 r4
    rw [r3] at r6
    rw [List.reverse_cons]
    refine ⟨eh_wk_join q1 ⟨⟨r1, r2, rfl⟩, r3⟩, ?_, ?_⟩
    · rw [eh_ws_app, q2]; simp only [eh_ws]; omega
    · intro x hx
      rcases List.mem_cons.mp hx with rfl | hx
      · exact ⟨r1, r2, r4, by rw [r3]; omega⟩
      · exact q3 x hx

end
