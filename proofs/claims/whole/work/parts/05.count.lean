/-! how many ways there are: lists of different nodes, sources (below 6) and sinks (6 to 10) in turn -/
def eh_cn : Nat → Nat
  | 0 => 1
  | n + 1 => 1 + (n + 1) * eh_cn n

/-- the number of a list without repetition among all such lists over S -/
def eh_rk : List Nat → List Nat → Nat
  | _, [] => 0
  | S, x :: L => 1 + (S.idxOf x * eh_cn (S.length - 1) + eh_rk (S.erase x) L)

theorem eh_rk_lt : ∀ (L S : List Nat), S.Nodup → L.Nodup → (∀ x, x ∈ L → x ∈ S) → eh_rk S L < eh_cn S.length := by
  intro L
  induction L with
  | nil =>
    intro S _ _ _
    show 0 < eh_cn S.length
    cases S.length <;> simp [eh_cn] <;> omega
  | cons x L ih =>
    intro S hS hL hm
    have hx : x ∈ S := hm x List.mem_cons_self
    have hL2 := List.nodup_cons.mp hL
    have h1 := ih (S.erase x) (hS.erase x) hL2.2 (by
      intro y hy
      have hne : y ≠ x := fun e => hL2.1 (e ▸ hy)
      exact (List.mem_erase_of_ne hne).mpr (hm y (List.mem_cons_of_mem _ hy)))
    rw [List.length_erase_of_mem hx] at h1
    have h2 : S.idxOf x < S.length := List.idxOf_lt_length_of_mem hx
    show 1 + (S.idxOf x * eh_cn (S.length - 1) + eh_rk (S.erase x) L) < eh_cn S.length
    obtain ⟨n, hn⟩ : ∃ n, S.length = n + 1 := ⟨S.length - 1, by omega⟩
    rw [hn] at h1 h2 ⊢
    have e : n + 1 - 1 = n := by omega
    rw [e] at h1 ⊢
    show _ < 1 + (n + 1) * eh_cn n
    have h3 : S.idxOf x * eh_cn n ≤ n * eh_cn n := Nat.mul_le_mul_right _ (by omega)
    have h4 : (n + 1) * eh_cn n = n * eh_cn n + eh_cn n := Nat.succ_mul _ _
    omega

theorem eh_two {i j c r s : Nat} (hr : r < c) (hs : s < c) (h : i * c + r = j * c + s) : i = j ∧ r = s := by
  have e : i = j := by
    rcases Nat.lt_trichotomy i j with q | q | q
    · have := Nat.mul_le_mul_right c (show i + 1 ≤ j by omega)
      rw [Nat.succ_mul] at this
      omega
    · exact q
    · have := Nat.mul_le_mul_right c (show j + 1 ≤ i by omega)
      rw [Nat.succ_mul] at this
      omega
  subst e
  exact ⟨rfl, by omega⟩

theorem eh_rk_inj : ∀ (L L' S : List Nat), S.Nodup → L.Nodup → L'.Nodup → (∀ x, x ∈ L → x ∈ S) → (∀ x, x ∈ L' → x ∈ S) →
    eh_rk S L = eh_rk S L' → L = L' := by
  intro L
  induction L with
  | nil =>
    intro L' S _ _ _ _ _ h
    cases L' with
    | nil => rfl
    | cons y L' => simp only [eh_rk] at h; omega
  | cons x L ih =>
    intro L' S hS hL hL' hm hm' h
    cases L' with
    | nil => simp only [eh_rk] at h; omega
    | cons y L' =>
      have hx : x ∈ S := hm x List.mem_cons_self
      have hy : y ∈ S := hm' y List.mem_cons_self
      have hL2 := List.nodup_cons.mp hL
      have hL2' := List.nodup_cons.mp hL'
      have sub : ∀ z, z ∈ L → z ∈ S.erase x := by
        intro z hz
        have hne : z ≠ x := fun e => hL2.1 (e ▸ hz)
        exact (List.mem_erase_of_ne hne).mpr (hm z (List.mem_cons_of_mem _ hz))
      have sub' : ∀ z, z ∈ L' → z ∈ S.erase y := by
        intro z hz
        have hne : z ≠ y := fun e => hL2'.1 (e ▸ hz)
        exact (List.mem_erase_of_ne hne).mpr (hm' z (List.mem_cons_of_mem _ hz))
      have h1 := eh_rk_lt L (S.erase x) (hS.erase x) hL2.2 sub
      have h1' := eh_rk_lt L' (S.erase y) (hS.erase y) hL2'.2 sub'
      rw [List.length_erase_of_mem hx] at h1
      rw [List.length_erase_of_mem hy] at h1'
      simp only [eh_rk] at h
      obtain ⟨e1, e2⟩ := eh_two (i := S.idxOf x) (j := S.idxOf y) (c := eh_cn (S.length - 1)) h1 h1' (by omega)
      have i1 : S.idxOf x < S.length := List.idxOf_lt_length_of_mem hx
      have i2 : S.idxOf y < S.length := List.idxOf_lt_length_of_mem hy
      have g1 : S[S.idxOf x] = x := List.getElem_idxOf i1
      have g2 : S[S.idxOf y] = y := List.getElem_idxOf i2
      have exy : x = y := by
        have z : S[S.idxOf x]? = S[S.idxOf y]? := by rw [e1]
        rw [List.getElem?_eq_getElem i1, List.getElem?_eq_getElem i2, g1, g2] at z
        exact Option.some.inj z
      subst exy
      rw [ih L' (S.erase x) (hS.erase x) hL2.2 hL2'.2 sub sub' e2]

def eh_alt : Bool → List Nat → Prop
  | _, [] => True
  | b, x :: V => decide (x < 6) = b ∧ eh_alt (!b) V

theorem eh_alt_eq : ∀ (V V' : List Nat) (b : Bool), eh_alt b V → eh_alt b V' →
    V.filter (fun x => decide (x < 6)) = V'.filter (fun x => decide (x < 6)) →
    V.filter (fun x => !decide (x < 6)) = V'.filter (fun x => !decide (x < 6)) → V = V' := by
  intro V
  induction V with
  | nil =>
    intro V' b _ _ h1 h2
    cases V' with
    | nil => rfl
    | cons y V' =>
      by_cases hy : y < 6
      · simp [List.filter_cons, hy] at h1
      · simp [List.filter_cons, hy] at h2
  | cons x V ih =>
    intro V' b hV hV' h1 h2
    cases V' with
    | nil =>
      by_cases hx : x < 6
      · simp [List.filter_cons, hx] at h1
      · simp [List.filter_cons, hx] at h2
    | cons y V' =>
      obtain ⟨a1, a2⟩ := hV
      obtain ⟨b1, b2⟩ := hV'
      have hxy : decide (x < 6) = decide (y < 6) := by rw [a1, b1]
      by_cases hx : x < 6
      · have hy : y < 6 := by
          have : decide (y < 6) = true := by rw [← hxy]; simp [hx]
          simpa using this
        simp only [List.filter_cons, hx, hy, decide_true, if_true, Bool.not_true, Bool.false_eq_true, if_false, List.cons.injEq] at h1 h2
        rw [h1.1, ih V' _ a2 b2 h1.2 h2]
      · have hy : ¬ y < 6 := by
          have : decide (y < 6) = false := by rw [← hxy]; simp [hx]
          simpa using this
        simp only [List.filter_cons, hx, hy, decide_false, Bool.false_eq_true, if_false, Bool.not_false, if_true, List.cons.injEq] at h1 h2
        rw [h2.1, ih V' _ a2 b2 h1 h2.2]

/-- a list of nodes that may be a way: sources and sinks in turn, none twice -/
def eh_good (b : Bool) (V : List Nat) : Prop := eh_alt b V ∧ V.Nodup ∧ ∀ x, x ∈ V → x < 11

def eh_code (V : List Nat) : Nat :=
  eh_rk [0, 1, 2, 3, 4, 5] (V.filter (fun x => decide (x < 6))) * 326 + eh_rk [6, 7, 8, 9, 10] (V.filter (fun x => !decide (x < 6)))

theorem eh_good_parts {b : Bool} {V : List Nat} (h : eh_good b V) :
    (V.filter (fun x => decide (x < 6))).Nodup ∧ (V.filter (fun x => !decide (x < 6))).Nodup ∧
    (∀ x, x ∈ V.filter (fun x => decide (x < 6)) → x ∈ [0, 1, 2, 3, 4, 5]) ∧
    (∀ x, x ∈ V.filter (fun x => !decide (x < 6)) → x ∈ [6, 7, 8, 9, 10]) := by
  refine ⟨h.2.1.sublist List.filter_sublist, h.2.1.sublist List.filter_sublist, ?_, ?_⟩
  · intro x hx
    rw [List.mem_filter] at hx
    have h1 : x < 6 := by simpa using hx.2
    have : x = 0 ∨ x = 1 ∨ x = 2 ∨ x = 3 ∨ x = 4 ∨ x = 5 := by omega
    simpa using this
  · intro x hx
    rw [List.mem_filter] at hx
    have h1 : ¬ x < 6 := by simpa using hx.2
    have h2 := h.2.2 x hx.1
    have : x = 6 ∨ x = 7 ∨ x = 8 ∨ x = 9 ∨ x = 10 := by omega
    simpa using this

theorem eh_code_lt {b : Bool} {V : List Nat} (h : eh_good b V) : eh_code V < 637982 := by
  obtain ⟨h1, h2, h3, h4⟩ := eh_good_parts h
  have q1 := eh_rk_lt _ [0, 1, 2, 3, 4, 5] (by decide) h1 h3
  have q2 := eh_rk_lt _ [6, 7, 8, 9, 10] (by decide) h2 h4
  have c1 : eh_cn [0, 1, 2, 3, 4, 5].length = 1957 := by decide
  have c2 : eh_cn [6, 7, 8, 9, 10].length = 326 := by decide
  rw [c1] at q1
  rw [c2] at q2
  unfold eh_code
  omega

theorem eh_code_inj {b : Bool} {V V' : List Nat} (h : eh_good b V) (h' : eh_good b V') (e : eh_code V = eh_code V') : V = V' := by
  obtain ⟨h1, h2, h3, h4⟩ := eh_good_parts h
  obtain ⟨h1', h2', h3', h4'⟩ := eh_good_parts h'
  have q2 := eh_rk_lt _ [6, 7, 8, 9, 10] (by decide) h2 h4
  have q2' := eh_rk_lt _ [6, 7, 8, 9, 10] (by decide) h2' h4'
  have c2 : eh_cn [6, 7, 8, 9, 10].length = 326 := by decide
  rw [c2] at q2 q2'
  unfold eh_code at e
  obtain ⟨e1, e2⟩ := eh_two q2 q2' e
  exact eh_alt_eq V V' b h.1 h'.1
    (eh_rk_inj _ _ [0, 1, 2, 3, 4, 5] (by decide) h1 h1' h3 h3' e1)
    (eh_rk_inj _ _ [6, 7, 8, 9, 10] (by decide) h2 h2' h4 h4' e2)

/-- n ways were taken, each heavier than the one before, none heavier than D -/
def eh_hist (b : Bool) (G : List Nat → Int) (n : Nat) (D : Int) : Prop :=
  ∃ Vs : Nat → List Nat, (∀ i, i < n → eh_good b (Vs i) ∧ G (Vs i) ≤ D) ∧ ∀ i j, i < j → j < n → G (Vs i) < G (Vs j)

theorem eh_hist_0 (b : Bool) (G : List Nat → Int) (D : Int) : eh_hist b G 0 D :=
  ⟨fun _ => [], fun i h => by omega, fun i j _ h => by omega⟩

theorem eh_hist_s {b : Bool} {G : List Nat → Int} {n : Nat} {D : Int} (h : eh_hist b G n D) {V : List Nat} (hV : eh_good b V) (hD : n = 0 ∨ D < G V) :
    eh_hist b G (n + 1) (G V) := by
  obtain ⟨Vs, h1, h2⟩ := h
  refine ⟨eh_upd Vs n V, ?_, ?_⟩
  · intro i hi
    by_cases e : i = n
    · subst e; rw [eh_upd_s]; exact ⟨hV, Int.le_refl _⟩
    · rw [eh_upd_n _ _ e]
      have := h1 i (by omega)
      exact ⟨this.1, by omega⟩
  · intro i j hij hj
    have hi : i ≠ n := by omega
    rw [eh_upd_n _ _ hi]
    by_cases e : j = n
    · subst e
      rw [eh_upd_s]
      have := (h1 i (by omega)).2
      omega
    · rw [eh_upd_n _ _ e]
      exact h2 i j hij (by omega)

theorem eh_hist_le {b : Bool} {G : List Nat → Int} {n : Nat} {D : Int} (h : eh_hist b G n D) : n ≤ 637982 := by
  obtain ⟨Vs, h1, h2⟩ := h
  apply Classical.byContradiction
  intro hn
  obtain ⟨i, j, hij, hj, he⟩ := eh_pig 637982 (fun i => eh_code (Vs i)) (fun i hi => eh_code_lt (h1 i (by omega)).1)
  have e := eh_code_inj (h1 i (by omega)).1 (h1 j (by omega)).1 he
  have := h2 i j hij (by omega)
  rw [e] at this
  omega

/-! the nodes of a way of the tree -/
section
variable {tl hd : Nat → Nat} {s : Nat}

theorem eh_tr_nd {et : Nat → Option Nat} : ∀ {L : List Nat} {v : Nat}, eh_tr tl et s v L → (v :: L.map tl).Nodup := by
  intro L
  induction L with
  | nil => intro v _; simp
  | cons e L ih =>
    intro v h
    have h1 := ih h.2
    have key : ∀ (i : Nat) (L : List Nat) (v : Nat) (hi : i < L.length), eh_bk tl v L (i + 1) = tl L[i] := by
      intro i
      induction i with
      | zero =>
        intro L v hi
        cases L with
        | nil => simp at hi
        | cons e L => cases L <;> rfl
      | succ i ih =>
        intro L v hi
        cases L with
        | nil => simp at hi
        | cons e L => exact ih L (tl e) (by simpa using hi)
    refine List.nodup_cons.mpr ⟨?_, h1⟩
    intro hm
    rw [List.mem_map] at hm
    obtain ⟨x, hx, he⟩ := hm
    obtain ⟨i, hi, rfl⟩ := List.mem_iff_getElem.mp hx
    have q := eh_tr_inj h (i := 0) (j := i + 1) (by omega) (by omega)
    rw [key i _ v hi, he] at q
    exact q rfl

theorem eh_tr_nodes {et : Nat → Option Nat} (hh : ∀ v e, et v = some e → hd e = v) : ∀ {L : List Nat} {v : Nat}, eh_tr tl et s v L →
    L.map hd ++ [s] = v :: L.map tl := by
  intro L
  induction L with
  | nil => intro v h; simp [h.1]
  | cons e L ih =>
    intro v h
    have h1 := ih h.2
    show hd e :: (L.map hd ++ [s]) = v :: (tl e :: L.map tl)
    rw [h1, hh v e h.1]

end

/-- the weight of a list of nodes, read backwards, by the weight W of the edge between two nodes -/
def eh_wv (W : Nat → Nat → Int) : List Nat → Int
  | [] => 0
  | [_] => 0
  | x :: y :: V => W y x + eh_wv W (y :: V)

theorem eh_tr_wv {tl hd : Nat → Nat} {s : Nat} {et : Nat → Option Nat} {wt : Nat → Int} {W : Nat → Nat → Int}
    (hW : ∀ v e, et v = some e → hd e = v ∧ wt e = W (tl e) (hd e)) : ∀ {L : List Nat} {v : Nat}, eh_tr tl et s v L →
    eh_ws wt L = eh_wv W (v :: L.map tl) := by
  intro L
  induction L with
  | nil => intro v _; rfl
  | cons e L ih =>
    intro v h
    have h1 := ih h.2
    obtain ⟨q1, q2⟩ := hW v e h.1
    show wt e + eh_ws wt L = W (tl e) v + eh_wv W (tl e :: L.map tl)
    rw [h1, q2, q1]

theorem eh_ws_rev (wt : Nat → Int) (L : List Nat) : eh_ws wt L.reverse = eh_ws wt L := by
  induction L with
  | nil => rfl
  | cons e L ih =>
    rw [List.reverse_cons, eh_ws_app, ih]
    simp only [eh_ws]
    omega

/-- towards a start o from a node of another kind: all nodes but the last, o -/
theorem eh_tr_goodB {tl hd : Nat → Nat} {o : Nat} {et : Nat → Option Nat}
    (hk : ∀ v e, et v = some e → tl e < 12 ∧ (v ≠ o → tl e ≠ o → decide (tl e < 6) = !decide (v < 6))) (ho : o = 11) :
    ∀ {L : List Nat} {v : Nat}, v < 12 → v ≠ o → eh_tr tl et o v L →
    ∃ V, v :: L.map tl = V ++ [o] ∧ eh_alt (decide (v < 6)) V ∧ ∀ x, x ∈ V → x < 11 := by
  intro L
  induction L with
  | nil => intro v _ hv h; exact absurd h.1 hv
  | cons e L ih =>
    intro v hv12 hv h
    obtain ⟨k1, k2⟩ := hk v e h.1
    by_cases ht : tl e = o
    · have hL : L = [] := by
        cases L with
        | nil => rfl
        | cons x L =>
          have h2 := h.2
          rw [ht] at h2
          have h3 : eh_tr tl et o o [] := by
            -- the tree ends at o
            have : ∀ (L : List Nat) (u : Nat), eh_tr tl et o u L → et o = none := by
              intro L
              induction L with
              | nil => intro u q; exact q.2
              | cons y L ih2 => intro u q; exact ih2 _ q.2
            exact ⟨rfl, this _ _ h2⟩
          exact absurd (eh_tr_fun _ _ _ h2 h3) (by simp)
      subst hL
      refine ⟨[v], by simp [ht], ⟨rfl, trivial⟩, ?_⟩
      intro x hx
      have : x = v := by simpa using hx
      omega
    · obtain ⟨V, e1, e2, e3⟩ := ih k1 ht h.2
      refine ⟨v :: V, by rw [List.map_cons, e1]; rfl, ⟨rfl, ?_⟩, ?_⟩
      · rw [← k2 hv ht]; exact e2
      · intro x hx
        rcases List.mem_cons.mp hx with rfl | hx
        · omega
        · exact e3 x hx

/-- a way onwards to o that meets no node twice -/
theorem eh_wk_goodA {E : Nat} {tl hd : Nat → Nat} {rm : Nat → Int} {o : Nat} (ho : o = 11)
    (hk : ∀ e, e < E → hd e < 12 ∧ (tl e ≠ o → hd e ≠ o → decide (hd e < 6) = !decide (tl e < 6))) :
    ∀ {L : List Nat} {u : Nat}, u < 12 → u ≠ o → eh_wk E tl hd rm u o L → (u :: L.map hd).Nodup →
    ∃ V, u :: L.map hd = V ++ [o] ∧ eh_alt (decide (u < 6)) V ∧ ∀ x, x ∈ V → x < 11 := by
  intro L
  induction L with
  | nil => intro u _ hu h _; exact absurd h hu
  | cons e L ih =>
    intro u hu12 hu h hnd
    obtain ⟨⟨h1, h2, h3⟩, h4⟩ := h
    obtain ⟨k1, k2⟩ := hk e h1
    have hnd2 : (hd e :: L.map hd).Nodup := (List.nodup_cons.mp hnd).2
    by_cases ht : hd e = o
    · have hL : L = [] := by
        cases L with
        | nil => rfl
        | cons x L =>
          exfalso
          have hmem : ∀ (L : List Nat) (u : Nat), L ≠ [] → eh_wk E tl hd rm u o L → o ∈ L.map hd := by
            intro L
            induction L with
            | nil => intro u q; exact absurd rfl q
            | cons y L ih2 =>
              intro u _ q
              cases L with
              | nil => have : hd y = o := q.2; simp [this]
              | cons z L =>
                rw [List.map_cons]
                exact List.mem_cons_of_mem _ (ih2 _ (by simp) q.2)
          have q := hmem (x :: L) _ (by simp) h4
          rw [ht] at hnd2
          exact (List.nodup_cons.mp hnd2).1 q
      subst hL
      refine ⟨[u], by simp [ht], ⟨rfl, trivial⟩, ?_⟩
      intro x hx
      have : x = u := by simpa using hx
      omega
    · obtain ⟨V, e1, e2, e3⟩ := ih k1 ht h4 hnd2
      refine ⟨u :: V, by rw [List.map_cons, e1]; rfl, ⟨rfl, ?_⟩, ?_⟩
      · rw [h3] at k2
        rw [← k2 hu ht]; exact e2
      · intro x hx
        rcases List.mem_cons.mp hx with rfl | hx
        · omega
        · exact e3 x hx
