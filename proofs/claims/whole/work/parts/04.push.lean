/-! edges in pairs: 2 k runs from a k to b k, 2 k + 1 back; x k flows, cap k is the room in all -/
def eh_tl (a b : Nat → Nat) (e : Nat) : Nat := if e % 2 = 0 then a (e / 2) else b (e / 2)
def eh_hd (a b : Nat → Nat) (e : Nat) : Nat := if e % 2 = 0 then b (e / 2) else a (e / 2)
def eh_wt (w : Nat → Int) (e : Nat) : Int := if e % 2 = 0 then w (e / 2) else - w (e / 2)
def eh_rm (cap x : Nat → Int) (e : Nat) : Int := if e % 2 = 0 then cap (e / 2) - x (e / 2) else x (e / 2)
def eh_tw (e : Nat) : Nat := if e % 2 = 0 then e + 1 else e - 1
def eh_sg (e : Nat) : Int := if e % 2 = 0 then 1 else -1

def eh_ch : List Nat → Nat → Int
  | [], _ => 0
  | e :: L, k => (if e / 2 = k then eh_sg e else 0) + eh_ch L k

theorem eh_tw_div (e : Nat) : eh_tw e / 2 = e / 2 := by unfold eh_tw; split <;> omega
theorem eh_tw_mod (e : Nat) : eh_tw e % 2 = 1 - e % 2 := by unfold eh_tw; split <;> omega
theorem eh_tw_tl (a b : Nat → Nat) (e : Nat) : eh_tl a b (eh_tw e) = eh_hd a b e := by
  unfold eh_tl eh_hd
  rw [eh_tw_div, eh_tw_mod]
  by_cases h : e % 2 = 0
  · simp [h]
  · have : e % 2 = 1 := by omega
    simp [this]
theorem eh_tw_hd (a b : Nat → Nat) (e : Nat) : eh_hd a b (eh_tw e) = eh_tl a b e := by
  unfold eh_tl eh_hd
  rw [eh_tw_div, eh_tw_mod]
  by_cases h : e % 2 = 0
  · simp [h]
  · have : e % 2 = 1 := by omega
    simp [this]
theorem eh_tw_wt (w : Nat → Int) (e : Nat) : eh_wt w (eh_tw e) = - eh_wt w e := by
  unfold eh_wt
  rw [eh_tw_div, eh_tw_mod]
  by_cases h : e % 2 = 0
  · simp [h]
  · have : e % 2 = 1 := by omega
    simp [this]
theorem eh_tw_lt {e K : Nat} (h : e < 2 * K) : eh_tw e < 2 * K := by unfold eh_tw; split <;> omega

theorem eh_ch_count (L : List Nat) (k : Nat) : eh_ch L k = (L.count (2 * k) : Int) - (L.count (2 * k + 1) : Int) := by
  induction L with
  | nil => simp [eh_ch]
  | cons e L ih =>
    have e0 : eh_ch (e :: L) k = (if e / 2 = k then eh_sg e else 0) + eh_ch L k := rfl
    rw [e0, ih]
    by_cases h1 : e = 2 * k
    · have h2 : e / 2 = k := by omega
      have h3 : e % 2 = 0 := by omega
      have h4 : (e :: L).count (2 * k) = L.count (2 * k) + 1 := by rw [h1]; exact List.count_cons_self
      have h5 : (e :: L).count (2 * k + 1) = L.count (2 * k + 1) := List.count_cons_of_ne (by omega)
      rw [h4, h5]
      simp only [h2, if_true, eh_sg, h3]
      omega
    · by_cases h1' : e = 2 * k + 1
      · have h2 : e / 2 = k := by omega
        have h3 : ¬ e % 2 = 0 := by omega
        have h4 : (e :: L).count (2 * k) = L.count (2 * k) := List.count_cons_of_ne (by omega)
        have h5 : (e :: L).count (2 * k + 1) = L.count (2 * k + 1) + 1 := by rw [h1']; exact List.count_cons_self
        rw [h4, h5]
        simp only [h2, if_true, eh_sg, h3, if_false]
        omega
      · have h2 : ¬ e / 2 = k := by omega
        have h4 : (e :: L).count (2 * k) = L.count (2 * k) := List.count_cons_of_ne h1
        have h5 : (e :: L).count (2 * k + 1) = L.count (2 * k + 1) := List.count_cons_of_ne h1'
        rw [h4, h5]
        simp only [h2, if_false]
        omega

theorem eh_ch_app (A B : List Nat) (k : Nat) : eh_ch (A ++ B) k = eh_ch A k + eh_ch B k := by
  induction A with
  | nil => simp [eh_ch]
  | cons e A ih => show (if e / 2 = k then eh_sg e else 0) + eh_ch (A ++ B) k = (if e / 2 = k then eh_sg e else 0) + eh_ch A k + eh_ch B k; rw [ih]; omega

theorem eh_ch_rev (L : List Nat) (k : Nat) : eh_ch L.reverse k = eh_ch L k := by
  rw [eh_ch_count, eh_ch_count, List.count_reverse, List.count_reverse]

theorem eh_ch_zero {L : List Nat} {k : Nat} (h : ∀ e, e ∈ L → e / 2 ≠ k) : eh_ch L k = 0 := by
  induction L with
  | nil => rfl
  | cons e L ih =>
    have h1 := h e List.mem_cons_self
    have h2 := ih (fun x hx => h x (List.mem_cons_of_mem _ hx))
    show (if e / 2 = k then eh_sg e else 0) + eh_ch L k = 0
    rw [h2]
    simp [h1]

theorem eh_ch_nodup {L : List Nat} (h : L.Nodup) (k : Nat) :
    (eh_ch L k = 1 ∧ 2 * k ∈ L) ∨ (eh_ch L k = -1 ∧ 2 * k + 1 ∈ L) ∨ eh_ch L k = 0 := by
  rw [eh_ch_count, List.Nodup.count h, List.Nodup.count h]
  by_cases h1 : 2 * k ∈ L
  · by_cases h2 : 2 * k + 1 ∈ L
    · simp [h1, h2]
    · simp [h1, h2]
  · by_cases h2 : 2 * k + 1 ∈ L
    · simp [h1, h2]
    · simp [h1, h2]

/-- a way from u to v moves one litre: the balances change at u and at v alone -/
theorem eh_ch_bal {K : Nat} {a b : Nat → Nat} {rm : Nat → Int} {u v : Nat} {L : List Nat}
    (h : eh_wk (2 * K) (eh_tl a b) (eh_hd a b) rm u v L) (n : Nat) :
    eh_sm (fun k => eh_ch L k * (eh_in (a k = n) - eh_in (b k = n))) K = eh_in (u = n) - eh_in (v = n) := by
  induction L generalizing u with
  | nil =>
    have e : u = v := h
    subst e
    rw [eh_sm_zero]
    · omega
    · intro i _; simp [eh_ch]
  | cons e L ih =>
    obtain ⟨⟨h1, _, h3⟩, h4⟩ := h
    have h5 := ih h4
    have e1 : eh_sm (fun k => eh_ch (e :: L) k * (eh_in (a k = n) - eh_in (b k = n))) K
        = eh_sm (fun k => (if e / 2 = k then eh_sg e else 0) * (eh_in (a k = n) - eh_in (b k = n))) K
          + eh_sm (fun k => eh_ch L k * (eh_in (a k = n) - eh_in (b k = n))) K := by
      rw [← eh_sm_add]
      apply eh_sm_congr
      intro k _
      rw [← Int.add_mul]
      rfl
    have e2 : eh_sm (fun k => (if e / 2 = k then eh_sg e else 0) * (eh_in (a k = n) - eh_in (b k = n))) K
        = eh_in (eh_tl a b e = n) - eh_in (eh_hd a b e = n) := by
      rw [eh_sm_one (k := e / 2) (by omega)]
      · unfold eh_tl eh_hd eh_sg
        by_cases hm : e % 2 = 0
        · simp [hm]
        · simp [hm]; omega
      · intro i _ hne
        have : ¬ e / 2 = i := fun q => hne q.symm
        simp [this]
    rw [e1, e2, h5, h3]
    omega

theorem eh_pot_pair {K : Nat} {a b : Nat → Nat} {cap x w p : Nat → Int} :
    eh_pot (2 * K) (eh_tl a b) (eh_hd a b) (eh_rm cap x) (eh_wt w) p ↔
    (∀ k, k < K → (x k < cap k → p (b k) ≤ p (a k) + w k) ∧ (0 < x k → p (a k) ≤ p (b k) - w k)) := by
  constructor
  · intro h k hk
    have h1 := h (2 * k) (by omega)
    have h2 := h (2 * k + 1) (by omega)
    have m1 : 2 * k % 2 = 0 := by omega
    have m2 : 2 * k / 2 = k := by omega
    have m3 : ¬ (2 * k + 1) % 2 = 0 := by omega
    have m4 : (2 * k + 1) / 2 = k := by omega
    simp only [eh_tl, eh_hd, eh_rm, eh_wt, m1, m2, m3, m4, if_true, if_false] at h1 h2
    exact ⟨fun q => h1 (by omega), fun q => by have := h2 q; omega⟩
  · intro h e he hr
    have h1 := h (e / 2) (by omega)
    by_cases hm : e % 2 = 0
    · simp only [eh_tl, eh_hd, eh_rm, eh_wt, hm, if_true] at hr ⊢
      exact h1.1 (by omega)
    · simp only [eh_tl, eh_hd, eh_rm, eh_wt, hm, if_false] at hr ⊢
      have := h1.2 hr
      omega

/-- the room of an edge after a litre's way has been taken st times -/
theorem eh_rm_ch (cap x : Nat → Int) (st : Int) (L : List Nat) (e : Nat) :
    eh_rm cap (fun k => x k + st * eh_ch L k) e = eh_rm cap x e - st * (eh_sg e * eh_ch L (e / 2)) := by
  unfold eh_rm eh_sg
  by_cases h : e % 2 = 0
  · simp only [h, if_true, Int.one_mul]; omega
  · simp only [h, if_false, Int.neg_mul, Int.one_mul, Int.mul_neg]; omega

section
variable {tl hd : Nat → Nat} {s : Nat}

theorem eh_tr_inj {et : Nat → Option Nat} {L : List Nat} {v : Nat} (h : eh_tr tl et s v L) {i j : Nat} (hij : i < j) (hj : j ≤ L.length) :
    eh_bk tl v L i ≠ eh_bk tl v L j := by
  intro he
  have q1 := eh_tr_drop i L v h (by omega)
  have q2 := eh_tr_drop j L v h hj
  rw [he] at q1
  have q3 := eh_tr_fun _ _ _ q1 q2
  have q4 : (L.drop i).length = (L.drop j).length := by rw [q3]
  rw [List.length_drop, List.length_drop] at q4
  omega

theorem eh_tr_at {et : Nat → Option Nat} {L : List Nat} {v : Nat} (h : eh_tr tl et s v L) {i : Nat} (hi : i < L.length) :
    et (eh_bk tl v L i) = some L[i] ∧ eh_bk tl v L (i + 1) = tl L[i] := by
  have q1 := eh_tr_drop i L v h (by omega)
  have d1 : L.drop i = L[i] :: L.drop (i + 1) := List.drop_eq_getElem_cons hi
  rw [d1] at q1
  refine ⟨q1.1, ?_⟩
  have key : ∀ (i : Nat) (L : List Nat) (v : Nat) (hi : i < L.length), eh_bk tl v L (i + 1) = tl L[i] := by
    intro i
    induction i with
    | zero =>
      intro L v hi
      cases L with
      | nil => simp at hi
      | cons e L => cases L <;> rfl
    | succ i ih =>
      intro L v hi
      cases L with
      | nil => simp at hi
      | cons e L => exact ih L (tl e) (by simpa using hi)
  exact key i L v hi

/-- the way back never turns an edge back -/
theorem eh_tr_noback {et : Nat → Option Nat} (hh : ∀ v e, et v = some e → hd e = v) {L : List Nat} {v : Nat} (h : eh_tr tl et s v L)
    {e e' : Nat} (he : e ∈ L) (he' : e' ∈ L) (h1 : hd e' = tl e) (h2 : tl e' = hd e) : False := by
  obtain ⟨i, hi, rfl⟩ := List.mem_iff_getElem.mp he
  obtain ⟨j, hj, rfl⟩ := List.mem_iff_getElem.mp he'
  obtain ⟨a1, a2⟩ := eh_tr_at h hi
  obtain ⟨b1, b2⟩ := eh_tr_at h hj
  have a3 := hh _ _ a1
  have b3 := hh _ _ b1
  have e1 : eh_bk tl v L (i + 1) = eh_bk tl v L j := by rw [a2, ← h1, b3]
  have e2 : eh_bk tl v L (j + 1) = eh_bk tl v L i := by rw [b2, h2, a3]
  have k1 : i + 1 = j := by
    rcases Nat.lt_trichotomy (i + 1) j with q | q | q
    · exact absurd e1 (eh_tr_inj h q (by omega))
    · exact q
    · exact absurd e1.symm (eh_tr_inj h q (by omega))
  have k2 : j + 1 = i := by
    rcases Nat.lt_trichotomy (j + 1) i with q | q | q
    · exact absurd e2 (eh_tr_inj h q (by omega))
    · exact q
    · exact absurd e2.symm (eh_tr_inj h q (by omega))
  omega

end

/-- all edges of a way that is as light as the potential says are tight -/
theorem eh_wk_tight {E : Nat} {tl hd : Nat → Nat} {rm wt p : Nat → Int} (hp : eh_pot E tl hd rm wt p) {u v : Nat} {L : List Nat}
    (h : eh_wk E tl hd rm u v L) (hle : eh_ws wt L ≤ p v - p u) : ∀ e, e ∈ L → p (hd e) = p (tl e) + wt e := by
  induction L generalizing u with
  | nil => intro e he; cases he
  | cons x L ih =>
    obtain ⟨⟨h1, h2, h3⟩, h4⟩ := h
    have q1 := hp x h1 h2
    have q2 := eh_wk_pot hp h4
    have hle : wt x + eh_ws wt L ≤ p v - p u := hle
    intro e he
    rw [h3] at q1
    rcases List.mem_cons.mp he with rfl | he
    · rw [h3]; omega
    · exact ih h4 (by omega) e he

/-- the shape of the network: nodes below N; weights 2^32 c + a power of 2 that no other edge has; or an edge of the star around o -/
def eh_shape (K N o : Nat) (a b q : Nat → Nat) (c : Nat → Int) : Prop :=
  (∀ k, k < K → a k < N ∧ b k < N) ∧
  (∀ i j, i < K → j < K → q i < 30 → q i = q j → i = j) ∧
  (∀ k, k < K → 30 ≤ q k → (a k = o ∧ b k ≠ o) ∨ (a k ≠ o ∧ b k = o)) ∧
  (∀ i j, i < K → j < K → 30 ≤ q i → 30 ≤ q j → ∀ v, v ≠ o → (a i = v ∨ b i = v) → (a j = v ∨ b j = v) → i = j)

def eh_w (c : Nat → Int) (q : Nat → Nat) (k : Nat) : Int := 4294967296 * c k + eh_pw (q k)

set_option maxHeartbeats 1000000 in
/-- after a way was taken till an edge of it was full, every way weighs more -/
theorem eh_grow {K N o : Nat} {a b q : Nat → Nat} {c cap x p : Nat → Int} {s t : Nat} {L L' : List Nat} {rm0 : Nat → Int} {e0 : Nat}
    (hsh : eh_shape K N o a b q c)
    (hp : eh_pot (2 * K) (eh_tl a b) (eh_hd a b) (eh_rm cap x) (eh_wt (eh_w c q)) p)
    (hL : eh_wk (2 * K) (eh_tl a b) (eh_hd a b) rm0 s t L)
    (hLt : ∀ e, e ∈ L → p (eh_hd a b e) = p (eh_tl a b e) + eh_wt (eh_w c q) e)
    (he0 : e0 ∈ L) (hn0 : eh_tw e0 ∉ L) (hr0 : eh_rm cap x e0 ≤ 0)
    (hL' : eh_wk (2 * K) (eh_tl a b) (eh_hd a b) (eh_rm cap x) s t L') :
    p t - p s < eh_ws (eh_wt (eh_w c q)) L' := by
  apply Classical.byContradiction
  intro hle
  have ht' := eh_wk_tight hp hL' (by omega)
  obtain ⟨s1, s2, s3, s4⟩ := hsh
  have tight : ∀ k, k < K → eh_ch L' k - eh_ch L k ≠ 0 → p (b k) = p (a k) + eh_w c q k := by
    intro k hk hz
    have hex : ∃ e, e / 2 = k ∧ p (eh_hd a b e) = p (eh_tl a b e) + eh_wt (eh_w c q) e := by
      apply Classical.byContradiction
      intro hn
      apply hz
      rw [eh_ch_zero (L := L) (fun e he hk => hn ⟨e, hk, hLt e he⟩), eh_ch_zero (L := L') (fun e he hk => hn ⟨e, hk, ht' e he⟩)]
      rfl
    obtain ⟨e, h1, h2⟩ := hex
    unfold eh_hd eh_tl eh_wt at h2
    by_cases hm : e % 2 = 0
    · simp only [hm, if_true, h1] at h2; exact h2
    · simp only [hm, if_false, h1] at h2; omega
  have hz := eh_uniq (K := K) (N := N) (o := o) (a := a) (b := b) (q := q) (c := c) (z := fun k => eh_ch L' k - eh_ch L k)
    (p1 := p) (p2 := p) (M1 := 4294967296) (M2 := 4294967296) s1
    (by
      intro v _
      have e1 := eh_ch_bal hL' v
      have e2 := eh_ch_bal hL v
      have e3 : eh_sm (fun k => (eh_ch L' k - eh_ch L k) * (eh_in (a k = v) - eh_in (b k = v))) K
          = eh_sm (fun k => eh_ch L' k * (eh_in (a k = v) - eh_in (b k = v))) K - eh_sm (fun k => eh_ch L k * (eh_in (a k = v) - eh_in (b k = v))) K := by
        rw [← eh_sm_sub]
        apply eh_sm_congr
        intro k _
        rw [Int.sub_mul]
      rw [e3, e1, e2]
      omega)
    (fun k hk h => by have := tight k hk (by omega); unfold eh_w at this; omega)
    (fun k hk h => by have := tight k hk (by omega); unfold eh_w at this; omega)
    (fun k hk h => by have := tight k hk (by omega); unfold eh_w at this; omega)
    (fun k hk h => by have := tight k hk (by omega); unfold eh_w at this; omega)
    s2 s3 s4 (by decide) (by decide)
  have hlt := (eh_wk_mem hL e0 he0).1
  have hz0 := hz (e0 / 2) (by omega)
  try dsimp only at hz0
  have hn1 : e0 ∉ L' := by
    intro hm
    have := (eh_wk_mem hL' e0 hm).2
    omega
  rw [eh_ch_count, eh_ch_count] at hz0
  have c0 : 0 < L.count e0 := List.count_pos_iff.mpr he0
  have c1 : L'.count e0 = 0 := List.count_eq_zero.mpr hn1
  have c2 : L.count (eh_tw e0) = 0 := List.count_eq_zero.mpr hn0
  by_cases hm : e0 % 2 = 0
  · have k1 : 2 * (e0 / 2) = e0 := by omega
    have k2 : eh_tw e0 = e0 + 1 := by unfold eh_tw; simp [hm]
    rw [k2] at c2
    rw [k1, c1, c2] at hz0
    omega
  · have k1 : 2 * (e0 / 2) + 1 = e0 := by omega
    have k2 : eh_tw e0 = 2 * (e0 / 2) := by unfold eh_tw; simp [hm]; omega
    rw [k2] at c2
    rw [k1, c1, c2] at hz0
    omega

set_option maxHeartbeats 1000000 in
/-- a way of the tree is taken st times: the new flow is within its room, has a right potential, and its balances move by st from s to t -/
theorem eh_turn {K : Nat} {a b : Nat → Nat} {w cap x p d : Nat → Int} {F st : Int} {s t k j : Nat} {et : Nat → Option Nat} {bt : Prop} {L : List Nat}
    (hx : ∀ k, k < K → 0 ≤ x k ∧ x k ≤ cap k)
    (hp : eh_pot (2 * K) (eh_tl a b) (eh_hd a b) (eh_rm cap x) (eh_wt w) p)
    (hbf : eh_bf (2 * K) (eh_tl a b) (eh_hd a b) (eh_rm cap x) (eh_wt w) F s k j d et bt)
    (hf : ∀ e, e < 2 * K → 0 < eh_rm cap x e → d (eh_tl a b e) < F → d (eh_hd a b e) ≤ d (eh_tl a b e) + eh_wt w e)
    (hFu : ∀ e, e < 2 * K → d (eh_tl a b e) < F → 0 < eh_rm cap x e → d (eh_tl a b e) + eh_wt w e < F)
    (hF0 : 0 < F) (hL : eh_tr (eh_tl a b) et s t L) (hst : 0 ≤ st) (hle : ∀ e, e ∈ L → st ≤ eh_rm cap x e) :
    (∀ k, k < K → 0 ≤ x k + st * eh_ch L k ∧ x k + st * eh_ch L k ≤ cap k) ∧
    (∃ p', eh_pot (2 * K) (eh_tl a b) (eh_hd a b) (eh_rm cap (fun k => x k + st * eh_ch L k)) (eh_wt w) p' ∧
      p' t - p' s = d t ∧ (∀ e, e ∈ L → p' (eh_hd a b e) = p' (eh_tl a b e) + eh_wt w e)) ∧
    (∀ n, eh_sm (fun k => (x k + st * eh_ch L k) * (eh_in (a k = n) - eh_in (b k = n))) K
      = eh_sm (fun k => x k * (eh_in (a k = n) - eh_in (b k = n))) K + st * (eh_in (s = n) - eh_in (t = n))) ∧
    (∀ e, e ∈ L → eh_tw e ∉ L ∧ eh_rm cap (fun k => x k + st * eh_ch L k) e = eh_rm cap x e - st) := by
  obtain ⟨t1, t2, t3⟩ := eh_tr_wk hbf hf hL
  obtain ⟨b1, b2, b3, b4, b5, b6, b7⟩ := hbf
  have hh : ∀ v e, et v = some e → eh_hd a b e = v := fun v e h => (b4 v e h).2.2.1
  have hnd : L.Nodup := eh_tr_nodup hh hL
  have hnb : ∀ e, e ∈ L → eh_tw e ∉ L := fun e he he' =>
    eh_tr_noback hh hL he he' (eh_tw_hd a b e) (eh_tw_tl a b e)
  have hdt : ∀ e, e ∈ L → d (eh_hd a b e) < F := fun e he => by
    obtain ⟨q1, q2, q3, q4⟩ := t3 e he
    have := hFu e q1 q3 q2
    omega
  refine ⟨?_, ?_, ?_, ?_⟩
  · intro k hk
    have h1 := hx k hk
    rcases eh_ch_nodup hnd k with ⟨h2, h3⟩ | ⟨h2, h3⟩ | h2
    · have h4 := hle _ h3
      have m1 : 2 * k % 2 = 0 := by omega
      have m2 : 2 * k / 2 = k := by omega
      simp only [eh_rm, m1, m2, if_true] at h4
      rw [h2]; omega
    · have h4 := hle _ h3
      have m1 : ¬ (2 * k + 1) % 2 = 0 := by omega
      have m2 : (2 * k + 1) / 2 = k := by omega
      simp only [eh_rm, m1, m2, if_false] at h4
      rw [h2]; omega
    · rw [h2]; omega
  · -- the new potential
    obtain ⟨B, hB⟩ : ∃ B : Int, ∀ e, e < 2 * K → d (eh_hd a b e) ≤ p (eh_tl a b e) + B + eh_wt w e := by
      have : ∀ n : Nat, ∃ B : Int, ∀ e, e < n → d (eh_hd a b e) ≤ p (eh_tl a b e) + B + eh_wt w e := by
        intro n
        induction n with
        | zero => exact ⟨0, fun e he => by omega⟩
        | succ n ih =>
          obtain ⟨B, hB⟩ := ih
          by_cases hc : d (eh_hd a b n) ≤ p (eh_tl a b n) + B + eh_wt w n
          · refine ⟨B, fun e he => ?_⟩
            by_cases q : e = n
            · subst q; exact hc
            · exact hB e (by omega)
          · refine ⟨d (eh_hd a b n) - p (eh_tl a b n) - eh_wt w n, fun e he => ?_⟩
            by_cases q : e = n
            · subst q; omega
            · have := hB e (by omega); omega
      exact this _
    have hnew : ∀ e, e < 2 * K → 0 < eh_rm cap x e →
        (if d (eh_hd a b e) < F then d (eh_hd a b e) else p (eh_hd a b e) + B) ≤ (if d (eh_tl a b e) < F then d (eh_tl a b e) else p (eh_tl a b e) + B) + eh_wt w e := by
      intro e he hr
      by_cases h1 : d (eh_tl a b e) < F
      · have h2 := hf e he hr h1
        have h3 := hFu e he h1 hr
        have h4 : d (eh_hd a b e) < F := by omega
        simp only [h1, h4, if_true]
        exact h2
      · by_cases h4 : d (eh_hd a b e) < F
        · simp only [h1, h4, if_true, if_false]
          exact hB e he
        · simp only [h1, h4, if_false]
          have := hp e he hr
          omega
    have htg : ∀ e, e ∈ L → (if d (eh_hd a b e) < F then d (eh_hd a b e) else p (eh_hd a b e) + B) = (if d (eh_tl a b e) < F then d (eh_tl a b e) else p (eh_tl a b e) + B) + eh_wt w e := by
      intro e he
      obtain ⟨q1, q2, q3, q4⟩ := t3 e he
      have := hdt e he
      simp only [q3, this, if_true]
      exact q4
    refine ⟨fun v => if d v < F then d v else p v + B, ?_, ?_, htg⟩
    · intro e he hr
      by_cases h1 : 0 < eh_rm cap x e
      · exact hnew e he h1
      · -- a new edge: its twin lies on the way
        rw [eh_rm_ch] at hr
        have htw : eh_tw e ∈ L := by
          rcases eh_ch_nodup hnd (e / 2) with ⟨h2, h3⟩ | ⟨h2, h3⟩ | h2
          · rw [h2] at hr
            by_cases hm : e % 2 = 0
            · simp only [eh_sg, hm, if_true] at hr; omega
            · have : eh_tw e = 2 * (e / 2) := by unfold eh_tw; simp [hm]; omega
              rw [this]; exact h3
          · rw [h2] at hr
            by_cases hm : e % 2 = 0
            · have : eh_tw e = 2 * (e / 2) + 1 := by unfold eh_tw; simp [hm]; omega
              rw [this]; exact h3
            · simp only [eh_sg, hm, if_false] at hr; omega
          · rw [h2] at hr; simp at hr; omega
        have h5 := htg _ htw
        rw [eh_tw_hd, eh_tw_tl, eh_tw_wt] at h5
        try dsimp only
        omega
    · have hs : d s < F := by rw [b1.1]; exact hF0
      have htF : d t < F := by
        cases L with
        | nil => obtain ⟨rfl, _⟩ := hL; exact hs
        | cons e L =>
          have := hdt e List.mem_cons_self
          rw [hh t e hL.1] at this
          exact this
      simp only [hs, htF, if_true, b1.1]
      omega
  · intro n
    have e1 := eh_ch_bal t1 n
    have e2 : eh_sm (fun k => (x k + st * eh_ch L k) * (eh_in (a k = n) - eh_in (b k = n))) K
        = eh_sm (fun k => x k * (eh_in (a k = n) - eh_in (b k = n)) + st * (eh_ch L.reverse k * (eh_in (a k = n) - eh_in (b k = n)))) K := by
      apply eh_sm_congr
      intro k _
      rw [eh_ch_rev, Int.add_mul, Int.mul_assoc]
    rw [e2, eh_sm_add, eh_sm_mul, e1]
  · intro e he
    refine ⟨hnb e he, ?_⟩
    rw [eh_rm_ch]
    have h2 := hnb e he
    have : eh_sg e * eh_ch L (e / 2) = 1 := by
      rw [eh_ch_count]
      have c1 := List.Nodup.count (a := e) hnd
      have c2 := List.Nodup.count (a := eh_tw e) hnd
      simp only [he, h2, if_true, if_false] at c1 c2
      by_cases hm : e % 2 = 0
      · have k1 : 2 * (e / 2) = e := by omega
        have k2 : eh_tw e = e + 1 := by unfold eh_tw; simp [hm]
        rw [k2] at c2
        rw [k1, c1, c2]
        simp [eh_sg, hm]
      · have k1 : 2 * (e / 2) + 1 = e := by omega
        have k2 : eh_tw e = 2 * (e / 2) := by unfold eh_tw; simp [hm]; omega
        rw [k2] at c2
        rw [k1, c1, c2]
        simp [eh_sg, hm]
    rw [this, Int.mul_one]
