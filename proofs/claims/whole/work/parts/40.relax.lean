/-! the reference's search for a cycle: the table's edges, pairs of numbers as one -/
abbrev eh_BM : Int := 1152921504606846976
def eh_ga (k : Nat) : Nat := k / 6
def eh_gb (k : Nat) : Nat := 7 + k % 6
def eh_gw (c : Nat → Int) (k : Nat) : Int := eh_BM * c k + eh_rp (k / 6) (k % 6)
def eh_gr (c f : Nat → Int) (e : Nat) : Int := if e % 2 = 0 then (if 0 ≤ c (e / 2) then 1 else 0) else f (e / 2)
theorem eh_rp_b (s t : Nat) : 0 ≤ eh_rp s t ∧ eh_rp s t ≤ 1073741824 := by
  unfold eh_rp
  by_cases h : s < 6 ∧ t < 5
  · rw [if_pos h]
    have := eh_pw_dist (n := 1) (q := fun _ => 5 * s + t) (s := fun _ => 1) (fun _ _ => Or.inl rfl) (fun i j h1 h2 => by omega)
    have hl : 5 * s + t < 30 := by omega
    simp only [eh_sm, eh_pw, hl, if_true] at this ⊢
    have h0 : (0 : Int) < 2 ^ (5 * s + t) := Int.pow_pos (by decide)
    omega
  · rw [if_neg h]; omega
/-- pairs in order are numbers in order -/
theorem eh_lex {x y x' y' : Int} (h1 : -288230376151711744 < y ∧ y < 288230376151711744) (h2 : -288230376151711744 < y' ∧ y' < 288230376151711744) :
    (x < x' ∨ (x = x' ∧ y < y')) ↔ eh_BM * x + y < eh_BM * x' + y' := by
  have hB : eh_BM = 1152921504606846976 := rfl
  rw [hB]
  constructor
  · intro h; rcases h with h | ⟨h, h'⟩ <;> omega
  · intro h
    by_cases q : x < x'
    · exact Or.inl q
    · right; omega
def eh_po (o : Option Nat) : Int := match o with
  | none => -1
  | some e => ((eh_tl eh_ga eh_gb e : Nat) : Int)
/-- before the edge j of round r is looked at; pv: the last place that was bettered in this round, or -1 -/
def eh_rx (c f : Nat → Int) (r j : Nat) (G1 G2 BY : Nat → Int) (pv : Int) : Prop :=
  ∃ (g : Nat → Int) (pr : Nat → Option Nat) (lu : Nat → Nat), eh_nc 84 (eh_tl eh_ga eh_gb) (eh_hd eh_ga eh_gb) (eh_gr c f) (eh_wt (eh_gw c)) r j g pr lu ∧
    (∀ v, v < 13 → g v = eh_BM * G1 v + G2 v) ∧ (∀ v, v < 13 → BY v = eh_po (pr v)) ∧
    (∀ v, v < 13 → -(100000 * ((84 * r + j : Nat) : Int)) ≤ G1 v ∧ G1 v ≤ 100000 * ((84 * r + j : Nat) : Int)) ∧
    (∀ v, v < 13 → -(1073741824 * ((84 * r + j : Nat) : Int)) ≤ G2 v ∧ G2 v ≤ 1073741824 * ((84 * r + j : Nat) : Int)) ∧
    ((pv = -1 ∧ ∀ v, lu v ≤ r) ∨ ∃ v : Nat, v < 13 ∧ pv = (v : Int) ∧ lu v = r + 1)
theorem eh_g13 {e : Nat} (h : e < 84) : eh_tl eh_ga eh_gb e < 13 ∧ eh_hd eh_ga eh_gb e < 13 ∧ eh_hd eh_ga eh_gb e ≠ eh_tl eh_ga eh_gb e := by
  unfold eh_tl eh_hd eh_ga eh_gb
  split <;> omega
theorem eh_rx_0 (c f : Nat → Int) {G1 G2 BY : Nat → Int} (h1 : ∀ v, v < 13 → G1 v = 0) (h2 : ∀ v, v < 13 → G2 v = 0) (h3 : ∀ v, v < 13 → BY v = -1) : eh_rx c f 0 0 G1 G2 BY (-1) := by
  refine ⟨fun _ => 0, fun _ => none, fun _ => 0, eh_nc_begin, ?_, ?_, ?_, ?_, Or.inl ⟨rfl, fun v => Nat.le_refl _⟩⟩
  · intro v hv; rw [h1 v hv, h2 v hv]; rfl
  · intro v hv; rw [h3 v hv]; rfl
  · intro v hv; rw [h1 v hv]; simp
  · intro v hv; rw [h2 v hv]; simp
theorem eh_rx_round {c f : Nat → Int} {r : Nat} {G1 G2 BY : Nat → Int} {pv : Int} (h : eh_rx c f r 84 G1 G2 BY pv) : eh_rx c f (r + 1) 0 G1 G2 BY (-1) := by
  obtain ⟨g, pr, lu, h1, h2, h3, h4, h5, _⟩ := h
  refine ⟨g, pr, lu, eh_nc_round h1, h2, h3, ?_, ?_, Or.inl ⟨rfl, h1.2.2.1⟩⟩
  · intro v hv; have := h4 v hv; rw [show 84 * (r + 1) + 0 = 84 * r + 84 by omega]; exact this
  · intro v hv; have := h5 v hv; rw [show 84 * (r + 1) + 0 = 84 * r + 84 by omega]; exact this
theorem eh_rx_skip {c f : Nat → Int} {r j : Nat} {G1 G2 BY : Nat → Int} {pv : Int} (h : eh_rx c f r j G1 G2 BY pv) (hj : j < 84) (hr : r < 14)
    (hn : 0 < eh_gr c f j → ¬ (G1 (eh_tl eh_ga eh_gb j) + (if j % 2 = 0 then c (j / 2) else - c (j / 2)) < G1 (eh_hd eh_ga eh_gb j) ∨
      (G1 (eh_tl eh_ga eh_gb j) + (if j % 2 = 0 then c (j / 2) else - c (j / 2)) = G1 (eh_hd eh_ga eh_gb j) ∧
        G2 (eh_tl eh_ga eh_gb j) + (if j % 2 = 0 then eh_rp (j / 2 / 6) (j / 2 % 6) else - eh_rp (j / 2 / 6) (j / 2 % 6)) < G2 (eh_hd eh_ga eh_gb j)))) :
    eh_rx c f r (j + 1) G1 G2 BY pv := by
  obtain ⟨g, pr, lu, h1, h2, h3, h4, h5, h6⟩ := h
  obtain ⟨t13, d13, _⟩ := eh_g13 hj
  refine ⟨g, pr, lu, eh_nc_skip h1 ?_, h2, h3, ?_, ?_, h6⟩
  · intro hr0
    have z := hn hr0
    have b := eh_rp_b (j / 2 / 6) (j / 2 % 6)
    have b1 := h5 _ t13
    have b2 := h5 _ d13
    rw [eh_lex (by split <;> omega) (by omega)] at z
    rw [h2 _ t13, h2 _ d13]
    unfold eh_wt eh_gw
    have hB : eh_BM = 1152921504606846976 := rfl
    rw [hB] at z ⊢
    split <;> (rename_i q; simp only [q, if_true, if_false] at z; omega)
  · intro v hv; have := h4 v hv; omega
  · intro v hv; have := h5 v hv; omega
theorem eh_rx_take {c f : Nat → Int} {r j : Nat} {G1 G2 BY : Nat → Int} {pv : Int} (h : eh_rx c f r j G1 G2 BY pv) (hj : j < 84) (hr : r < 14) (hc : -100000 ≤ c (j / 2) ∧ c (j / 2) ≤ 100000) (hr0 : 0 < eh_gr c f j)
    (hn : (G1 (eh_tl eh_ga eh_gb j) + (if j % 2 = 0 then c (j / 2) else - c (j / 2)) < G1 (eh_hd eh_ga eh_gb j) ∨
      (G1 (eh_tl eh_ga eh_gb j) + (if j % 2 = 0 then c (j / 2) else - c (j / 2)) = G1 (eh_hd eh_ga eh_gb j) ∧
        G2 (eh_tl eh_ga eh_gb j) + (if j % 2 = 0 then eh_rp (j / 2 / 6) (j / 2 % 6) else - eh_rp (j / 2 / 6) (j / 2 % 6)) < G2 (eh_hd eh_ga eh_gb j)))) :
    eh_rx c f r (j + 1) (eh_upd G1 (eh_hd eh_ga eh_gb j) (G1 (eh_tl eh_ga eh_gb j) + (if j % 2 = 0 then c (j / 2) else - c (j / 2))))
      (eh_upd G2 (eh_hd eh_ga eh_gb j) (G2 (eh_tl eh_ga eh_gb j) + (if j % 2 = 0 then eh_rp (j / 2 / 6) (j / 2 % 6) else - eh_rp (j / 2 / 6) (j / 2 % 6))))
      (eh_upd BY (eh_hd eh_ga eh_gb j) ((eh_tl eh_ga eh_gb j : Nat) : Int)) ((eh_hd eh_ga eh_gb j : Nat) : Int) := by
  obtain ⟨g, pr, lu, h1, h2, h3, h4, h5, h6⟩ := h
  obtain ⟨t13, d13, hne⟩ := eh_g13 hj
  have b := eh_rp_b (j / 2 / 6) (j / 2 % 6)
  have b1 := h5 _ t13
  have b2 := h5 _ d13
  have a1 := h4 _ t13
  have hB : eh_BM = 1152921504606846976 := rfl
  have hg : g (eh_tl eh_ga eh_gb j) + eh_wt (eh_gw c) j = eh_BM * (G1 (eh_tl eh_ga eh_gb j) + (if j % 2 = 0 then c (j / 2) else - c (j / 2))) + (G2 (eh_tl eh_ga eh_gb j) + (if j % 2 = 0 then eh_rp (j / 2 / 6) (j / 2 % 6) else - eh_rp (j / 2 / 6) (j / 2 % 6))) := by
    rw [h2 _ t13]
    unfold eh_wt eh_gw
    rw [hB]
    split <;> omega
  have hlt : g (eh_tl eh_ga eh_gb j) + eh_wt (eh_gw c) j < g (eh_hd eh_ga eh_gb j) := by
    rw [eh_lex (by split <;> omega) (by omega)] at hn
    rw [hg, h2 _ d13]
    exact hn
  refine ⟨_, _, _, eh_nc_take h1 hj hr0 hne hlt, ?_, ?_, ?_, ?_, Or.inr ⟨_, d13, rfl, eh_upd_s _ _ _⟩⟩
  · intro v hv
    by_cases q : v = eh_hd eh_ga eh_gb j
    · subst q; rw [eh_upd_s, eh_upd_s, eh_upd_s, hg]
    · rw [eh_upd_n _ _ q, eh_upd_n _ _ q, eh_upd_n _ _ q]; exact h2 v hv
  · intro v hv
    by_cases q : v = eh_hd eh_ga eh_gb j
    · subst q; rw [eh_upd_s, eh_upd_s]; rfl
    · rw [eh_upd_n _ _ q, eh_upd_n _ _ q]; exact h3 v hv
  · intro v hv
    by_cases q : v = eh_hd eh_ga eh_gb j
    · subst q; rw [eh_upd_s]; split <;> omega
    · rw [eh_upd_n _ _ q]; have := h4 v hv; omega
  · intro v hv
    by_cases q : v = eh_hd eh_ga eh_gb j
    · subst q; rw [eh_upd_s]; split <;> omega
    · rw [eh_upd_n _ _ q]; have := h5 v hv; omega
