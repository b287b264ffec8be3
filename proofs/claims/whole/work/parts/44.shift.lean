/-! the reference's filling up: the tree `by`, one way of it taken -/
theorem eh_sm_dif {f g : Nat → Int} {n k : Nat} (hk : k < n) (h : ∀ i, i < n → i ≠ k → f i = g i) : eh_sm f n = eh_sm g n + (f k - g k) := by
  have e := eh_sm_sub f g n
  have o : eh_sm (fun i => f i - g i) n = f k - g k := eh_sm_one (f := fun i => f i - g i) hk (fun i hi hn => by show f i - g i = 0; rw [h i hi hn]; omega)
  rw [e] at o
  omega
theorem eh_row_upd (G : Nat → Int) {s t0 : Nat} (ht : t0 < 6) (x : Int) (v : Nat) :
    eh_sm (fun t => eh_upd G (6 * s + t0) x (6 * v + t)) 6 = eh_sm (fun t => G (6 * v + t)) 6 + (if v = s then x - G (6 * s + t0) else 0) := by
  by_cases h : v = s
  · subst h
    rw [if_pos rfl]
    have := eh_sm_dif (f := fun t => eh_upd G (6 * v + t0) x (6 * v + t)) (g := fun t => G (6 * v + t)) ht (fun i hi hn => eh_upd_n _ _ (by omega))
    simp only [eh_upd_s] at this
    exact this
  · rw [if_neg h, Int.add_zero]
    exact eh_sm_congr (fun i hi => eh_upd_n _ _ (by omega))
theorem eh_col_upd (G : Nat → Int) {s t0 : Nat} (hs : s < 7) (ht : t0 < 6) (x : Int) {v : Nat} (hv : v < 6) :
    eh_sm (fun y => eh_upd G (6 * s + t0) x (6 * y + v)) 7 = eh_sm (fun y => G (6 * y + v)) 7 + (if v = t0 then x - G (6 * s + t0) else 0) := by
  by_cases h : v = t0
  · subst h
    rw [if_pos rfl]
    have := eh_sm_dif (f := fun y => eh_upd G (6 * s + v) x (6 * y + v)) (g := fun y => G (6 * y + v)) hs (fun i hi hn => eh_upd_n _ _ (by omega))
    simp only [eh_upd_s] at this
    exact this
  · rw [if_neg h, Int.add_zero]
    exact eh_sm_congr (fun i hi => eh_upd_n _ _ (by omega))
/-- the tree of the places that were reached -/
def eh_bt (cs fw su BY : Nat → Int) (rk : Nat → Nat) : Prop :=
  (∀ v, v < 13 → -1 ≤ BY v ∧ BY v < 13) ∧
  (∀ v, v < 7 → 0 ≤ BY v → (BY v = (v : Int) ∧ 0 < su v) ∨ ∃ t : Nat, t < 6 ∧ BY v = ((7 + t : Nat) : Int) ∧ 0 < fw (6 * v + t) ∧ 0 ≤ BY (7 + t) ∧ rk (7 + t) < rk v) ∧
  (∀ t, t < 6 → 0 ≤ BY (7 + t) → ∃ y : Nat, y < 7 ∧ BY (7 + t) = (y : Int) ∧ 0 ≤ cs (6 * y + t) ∧ 0 ≤ BY y ∧ rk y < rk (7 + t))
theorem eh_bt_step {cs fw su BY : Nat → Int} {rk : Nat → Nat} (h : eh_bt cs fw su BY rk) {v : Nat} (hv : v < 7) (h0 : 0 ≤ BY v) (hn : ¬ ((v : Nat) : Int) = BY v) :
    ∃ t y : Nat, t < 6 ∧ y < 7 ∧ BY v = ((7 + t : Nat) : Int) ∧ BY (7 + t) = (y : Int) ∧ 0 < fw (6 * v + t) ∧ 0 ≤ cs (6 * y + t) ∧ 0 ≤ BY y ∧ rk y < rk v := by
  rcases h.2.1 v hv h0 with q | ⟨t, h1, h2, h3, h4, h5⟩
  · exact absurd q.1.symm hn
  · obtain ⟨y, y1, y2, y3, y4, y5⟩ := h.2.2 t h1 h4
    exact ⟨t, y, h1, y1, h2, y2, h3, y3, y4, by omega⟩
/-- the sources that the way back has met, from s0 to s, and the room on it -/
def eh_V (fw BY : Nat → Int) (n : Int) (s0 s : Nat) (V : Nat → Prop) : Prop :=
  (s0 = s ∨ V s0) ∧ ∀ v, V v → ¬ ((v : Nat) : Int) = BY v ∧ ∀ t y : Nat, t < 6 → y < 7 → BY v = ((7 + t : Nat) : Int) → BY (7 + t) = (y : Int) → n ≤ fw (6 * v + t) ∧ (y = s ∨ V y)
theorem eh_V_le {fw BY : Nat → Int} {n n' : Int} {s0 s : Nat} {V : Nat → Prop} (h : eh_V fw BY n s0 s V) (hn : n' ≤ n) : eh_V fw BY n' s0 s V :=
  ⟨h.1, fun v hv => ⟨(h.2 v hv).1, fun t y h1 h2 h3 h4 => ⟨Int.le_trans hn ((h.2 v hv).2 t y h1 h2 h3 h4).1, ((h.2 v hv).2 t y h1 h2 h3 h4).2⟩⟩⟩
theorem eh_V_step {fw BY : Nat → Int} {n n' : Int} {s0 s t y : Nat} {V : Nat → Prop} (h : eh_V fw BY n s0 s V) (hs : s < 7) (h1 : BY s = ((7 + t : Nat) : Int)) (h2 : BY (7 + t) = (y : Int))
    (hn : n' ≤ n) (hf : n' ≤ fw (6 * s + t)) : eh_V fw BY n' s0 y (fun v => V v ∨ v = s) := by
  refine ⟨?_, fun v hv => ?_⟩
  · rcases h.1 with q | q
    · exact Or.inr (Or.inr q)
    · exact Or.inr (Or.inl q)
  · rcases hv with hv | hv
    · obtain ⟨a1, a2⟩ := h.2 v hv
      refine ⟨a1, fun t' y' b1 b2 b3 b4 => ?_⟩
      obtain ⟨c1, c2⟩ := a2 t' y' b1 b2 b3 b4
      refine ⟨by omega, ?_⟩
      rcases c2 with c2 | c2
      · exact Or.inr (Or.inr c2)
      · exact Or.inr (Or.inl c2)
    · subst hv
      refine ⟨by omega, fun t' y' b1 b2 b3 b4 => ?_⟩
      have e : t' = t := by omega
      subst e
      exact ⟨hf, Or.inl (by omega)⟩
/-- the way is being taken: what lies in the table when it has come back to s -/
def eh_s2 (cs fw BY : Nat → Int) (rk : Nat → Nat) (n : Int) (tk sK : Nat) (V : Nat → Prop) (s : Nat) (G : Nat → Int) : Prop :=
  s < 7 ∧ 0 ≤ BY s ∧ (s = sK ∨ V s) ∧
  (∀ v t, v < 7 → t < 6 → 0 ≤ G (6 * v + t) ∧ (cs (6 * v + t) < 0 → G (6 * v + t) = 0)) ∧
  (∀ v, v < 7 → eh_sm (fun t => G (6 * v + t)) 6 = eh_sm (fun t => fw (6 * v + t)) 6 + (if v = s then n else 0)) ∧
  (∀ t, t < 6 → eh_sm (fun y => G (6 * y + t)) 7 = eh_sm (fun y => fw (6 * y + t)) 7 + (if t = tk then n else 0)) ∧
  (∀ v, v < 7 → rk v ≤ rk s → ∀ t, t < 6 → fw (6 * v + t) ≤ G (6 * v + t))
theorem eh_s2_0 {cs fw BY : Nat → Int} {rk : Nat → Nat} {n : Int} {tk sK s0 : Nat} {V : Nat → Prop} (hV : eh_V fw BY n s0 sK V) (hs : s0 < 7) (ht : tk < 6) (hn : 0 < n) (hb : 0 ≤ BY s0)
    (hc : 0 ≤ cs (6 * s0 + tk)) (hf : ∀ v t, v < 7 → t < 6 → 0 ≤ fw (6 * v + t) ∧ (cs (6 * v + t) < 0 → fw (6 * v + t) = 0)) :
    eh_s2 cs fw BY rk n tk sK V s0 (eh_upd fw (6 * s0 + tk) (fw (6 * s0 + tk) + n)) := by
  refine ⟨hs, hb, hV.1, fun v t hv htt => ?_, fun v hv => ?_, fun t htt => ?_, fun v hv _ t htt => ?_⟩
  · by_cases e : 6 * v + t = 6 * s0 + tk
    · rw [e, eh_upd_s]
      have := (hf s0 tk hs ht).1
      exact ⟨by omega, fun q => by omega⟩
    · rw [eh_upd_n _ _ e]; exact hf v t hv htt
  · rw [eh_row_upd _ ht]
    congr 1
    split <;> omega
  · rw [eh_col_upd _ hs ht _ htt]
    congr 1
    split <;> omega
  · by_cases e : 6 * v + t = 6 * s0 + tk
    · rw [e, eh_upd_s]; omega
    · rw [eh_upd_n _ _ e]; exact Int.le_refl _
theorem eh_s2_step {cs fw BY : Nat → Int} {rk : Nat → Nat} {n : Int} {tk sK s0 s t1 y : Nat} {V : Nat → Prop} {G : Nat → Int} (h : eh_s2 cs fw BY rk n tk sK V s G) (hV : eh_V fw BY n s0 sK V) (hn : 0 < n)
    (hK : ((sK : Nat) : Int) = BY sK) (ht : t1 < 6) (hy : y < 7) (h1 : BY s = ((7 + t1 : Nat) : Int)) (h2 : BY (7 + t1) = (y : Int)) (hc : 0 ≤ cs (6 * y + t1)) (hb : 0 ≤ BY y) (hr : rk y < rk s) :
    eh_s2 cs fw BY rk n tk sK V y (eh_upd (eh_upd G (6 * s + t1) (G (6 * s + t1) - n)) (6 * y + t1) (eh_upd G (6 * s + t1) (G (6 * s + t1) - n) (6 * y + t1) + n)) := by
  obtain ⟨a1, a2, a3, a4, a5, a6, a7⟩ := h
  have hne : s ≠ sK := by
    intro e; subst e; omega
  obtain ⟨hroom, hnext⟩ := (hV.2 s (a3.resolve_left hne)).2 t1 y ht hy h1 h2
  have hsy : y ≠ s := by intro e; subst e; omega
  have hG := a7 s a1 (Nat.le_refl _) t1 ht
  rw [eh_upd_n G _ (show 6 * y + t1 ≠ 6 * s + t1 by omega)]
  refine ⟨hy, hb, hnext, fun v t hv htt => ?_, fun v hv => ?_, fun t htt => ?_, fun v hv hrv t htt => ?_⟩
  · by_cases e : 6 * v + t = 6 * y + t1
    · rw [e, eh_upd_s]
      have := (a4 y t1 hy ht).1
      exact ⟨by omega, fun q => by omega⟩
    · rw [eh_upd_n _ _ e]
      by_cases e2 : 6 * v + t = 6 * s + t1
      · rw [e2, eh_upd_s]
        have z := a4 s t1 a1 ht
        exact ⟨by omega, fun q => by have := z.2 q; omega⟩
      · rw [eh_upd_n _ _ e2]; exact a4 v t hv htt
  · rw [eh_row_upd _ ht, eh_row_upd _ ht, a5 v hv, eh_upd_n G _ (show 6 * y + t1 ≠ 6 * s + t1 by omega)]
    by_cases e : v = y
    · rw [if_pos e, if_pos e, if_neg (by omega), if_neg (by omega)]; omega
    · rw [if_neg e, if_neg e]
      by_cases e2 : v = s
      · rw [if_pos e2, if_pos e2]; omega
      · rw [if_neg e2, if_neg e2]
        omega
  · rw [eh_col_upd _ hy ht _ htt, eh_col_upd _ a1 ht _ htt, a6 t htt, eh_upd_n G _ (show 6 * y + t1 ≠ 6 * s + t1 by omega)]
    by_cases e : t = t1
    · rw [if_pos e, if_pos e]; omega
    · rw [if_neg e, if_neg e]; omega
  · have z := a7 v hv (by omega) t htt
    have hvs : v ≠ s := by intro e; subst e; omega
    by_cases e : 6 * v + t = 6 * y + t1
    · rw [e, eh_upd_s]; rw [e] at z; omega
    · rw [eh_upd_n _ _ e, eh_upd_n _ _ (show 6 * v + t ≠ 6 * s + t1 by omega)]; exact z
theorem eh_s2_end {c S D su de cs fw BY : Nat → Int} {rk : Nat → Nat} {n : Int} {tk sK s0 s : Nat} {V : Nat → Prop} {G : Nat → Int} (h : eh_s2 cs fw BY rk n tk sK V s G) (hV : eh_V fw BY n s0 sK V) (hs : ((s : Nat) : Int) = BY s)
    (hf : eh_rf c S D fw su de) (hcs : ∀ y z, y < 7 → z < 6 → cs (6 * y + z) = eh_rc c y z) (h1 : 0 < n ∧ n ≤ su sK ∧ n ≤ de tk) (ht : tk < 6) :
    eh_rf c S D G (eh_upd su sK (su sK - n)) (eh_upd de tk (de tk - n)) ∧ eh_sm (eh_upd de tk (de tk - n)) 6 < eh_sm de 6 := by
  obtain ⟨a1, a2, a3, a4, a5, a6, a7⟩ := h
  have hK : s = sK := by
    rcases a3 with q | q
    · exact q
    · exact absurd hs (hV.2 s q).1
  subst hK
  obtain ⟨f1, f2, f3⟩ := hf
  refine ⟨⟨fun y z hy hz => ?_, fun y hy => ?_, fun z hz => ?_⟩, ?_⟩
  · rw [← hcs y z hy hz]; exact a4 y z hy hz
  · rw [a5 y hy]
    have := f2 y hy
    by_cases e : y = s
    · subst e; rw [eh_upd_s, if_pos rfl]; omega
    · rw [eh_upd_n _ _ e, if_neg e]; omega
  · rw [a6 z hz]
    have := f3 z hz
    by_cases e : z = tk
    · subst e; rw [eh_upd_s, if_pos rfl]; omega
    · rw [eh_upd_n _ _ e, if_neg e]; omega
  · have := eh_sm_dif (f := eh_upd de tk (de tk - n)) (g := de) ht (fun i hi hn => eh_upd_n _ _ hn)
    rw [eh_upd_s] at this
    omega
