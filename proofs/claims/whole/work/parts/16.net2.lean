/-! the network as the arrays hold it; what the search holds on its way -/
abbrev eh_F : Int := 4611686018427387904
def eh_eo (o : Option Nat) : Int := match o with
  | none => -1
  | some e => (e : Int)
theorem eh_eo_none {o : Option Nat} (h : eh_eo o = -1) : o = none := by
  cases o with
  | none => rfl
  | some e => simp only [eh_eo] at h; omega
theorem eh_eo_some {o : Option Nat} (h : eh_eo o ≠ -1) : ∃ e, o = some e ∧ eh_eo o = (e : Int) := by
  cases o with
  | none => exact absurd rfl h
  | some e => exact ⟨e, rfl, rfl⟩

/-- the arrays hold the network -/
def eh_NS (K : Nat) (a b : Nat → Nat) (w cap x : Nat → Int) (gT gH gR gW : Nat → Int) : Prop :=
  ∀ e, e < 2 * K → gT e = ((eh_tl a b e : Nat) : Int) ∧ gH e = ((eh_hd a b e : Nat) : Int) ∧ gR e = eh_rm cap x e ∧ gW e = eh_wt w e
/-- numbers within reach, and a right potential -/
def eh_cx (K : Nat) (a b : Nat → Nat) (w cap x : Nat → Int) : Prop :=
  K ≤ 41 ∧ (∀ e, e < 2 * K → eh_tl a b e < 12 ∧ eh_hd a b e < 12) ∧ (∀ e, e < 2 * K → -18014398509481984 ≤ eh_wt w e ∧ eh_wt w e ≤ 18014398509481984) ∧
  (∀ k, k < K → 0 ≤ x k ∧ x k ≤ cap k ∧ cap k ≤ 1000000000) ∧ ∃ p, eh_pot (2 * K) (eh_tl a b) (eh_hd a b) (eh_rm cap x) (eh_wt w) p

theorem eh_cx_rm {K : Nat} {a b : Nat → Nat} {w cap x : Nat → Int} (h : eh_cx K a b w cap x) {e : Nat} (he : e < 2 * K) : 0 ≤ eh_rm cap x e ∧ eh_rm cap x e ≤ 1000000000 := by
  have := h.2.2.2.1 (e / 2) (by omega)
  unfold eh_rm
  split <;> omega

/-- in round r, before the edge e is looked at -/
def eh_fB (K : Nat) (a b : Nat → Nat) (w cap x : Nat → Int) (s r e : Nat) (gD gE : Nat → Int) (bv : Int) : Prop :=
  (bv = 0 ∨ bv = 1) ∧ ∃ (d : Nat → Int) (et : Nat → Option Nat), eh_bf (2 * K) (eh_tl a b) (eh_hd a b) (eh_rm cap x) (eh_wt w) eh_F s r e d et (bv = 1) ∧
    (∀ v, d v < eh_F → ∃ L, eh_tr (eh_tl a b) et s v L) ∧ (∀ v, v < 12 → gD v = d v) ∧ (∀ v, v < 12 → gE v = eh_eo (et v))
/-- at the end: every edge is kept, and the edges form a tree -/
def eh_fE (K : Nat) (a b : Nat → Nat) (w cap x : Nat → Int) (s : Nat) (gD gE : Nat → Int) : Prop :=
  ∃ (d : Nat → Int) (et : Nat → Option Nat) (k j : Nat) (bt : Prop), eh_bf (2 * K) (eh_tl a b) (eh_hd a b) (eh_rm cap x) (eh_wt w) eh_F s k j d et bt ∧
    (∀ e, e < 2 * K → 0 < eh_rm cap x e → d (eh_tl a b e) < eh_F → d (eh_hd a b e) ≤ d (eh_tl a b e) + eh_wt w e) ∧
    (∀ v, d v < eh_F → ∃ L, eh_tr (eh_tl a b) et s v L) ∧ (∀ v, v < 12 → gD v = d v) ∧ (∀ v, v < 12 → gE v = eh_eo (et v))
/-- before round r -/
def eh_fA (K : Nat) (a b : Nat → Nat) (w cap x : Nat → Int) (s r : Nat) (gD gE : Nat → Int) (bv : Int) : Prop :=
  (bv = 0 ∨ bv = 1) ∧ (∃ (d : Nat → Int) (et : Nat → Option Nat), eh_bf (2 * K) (eh_tl a b) (eh_hd a b) (eh_rm cap x) (eh_wt w) eh_F s r 0 d et False ∧
    (∀ v, d v < eh_F → ∃ L, eh_tr (eh_tl a b) et s v L) ∧ (∀ v, v < 12 → gD v = d v) ∧ (∀ v, v < 12 → gE v = eh_eo (et v))) ∧
  (bv = 0 ∨ r = 12 → eh_fE K a b w cap x s gD gE)

theorem eh_bf_bt {E : Nat} {tl hd : Nat → Nat} {rm wt : Nat → Int} {F : Int} {s k j : Nat} {d : Nat → Int} {et : Nat → Option Nat} {bt bt' : Prop}
    (h : eh_bf E tl hd rm wt F s k j d et bt) (hb : bt → bt') : eh_bf E tl hd rm wt F s k j d et bt' := by
  obtain ⟨h1, h2, h3, h4, h5, h6, h7⟩ := h
  exact ⟨h1, h2, h3, h4, h5, h6, fun z => h7 (fun q => z (hb q))⟩

section
variable {K : Nat} {a b : Nat → Nat} {w cap x : Nat → Int} {s r e : Nat} {gD gE : Nat → Int} {bv : Int}

theorem eh_fA_0 (hs : s < 12) {uD uE : Nat → Int} (h1 : ∀ j, j < 12 → uD j = eh_F) (h2 : ∀ j, j < 12 → uE j = -1) :
    eh_fA K a b w cap x s 0 (eh_upd uD s 0) uE 1 := by
  refine ⟨Or.inr rfl, ⟨_, _, eh_bf_begin (by decide), ?_, ?_, ?_⟩, ?_⟩
  · intro v hv
    by_cases q : v = s
    · subst q; exact ⟨[], rfl, rfl⟩
    · simp [q] at hv
  · intro v hv
    by_cases q : v = s
    · subst q; rw [eh_upd_s]; simp
    · rw [eh_upd_n _ _ q, h1 v hv]; simp [q]
  · intro v hv; rw [h2 v hv]; rfl
  · intro q; omega

theorem eh_fA_B (h : eh_fA K a b w cap x s r gD gE bv) : eh_fB K a b w cap x s r 0 gD gE 0 := by
  obtain ⟨_, ⟨d, et, h1, h2, h3, h4⟩, _⟩ := h
  exact ⟨Or.inl rfl, d, et, eh_bf_bt h1 (fun q => q.elim), h2, h3, h4⟩

theorem eh_fB_A (hc : eh_cx K a b w cap x) (hs : s < 12) (h : eh_fB K a b w cap x s r (2 * K) gD gE bv) : eh_fA K a b w cap x s (r + 1) gD gE bv := by
  obtain ⟨h0, d, et, h1, h2, h3, h4⟩ := h
  obtain ⟨c1, c2, c3, c4, p, c5⟩ := hc
  refine ⟨h0, ⟨d, et, eh_bf_round h1, h2, h3, h4⟩, fun q => ?_⟩
  refine ⟨d, et, _, _, _, h1, ?_, h2, h3, h4⟩
  exact eh_bf_done (N := 12) (M := 18014398509481984) c5 (fun e he => (c2 e he).2) hs (fun e he => (c3 e he).2) (by decide) (by decide) h1 (by
    rcases q with q | q
    · left; omega
    · right; omega)

theorem eh_fB_low (hc : eh_cx K a b w cap x) (hs : s < 12) (h : eh_fB K a b w cap x s r e gD gE bv) {v : Nat} (hv : v < 12) : -216172782113783808 ≤ gD v ∧ gD v ≤ eh_F := by
  obtain ⟨h0, d, et, h1, h2, h3, h4⟩ := h
  obtain ⟨c1, c2, c3, c4, p, c5⟩ := hc
  rw [h3 v hv]
  have q := eh_bf_low (N := 12) (M := 18014398509481984) c5 (fun e he => (c2 e he).2) hs (fun e he => (c3 e he).1) (by decide) (by decide) h1 v
  have q2 := h1.2.1 v
  exact ⟨by omega, q2⟩

theorem eh_fB_skip (hc : eh_cx K a b w cap x) (hr : r < 12) (he : e < 2 * K) (h : eh_fB K a b w cap x s r e gD gE bv)
    (hn : 0 < eh_rm cap x e → gD (eh_tl a b e) < eh_F → gD (eh_hd a b e) ≤ gD (eh_tl a b e) + eh_wt w e) : eh_fB K a b w cap x s r (e + 1) gD gE bv := by
  obtain ⟨h0, d, et, h1, h2, h3, h4⟩ := h
  obtain ⟨c1, c2, c3, c4, p, c5⟩ := hc
  refine ⟨h0, d, et, eh_bf_skip (M := 18014398509481984) (fun e he => (c3 e he).2) (by show (r : Int) * 18014398509481984 < 4611686018427387904; omega) (by decide) h1 ?_, h2, h3, h4⟩
  rw [← h3 _ (c2 e he).1, ← h3 _ (c2 e he).2]
  exact hn

theorem eh_fB_take (hc : eh_cx K a b w cap x) (he : e < 2 * K) (h : eh_fB K a b w cap x s r e gD gE bv)
    (hr : 0 < eh_rm cap x e) (ht : gD (eh_tl a b e) < eh_F) (hl : gD (eh_tl a b e) + eh_wt w e < gD (eh_hd a b e)) :
    eh_fB K a b w cap x s r (e + 1) (eh_upd gD (eh_hd a b e) (gD (eh_tl a b e) + eh_wt w e)) (eh_upd gE (eh_hd a b e) (e : Int)) 1 := by
  obtain ⟨h0, d, et, h1, h2, h3, h4⟩ := h
  obtain ⟨c1, c2, c3, c4, p, c5⟩ := hc
  have e1 := h3 _ (c2 e he).1
  have e2 := h3 _ (c2 e he).2
  rw [e1] at ht hl ⊢
  rw [e2] at hl
  refine ⟨Or.inr rfl, _, _, eh_bf_bt (eh_bf_take c5 he h1 hr ht hl).2.2 (fun _ => rfl), eh_tr_take c5 he h1 hr ht hl h2, ?_, ?_⟩
  · intro v hv
    by_cases q : v = eh_hd a b e
    · subst q; rw [eh_upd_s, eh_upd_s]
    · rw [eh_upd_n _ _ q, eh_upd_n _ _ q, h3 v hv]
  · intro v hv
    by_cases q : v = eh_hd a b e
    · subst q; rw [eh_upd_s, eh_upd_s]; rfl
    · rw [eh_upd_n _ _ q, eh_upd_n _ _ q, h4 v hv]

end
