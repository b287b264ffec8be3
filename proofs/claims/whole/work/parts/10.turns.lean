/-! the turns of a push: they are fewer than a million -/
/-- the weight of the edge from u to v in the network of all edges -/
def eh_W (c : Nat → Int) (u v : Nat) : Int :=
  if u < 6 ∧ 6 ≤ v ∧ v < 11 then eh_uw c (5 * u + (v - 6)) else if v < 6 ∧ 6 ≤ u ∧ u < 11 then - eh_uw c (5 * v + (u - 6))
  else if u < 4 ∧ v = 11 ∨ u = 11 ∧ 6 ≤ v ∧ v < 10 then 18014398509481984
  else if v < 4 ∧ u = 11 ∨ v = 11 ∧ 6 ≤ u ∧ u < 10 then -18014398509481984 else 0

theorem eh_W_u (c : Nat → Int) (u : Nat) (hu : u < 41) : eh_W c (eh_ua u) (eh_ub u) = eh_uw c u ∧ eh_W c (eh_ub u) (eh_ua u) = - eh_uw c u := by
  by_cases h : u < 30
  · have e1 : 5 * (u / 5) + (6 + u % 5 - 6) = u := by omega
    have e2 : u / 5 < 6 := by omega
    have e3 : 6 ≤ 6 + u % 5 := by omega
    have e4 : 6 + u % 5 < 11 := by omega
    have e5 : ¬ (6 + u % 5 < 6) := by omega
    simp only [eh_ua, eh_ub, eh_W, h, if_true, e2, e3, e4, and_self, e5, false_and, if_false, e1]
  · rcases (show u = 30 ∨ u = 31 ∨ u = 32 ∨ u = 33 ∨ u = 34 ∨ u = 35 ∨ u = 36 ∨ u = 37 ∨ u = 38 ∨ u = 39 ∨ u = 40 by omega) with rfl | rfl | rfl | rfl | rfl | rfl | rfl | rfl | rfl | rfl | rfl <;>
      simp [eh_ua, eh_ub, eh_W, eh_uw]

theorem eh_kind : ∀ u, u < 41 → eh_ua u ≠ 11 → eh_ub u ≠ 11 → decide (eh_ub u < 6) = !decide (eh_ua u < 6) := by decide +kernel

section
variable {c A B : Nat → Int} {K : Nat} {a b : Nat → Nat} {w cap : Nat → Int}

theorem eh_net_e (hn : eh_net c A B K a b w cap) {e : Nat} (he : e < 2 * K) :
    ∃ u, u < 41 ∧ eh_va c u ∧ eh_io c u = e / 2 ∧
      ((e % 2 = 0 ∧ eh_tl a b e = eh_ua u ∧ eh_hd a b e = eh_ub u ∧ eh_wt w e = eh_uw c u) ∨
       (e % 2 = 1 ∧ eh_tl a b e = eh_ub u ∧ eh_hd a b e = eh_ua u ∧ eh_wt w e = - eh_uw c u)) := by
  obtain ⟨rfl, h2⟩ := hn
  obtain ⟨u, q1, q2, q3⟩ := eh_io_sur (c := c) (k := e / 2) (by omega)
  obtain ⟨y1, y2, y3, _⟩ := h2 u q1 q2
  rw [q3] at y1 y2 y3
  refine ⟨u, q1, q2, q3, ?_⟩
  by_cases hm : e % 2 = 0
  · left; simp only [eh_tl, eh_hd, eh_wt, hm, if_true]; exact ⟨trivial, y1, y2, y3⟩
  · right; simp only [eh_tl, eh_hd, eh_wt, hm, if_false]; exact ⟨by omega, y2, y1, by rw [y3]⟩

theorem eh_net_W (hn : eh_net c A B K a b w cap) {e : Nat} (he : e < 2 * K) : eh_wt w e = eh_W c (eh_tl a b e) (eh_hd a b e) := by
  obtain ⟨u, q1, q2, q3, h | h⟩ := eh_net_e hn he
  · rw [h.2.1, h.2.2.1, h.2.2.2, (eh_W_u c u q1).1]
  · rw [h.2.1, h.2.2.1, h.2.2.2, (eh_W_u c u q1).2]

theorem eh_net_12 (hn : eh_net c A B K a b w cap) {e : Nat} (he : e < 2 * K) : eh_tl a b e < 12 ∧ eh_hd a b e < 12 ∧
    (eh_tl a b e ≠ 11 → eh_hd a b e ≠ 11 → decide (eh_hd a b e < 6) = !decide (eh_tl a b e < 6)) := by
  obtain ⟨u, q1, q2, q3, h | h⟩ := eh_net_e hn he
  · have := eh_u_lt u q1
    refine ⟨by rw [h.2.1]; omega, by rw [h.2.2.1]; omega, ?_⟩
    rw [h.2.1, h.2.2.1]
    exact eh_kind u q1
  · have := eh_u_lt u q1
    refine ⟨by rw [h.2.1]; omega, by rw [h.2.2.1]; omega, ?_⟩
    rw [h.2.1, h.2.2.1]
    intro g1 g2
    have := eh_kind u q1 g2 g1
    rw [this]
    simp

theorem eh_uw_b {c : Nat → Int} (hc : ∀ k, k < 30 → -1 ≤ c k ∧ c k ≤ 100000) (u : Nat) : -18014398509481984 ≤ eh_uw c u ∧ eh_uw c u ≤ 18014398509481984 := by
  unfold eh_uw
  by_cases h : u < 30
  · simp only [h, if_true]
    have hp : 0 ≤ eh_pw u ∧ eh_pw u ≤ 1073741824 := by
      have := eh_pw_dist (n := 1) (q := fun _ => u) (s := fun _ => 1) (fun _ _ => Or.inl rfl) (fun i j h1 h2 => by omega)
      simp only [eh_sm, eh_pw, h, if_true] at this ⊢
      have h0 : (0 : Int) < 2 ^ u := Int.pow_pos (by decide)
      omega
    have := hc u h
    omega
  · by_cases h2 : u < 33
    · simp only [h, h2, if_true, if_false]; omega
    · simp only [h, h2, if_false]; omega

theorem eh_net_wb (hn : eh_net c A B K a b w cap) (hc : ∀ k, k < 30 → -1 ≤ c k ∧ c k ≤ 100000) {e : Nat} (he : e < 2 * K) :
    -18014398509481984 ≤ eh_wt w e ∧ eh_wt w e ≤ 18014398509481984 := by
  obtain ⟨u, q1, q2, q3, h | h⟩ := eh_net_e hn he
  · rw [h.2.2.2]; exact eh_uw_b hc u
  · rw [h.2.2.2]; have := eh_uw_b hc u; omega

end

/-- the weight of a way by its list of nodes without 11 -/
def eh_G (c : Nat → Int) (s : Nat) (V : List Nat) : Int :=
  if s = 11 then eh_wv (eh_W c) (V ++ [11]) else eh_wv (eh_W c) (11 :: V.reverse)
def eh_an (s t : Nat) : Bool := if s = 11 then decide (t < 6) else decide (s < 6)

theorem eh_nodup_rev {L : List Nat} (h : L.Nodup) : L.reverse.Nodup := by
  rw [List.nodup_iff_count] at h ⊢
  intro a
  rw [List.count_reverse]
  exact h a

section
variable {c A B : Nat → Int} {K : Nat} {a b : Nat → Nat} {w cap x : Nat → Int} {F : Int} {s t k j : Nat} {d : Nat → Int} {et : Nat → Option Nat} {bt : Prop} {L : List Nat}

/-- a way of the tree has a good list of nodes, and its weight is that of the list -/
theorem eh_tr_good (hn : eh_net c A B K a b w cap) (hst : s = 11 ∧ t ≠ 11 ∨ s ≠ 11 ∧ t = 11) (hs : s < 12) (ht : t < 12)
    (hbf : eh_bf (2 * K) (eh_tl a b) (eh_hd a b) (eh_rm cap x) (eh_wt w) F s k j d et bt)
    (hf : ∀ e, e < 2 * K → 0 < eh_rm cap x e → d (eh_tl a b e) < F → d (eh_hd a b e) ≤ d (eh_tl a b e) + eh_wt w e)
    (hL : eh_tr (eh_tl a b) et s t L) : ∃ V, eh_good (eh_an s t) V ∧ eh_G c s V = d t := by
  obtain ⟨t1, t2, t3⟩ := eh_tr_wk hbf hf hL
  obtain ⟨b1, b2, b3, b4, b5, b6, b7⟩ := hbf
  have hh : ∀ v e, et v = some e → eh_hd a b e = v := fun v e h => (b4 v e h).2.2.1
  have hw := eh_tr_wv (wt := eh_wt w) (W := eh_W c) (hd := eh_hd a b) (fun v e h => ⟨hh v e h, eh_net_W hn (b4 v e h).1⟩) hL
  rw [eh_ws_rev] at t2
  have hnd := eh_tr_nd hL
  have hnodes := eh_tr_nodes hh hL
  rcases hst with ⟨rfl, h2⟩ | ⟨h1, rfl⟩
  · obtain ⟨V, e1, e2, e3⟩ := eh_tr_goodB (o := 11) (hd := eh_hd a b) (fun v e h => by
        have q := eh_net_12 hn (b4 v e h).1
        refine ⟨q.1, fun g1 g2 => ?_⟩
        have z := q.2.2 g2 (by rw [hh v e h]; exact g1)
        rw [hh v e h] at z
        rw [z]; simp) rfl ht h2 hL
    refine ⟨V, ⟨by simpa [eh_an] using e2, ?_, e3⟩, ?_⟩
    · rw [e1] at hnd
      exact (List.nodup_append.mp hnd).1
    · simp only [eh_G, if_true]
      rw [← e1, ← hw, t2]
  · have hfw : (s :: L.reverse.map (eh_hd a b)) = (11 :: L.map (eh_tl a b)).reverse := by
      rw [← hnodes, List.reverse_append, List.map_reverse]; rfl
    obtain ⟨V, e1, e2, e3⟩ := eh_wk_goodA (o := 11) rfl (fun e he => (eh_net_12 hn he).2) hs h1 t1 (by
      rw [hfw]
      exact eh_nodup_rev hnd)
    rw [hfw] at e1
    have e4 : 11 :: L.map (eh_tl a b) = 11 :: V.reverse := by
      have := congrArg List.reverse e1
      rw [List.reverse_reverse, List.reverse_append] at this
      exact this
    refine ⟨V, ⟨by simpa [eh_an, h1] using e2, ?_, e3⟩, ?_⟩
    · have z : (V ++ [11]).Nodup := by rw [← e1]; exact eh_nodup_rev hnd
      exact (List.nodup_append.mp z).1
    · simp only [eh_G, h1, if_false]
      rw [← e4, ← hw, t2]

end

/-- what holds at the head of the loop of a push from s to t -/
def eh_pl (c : Nat → Int) (K : Nat) (a b : Nat → Nat) (w cap : Nat → Int) (s t n : Nat) (x : Nat → Int) : Prop :=
  (∀ k, k < K → 0 ≤ x k ∧ x k ≤ cap k) ∧ ∃ p D, eh_pot (2 * K) (eh_tl a b) (eh_hd a b) (eh_rm cap x) (eh_wt w) p ∧
    eh_hist (eh_an s t) (eh_G c s) n D ∧
    (n = 0 ∨ ∃ L rm0 e0, eh_wk (2 * K) (eh_tl a b) (eh_hd a b) rm0 s t L ∧
      (∀ e, e ∈ L → p (eh_hd a b e) = p (eh_tl a b e) + eh_wt w e) ∧ e0 ∈ L ∧ eh_tw e0 ∉ L ∧ eh_rm cap x e0 ≤ 0 ∧ D ≤ p t - p s)

theorem eh_pl_0 {c : Nat → Int} {K : Nat} {a b : Nat → Nat} {w cap : Nat → Int} {s t : Nat} {x p : Nat → Int}
    (hx : ∀ k, k < K → 0 ≤ x k ∧ x k ≤ cap k) (hp : eh_pot (2 * K) (eh_tl a b) (eh_hd a b) (eh_rm cap x) (eh_wt w) p) :
    eh_pl c K a b w cap s t 0 x := ⟨hx, p, 0, hp, eh_hist_0 _ _ _, Or.inl rfl⟩

set_option maxHeartbeats 1000000 in
/-- a turn of a push -/
theorem eh_pl_s {c A B : Nat → Int} {K : Nat} {a b : Nat → Nat} {w cap : Nat → Int} {s t n k j : Nat} {x d : Nat → Int} {F st left : Int}
    {et : Nat → Option Nat} {bt : Prop} {L : List Nat}
    (hn : eh_net c A B K a b w cap) (hst : s = 11 ∧ t ≠ 11 ∨ s ≠ 11 ∧ t = 11) (hs : s < 12) (ht : t < 12)
    (h : eh_pl c K a b w cap s t n x)
    (hbf : eh_bf (2 * K) (eh_tl a b) (eh_hd a b) (eh_rm cap x) (eh_wt w) F s k j d et bt)
    (hf : ∀ e, e < 2 * K → 0 < eh_rm cap x e → d (eh_tl a b e) < F → d (eh_hd a b e) ≤ d (eh_tl a b e) + eh_wt w e)
    (hFu : ∀ e, e < 2 * K → d (eh_tl a b e) < F → 0 < eh_rm cap x e → d (eh_tl a b e) + eh_wt w e < F)
    (hF0 : 0 < F) (hL : eh_tr (eh_tl a b) et s t L) (hst0 : 0 ≤ st) (hle : ∀ e, e ∈ L → st ≤ eh_rm cap x e)
    (hsat : st < left → ∃ e, e ∈ L ∧ eh_rm cap x e = st) :
    (st < left → eh_pl c K a b w cap s t (n + 1) (fun k => x k + st * eh_ch L k)) ∧
    eh_pl c K a b w cap s t 0 (fun k => x k + st * eh_ch L k) ∧
    (∀ v, eh_sm (fun k => (x k + st * eh_ch L k) * (eh_in (a k = v) - eh_in (b k = v))) K
      = eh_sm (fun k => x k * (eh_in (a k = v) - eh_in (b k = v))) K + st * (eh_in (s = v) - eh_in (t = v))) := by
  obtain ⟨hx, p, D, hp, hh, hl⟩ := h
  obtain ⟨r1, ⟨p', r2, r3, r4⟩, r5, r6⟩ := eh_turn hx hp hbf hf hFu hF0 hL hst0 hle
  obtain ⟨V, g1, g2⟩ := eh_tr_good hn hst hs ht hbf hf hL
  obtain ⟨t1, t2, t3⟩ := eh_tr_wk hbf hf hL
  refine ⟨fun hlt => ?_, ⟨r1, p', 0, r2, eh_hist_0 _ _ _, Or.inl rfl⟩, r5⟩
  refine ⟨r1, p', eh_G c s V, r2, ?_, Or.inr ?_⟩
  · apply eh_hist_s hh g1
    rcases hl with h0 | ⟨L0, rm0, e0, q1, q2, q3, q4, q5, q6⟩
    · exact Or.inl h0
    · right
      obtain ⟨q, hq1, hq2⟩ := eh_net_shape hn
      have hwe : ∀ e, e < 2 * K → eh_wt w e = eh_wt (eh_w (fun k => eh_nc2 c (q k)) q) e := by
        intro e he
        have := (hq1 (e / 2) (by omega)).2.2.2.2.2
        unfold eh_wt
        rw [this]
      have gr := eh_grow (x := x) (p := p) (L := L0) (L' := L.reverse) (rm0 := rm0) (e0 := e0) (s := s) (t := t) (cap := cap) hq2
        (by
          intro e he hr
          rw [← hwe e he]
          exact hp e he hr)
        q1
        (by
          intro e he
          rw [← hwe e (eh_wk_mem q1 e he).1]
          exact q2 e he)
        q3 q4 q5 t1
      have e1 : eh_ws (eh_wt (eh_w (fun k => eh_nc2 c (q k)) q)) L.reverse = eh_ws (eh_wt w) L.reverse := by
        have : ∀ (M : List Nat), (∀ e, e ∈ M → e < 2 * K) → eh_ws (eh_wt (eh_w (fun k => eh_nc2 c (q k)) q)) M = eh_ws (eh_wt w) M := by
          intro M
          induction M with
          | nil => intro _; rfl
          | cons e M ih =>
            intro hM
            show _ + _ = _ + _
            rw [ih (fun z hz => hM z (List.mem_cons_of_mem _ hz)), hwe e (hM e List.mem_cons_self)]
        exact this _ (fun e he => (eh_wk_mem t1 e he).1)
      rw [e1, t2] at gr
      rw [g2]
      omega
  · obtain ⟨e, he1, he2⟩ := hsat hlt
    refine ⟨L.reverse, eh_rm cap x, e, t1, ?_, List.mem_reverse.mpr he1, ?_, ?_, ?_⟩
    · intro e he
      exact r4 e (List.mem_reverse.mp he)
    · intro hm
      exact (r6 e he1).1 (List.mem_reverse.mp hm)
    · rw [(r6 e he1).2]; omega
    · rw [g2, r3]; omega

theorem eh_pl_le {c : Nat → Int} {K : Nat} {a b : Nat → Nat} {w cap : Nat → Int} {s t n : Nat} {x : Nat → Int} (h : eh_pl c K a b w cap s t n x) : n ≤ 637982 := by
  obtain ⟨_, p, D, _, hh, _⟩ := h
  exact eh_hist_le hh
