/-! a push: what its turns keep -/
def eh_bal (K : Nat) (a b : Nat → Nat) (x : Nat → Int) (v : Nat) : Int := eh_sm (fun k => x k * (eh_in (a k = v) - eh_in (b k = v))) K

/-- there is an edge with room from s to t, however much of lit has gone -/
def eh_hw (K : Nat) (a b : Nat → Nat) (cap x : Nat → Int) (s t : Nat) (lit : Int) : Prop :=
  ∀ (x' : Nat → Int) (f : Int), 0 ≤ f → f ≤ lit → (∀ k, k < K → 0 ≤ x' k ∧ x' k ≤ cap k) → (∀ v, v < 12 → eh_bal K a b x' v = eh_bal K a b x v + f * (eh_in (s = v) - eh_in (t = v))) →
    ∃ e, e < 2 * K ∧ eh_tl a b e = s ∧ eh_hd a b e = t ∧ 0 < eh_rm cap x' e

theorem eh_cx_of {c A B : Nat → Int} {K : Nat} {a b : Nat → Nat} {w cap x : Nat → Int} {s t n : Nat} (hn : eh_net c A B K a b w cap) (hc : ∀ k, k < 30 → -1 ≤ c k ∧ c k ≤ 100000)
    (hcap : ∀ k, k < K → cap k ≤ 1000000000) (h : eh_pl c K a b w cap s t n x) : eh_cx K a b w cap x := by
  obtain ⟨h1, p, D, h2, _, _⟩ := h
  refine ⟨?_, fun e he => ⟨(eh_net_12 hn he).1, (eh_net_12 hn he).2.1⟩, fun e he => eh_net_wb hn hc he, fun k hk => ⟨(h1 k hk).1, (h1 k hk).2, hcap k hk⟩, p, h2⟩
  have q := hn.1
  have := eh_H_le c 30
  omega

set_option maxHeartbeats 1000000 in
/-- a turn: the way is there, its room is above 0, and what is kept behind it -/
theorem eh_turn2 {c A B : Nat → Int} {K : Nat} {a b : Nat → Nat} {w cap x gD gE : Nat → Int} {s t n : Nat} {left : Int}
    (hn : eh_net c A B K a b w cap) (hc : ∀ k, k < 30 → -1 ≤ c k ∧ c k ≤ 100000) (hcap : ∀ k, k < K → cap k ≤ 1000000000)
    (hst : s = 11 ∧ t ≠ 11 ∨ s ≠ 11 ∧ t = 11) (hs : s < 12) (ht : t < 12) (h : eh_pl c K a b w cap s t n x)
    (hway : ∃ e, e < 2 * K ∧ eh_tl a b e = s ∧ eh_hd a b e = t ∧ 0 < eh_rm cap x e) (hl : 0 < left) (hfE : eh_fE K a b w cap x s gD gE) :
    ∃ (et : Nat → Option Nat) (L : List Nat), (∀ v, v < 12 → gE v = eh_eo (et v)) ∧ eh_wy K a b et s t L ∧ L.length < 12 ∧
      0 < eh_mn (eh_rm cap x) L left ∧ eh_mn (eh_rm cap x) L left ≤ left ∧
      (eh_mn (eh_rm cap x) L left < left → eh_pl c K a b w cap s t (n + 1) (fun k => x k + eh_mn (eh_rm cap x) L left * eh_ch L k)) ∧
      eh_pl c K a b w cap s t 0 (fun k => x k + eh_mn (eh_rm cap x) L left * eh_ch L k) ∧
      (∀ v, eh_bal K a b (fun k => x k + eh_mn (eh_rm cap x) L left * eh_ch L k) v = eh_bal K a b x v + eh_mn (eh_rm cap x) L left * (eh_in (s = v) - eh_in (t = v))) := by
  have hcx := eh_cx_of hn hc hcap h
  obtain ⟨d, et, k, j, bt, h1, hf, htr, hD, hE⟩ := hfE
  obtain ⟨e0, q1, q2, q3, q4⟩ := hway
  have hF : eh_F = 4611686018427387904 := rfl
  have hds : d s = 0 := h1.1.1
  have hdt : d t < eh_F := by
    have := hf e0 q1 q4 (by rw [q2, hds, hF]; decide)
    have := (hcx.2.2.1 e0 q1).2
    rw [q2, q3, hds] at *
    omega
  obtain ⟨L, hL⟩ := htr t hdt
  have hEt : ∀ v e, et v = some e → e < 2 * K ∧ eh_tl a b e < 12 := fun v e he => by
    have := (h1.2.2.2.1 v e he).1
    exact ⟨this, (hcx.2.1 e this).1⟩
  have hlen := eh_tr_len (N := 12) (fun v e he => (hEt v e he).2) ht hL
  obtain ⟨t1, t2, t3⟩ := eh_tr_wk h1 hf hL
  have hpos := eh_mn_pos (eh_rm cap x) L left hl (fun e he => (t3 e he).2.1)
  obtain ⟨m1, m2⟩ := eh_mn_le (eh_rm cap x) L left
  obtain ⟨r1, r2, r3⟩ := eh_pl_s (left := left) hn hst hs ht h h1 hf (fun e he hd hr => by
      have := eh_fE_up hcx hs h1 hf hd
      have := (hcx.2.2.1 e he).2
      omega) (by rw [hF]; decide) hL (by omega) m2 (fun hlt => by
      rcases eh_mn_or (eh_rm cap x) L left with z | z
      · omega
      · exact z)
  exact ⟨et, L, hE, ⟨hL, hEt, h1.1.2, ht⟩, hlen, hpos, m1, r1, r2, r3⟩
