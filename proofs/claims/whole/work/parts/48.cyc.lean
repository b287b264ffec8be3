/-! the reference's better: a cycle of the tree `by` is taken -/
def eh_cb (cs fw BY : Nat → Int) : Nat → Nat → List Nat → Prop
  | v, u, [] => v = u
  | v, u, e :: L => (eh_hd eh_ga eh_gb e = v ∧ BY v = ((eh_tl eh_ga eh_gb e : Nat) : Int) ∧ e < 84 ∧ 0 < eh_gr cs fw e) ∧ eh_cb cs fw BY (eh_tl eh_ga eh_gb e) u L
theorem eh_cb_ck {cs fw BY : Nat → Int} {pr : Nat → Option Nat} (h1 : ∀ v e, pr v = some e → e < 84 ∧ 0 < eh_gr cs fw e ∧ eh_hd eh_ga eh_gb e = v) (h2 : ∀ v, v < 13 → BY v = eh_po (pr v)) :
    ∀ (L : List Nat) (v u : Nat), v < 13 → eh_ck (eh_tl eh_ga eh_gb) pr v u L → eh_cb cs fw BY v u L := by
  intro L
  induction L with
  | nil => intro v u _ h; exact h
  | cons e L ih =>
    intro v u hv h
    obtain ⟨a1, a2⟩ := h
    obtain ⟨b1, b2, b3⟩ := h1 v e a1
    refine ⟨⟨b3, ?_, b1, b2⟩, ih _ _ (eh_g13 b1).1 a2⟩
    rw [h2 v hv, a1]; rfl
theorem eh_rx_cyc {cs fw G1 G2 BY : Nat → Int} {pv : Int} (h : eh_rx cs fw 13 84 G1 G2 BY pv) (hp : 0 ≤ pv) :
    ∃ (pt : Nat → Nat) (L : List Nat), pv = ((pt 0 : Nat) : Int) ∧ (∀ k, k ≤ 13 → pt k < 13) ∧ (∀ k, k < 13 → BY (pt k) = ((pt (k + 1) : Nat) : Int)) ∧ L ≠ [] ∧
      eh_cb cs fw BY (pt 13) (pt 13) L ∧ (L.map (eh_hd eh_ga eh_gb)).Nodup ∧ eh_ws (eh_wt (eh_gw cs)) L < 0 := by
  obtain ⟨g, pr, lu, h1, h2, h3, h4, h5, h6⟩ := h
  rcases h6 with h6 | ⟨v, hv, hv2, hv3⟩
  · omega
  · have hn := eh_nc_cycle (N := 13) h1 (fun e he => (eh_g13 he).1) hv hv3 (nx := fun v => match pr v with | none => 0 | some e => eh_tl eh_ga eh_gb e) (fun v e he => by simp only [he])
    obtain ⟨c1, L, c2, c3, c4, c5⟩ := hn
    refine ⟨eh_it (fun v => match pr v with | none => 0 | some e => eh_tl eh_ga eh_gb e) v, L, hv2, fun k hk => (c1 k hk).2, fun k hk => ?_, c2, ?_, c3, c5⟩
    · have q := c1 k (by omega)
      rw [h3 _ q.2]
      cases he : pr (eh_it (fun v => match pr v with | none => 0 | some e => eh_tl eh_ga eh_gb e) v k) with
      | none => exact absurd he q.1
      | some e =>
        show ((eh_tl eh_ga eh_gb e : Nat) : Int) = (((match pr (eh_it (fun v => match pr v with | none => 0 | some e => eh_tl eh_ga eh_gb e) v k) with | none => 0 | some e => eh_tl eh_ga eh_gb e) : Nat) : Int)
        rw [he]
    · exact eh_cb_ck (fun v e he => ⟨(h1.1 v e he).1, (h1.1 v e he).2.1, (h1.1 v e he).2.2.1⟩) h3 L _ _ (c1 13 (Nat.le_refl _)).2 c4
theorem eh_rx_pot {cs fw G1 G2 BY : Nat → Int} {pv : Int} {r : Nat} (h : eh_rx cs fw r 84 G1 G2 BY pv) (hp : pv < 0) :
    ∃ g, eh_pot 84 (eh_tl eh_ga eh_gb) (eh_hd eh_ga eh_gb) (eh_gr cs fw) (eh_wt (eh_gw cs)) g := by
  obtain ⟨g, pr, lu, h1, h2, h3, h4, h5, h6⟩ := h
  rcases h6 with h6 | ⟨v, hv, hv2, hv3⟩
  · exact ⟨g, eh_nc_pot h1 h6.2⟩
  · omega
/-- an edge into a source, an edge into a sink -/
theorem eh_e_s {e y : Nat} (he : e < 84) (hh : eh_hd eh_ga eh_gb e = y) (hy : y < 7) : ∃ z, z < 6 ∧ e = 2 * (6 * y + z) + 1 ∧ eh_tl eh_ga eh_gb e = 7 + z := by
  unfold eh_hd at hh
  unfold eh_tl
  unfold eh_ga eh_gb at *
  by_cases q : e % 2 = 0
  · rw [if_pos q] at hh; omega
  · rw [if_neg q] at hh ⊢
    exact ⟨e / 2 % 6, by omega, by omega, by omega⟩
theorem eh_e_t {e z : Nat} (he : e < 84) (hh : eh_hd eh_ga eh_gb e = 7 + z) : ∃ x, x < 7 ∧ z < 6 ∧ e = 2 * (6 * x + z) ∧ eh_tl eh_ga eh_gb e = x := by
  unfold eh_hd at hh
  unfold eh_tl
  unfold eh_ga eh_gb at *
  by_cases q : e % 2 = 0
  · rw [if_pos q] at hh ⊢
    exact ⟨e / 2 / 6, by omega, by omega, by omega, rfl⟩
  · rw [if_neg q] at hh; omega
def eh_Wt (cs G : Nat → Int) : Int := eh_sm (fun k => G k * eh_gw cs k) 42
theorem eh_Wt_upd {cs G : Nat → Int} {k : Nat} (hk : k < 42) (x : Int) : eh_Wt cs (eh_upd G k (G k + x)) = eh_Wt cs G + x * eh_gw cs k := by
  unfold eh_Wt
  have := eh_sm_dif (f := fun i => eh_upd G k (G k + x) i * eh_gw cs i) (g := fun i => G i * eh_gw cs i) hk (fun i _ hn => by
    show eh_upd G k (G k + x) i * eh_gw cs i = G i * eh_gw cs i
    rw [eh_upd_n _ _ hn])
  rw [this]
  show _ + (eh_upd G k (G k + x) k * eh_gw cs k - G k * eh_gw cs k) = _
  rw [eh_upd_s, Int.add_mul]
  omega
theorem eh_Wt_0 {cs G : Nat → Int} (h : ∀ v t, v < 7 → t < 6 → 0 ≤ G (6 * v + t) ∧ (cs (6 * v + t) < 0 → G (6 * v + t) = 0)) : 0 ≤ eh_Wt cs G := by
  unfold eh_Wt
  refine eh_sm_nonneg (fun k hk => ?_)
  have q := h (k / 6) (k % 6) (by omega) (by omega)
  rw [show 6 * (k / 6) + k % 6 = k by omega] at q
  by_cases e : cs k < 0
  · rw [q.2 e, Int.zero_mul]; exact Int.le_refl _
  · refine Int.mul_nonneg q.1 ?_
    have b := eh_rp_b (k / 6) (k % 6)
    unfold eh_gw
    have hB : eh_BM = 1152921504606846976 := rfl
    rw [hB]; omega
/-- the cycle is being taken: L2 is left, y the place -/
def eh_b2 (cs fw BY : Nat → Int) (nn w : Int) (P : Nat) (L2 : List Nat) (y : Nat) (G : Nat → Int) : Prop :=
  eh_cb cs fw BY y P L2 ∧ (L2.map (eh_hd eh_ga eh_gb)).Nodup ∧ (∀ e, e ∈ L2.tail → eh_hd eh_ga eh_gb e ≠ P) ∧
  (∀ e, e ∈ L2 → e % 2 = 1 → nn ≤ fw (e / 2) ∧ fw (e / 2) ≤ G (e / 2)) ∧
  (∀ v t, v < 7 → t < 6 → 0 ≤ G (6 * v + t) ∧ (cs (6 * v + t) < 0 → G (6 * v + t) = 0)) ∧
  (∀ v, v < 7 → eh_sm (fun t => G (6 * v + t)) 6 = eh_sm (fun t => fw (6 * v + t)) 6 + nn * (eh_in (v = y) - eh_in (v = P))) ∧
  (∀ t, t < 6 → eh_sm (fun x => G (6 * x + t)) 7 = eh_sm (fun x => fw (6 * x + t)) 7 + nn * (eh_in (7 + t = P) - eh_in (7 + t = y))) ∧
  eh_Wt cs G + nn * eh_ws (eh_wt (eh_gw cs)) L2 = w
theorem eh_in_p {p : Prop} [Decidable p] (h : p) : eh_in p = 1 := by unfold eh_in; rw [if_pos h]
theorem eh_in_n {p : Prop} [Decidable p] (h : ¬ p) : eh_in p = 0 := by unfold eh_in; rw [if_neg h]
theorem eh_b2_s {cs fw BY : Nat → Int} {nn w : Int} {P y z : Nat} {L3 : List Nat} {G : Nat → Int} (h : eh_b2 cs fw BY nn w P ((2 * (6 * y + z) + 1) :: L3) y G) (hn : 0 < nn) (hy : y < 7) (hz : z < 6) :
    eh_b2 cs fw BY nn w P L3 (7 + z) (eh_upd G (6 * y + z) (G (6 * y + z) - nn)) := by
  obtain ⟨a1, a2, a3, a4, a5, a6, a7, a8⟩ := h
  have hd2 : (2 * (6 * y + z) + 1) / 2 = 6 * y + z := by omega
  have hm2 : ¬ (2 * (6 * y + z) + 1) % 2 = 0 := by omega
  have ht : eh_tl eh_ga eh_gb (2 * (6 * y + z) + 1) = 7 + z := by unfold eh_tl eh_gb; rw [if_neg hm2, hd2]; omega
  have hh : eh_hd eh_ga eh_gb (2 * (6 * y + z) + 1) = y := by unfold eh_hd eh_ga; rw [if_neg hm2, hd2]; omega
  have hw : eh_wt (eh_gw cs) (2 * (6 * y + z) + 1) = - eh_gw cs (6 * y + z) := by unfold eh_wt; rw [if_neg hm2, hd2]
  have hr := a4 (2 * (6 * y + z) + 1) (List.mem_cons_self ..) (by omega)
  rw [hd2] at hr
  rw [List.map_cons, List.nodup_cons] at a2
  refine ⟨by have := a1.2; rw [ht] at this; exact this, a2.2, fun e he => a3 e (List.mem_of_mem_tail he), fun e he ho => ?_, fun v t hv htt => ?_, fun v hv => ?_, fun t htt => ?_, ?_⟩
  · have q := a4 e (List.mem_cons_of_mem _ he) ho
    refine ⟨q.1, ?_⟩
    by_cases e2 : e / 2 = 6 * y + z
    · have e3 : e = 2 * (6 * y + z) + 1 := by omega
      refine absurd ?_ a2.1
      rw [← e3]
      exact List.mem_map_of_mem he
    · rw [eh_upd_n _ _ e2]; exact q.2
  · by_cases e : 6 * v + t = 6 * y + z
    · rw [e, eh_upd_s]
      have q := a5 y z hy hz
      exact ⟨by omega, fun q2 => by have := q.2 q2; omega⟩
    · rw [eh_upd_n _ _ e]; exact a5 v t hv htt
  · rw [eh_row_upd _ hz, a6 v hv, eh_in_n (show ¬ v = 7 + z by omega)]
    by_cases e : v = y
    · rw [if_pos e, eh_in_p e, Int.mul_sub, Int.mul_sub]; omega
    · rw [if_neg e, eh_in_n e]; omega
  · rw [eh_col_upd _ hy hz _ htt, a7 t htt, eh_in_n (show ¬ 7 + t = y by omega)]
    by_cases e : t = z
    · rw [if_pos e, eh_in_p (show 7 + t = 7 + z by omega), Int.mul_sub, Int.mul_sub]; omega
    · rw [if_neg e, eh_in_n (show ¬ 7 + t = 7 + z by omega)]; omega
  · rw [show G (6 * y + z) - nn = G (6 * y + z) + -nn by omega, eh_Wt_upd (by omega), ← a8]
    show _ = _ + nn * (eh_wt (eh_gw cs) (2 * (6 * y + z) + 1) + eh_ws (eh_wt (eh_gw cs)) L3)
    rw [hw, Int.mul_add, Int.mul_neg, Int.neg_mul]
    omega
theorem eh_b2_t {cs fw BY : Nat → Int} {nn w : Int} {P x z : Nat} {L3 : List Nat} {G : Nat → Int} (h : eh_b2 cs fw BY nn w P ((2 * (6 * x + z)) :: L3) (7 + z) G) (hn : 0 < nn) (hx : x < 7) (hz : z < 6) :
    eh_b2 cs fw BY nn w P L3 x (eh_upd G (6 * x + z) (G (6 * x + z) + nn)) := by
  obtain ⟨a1, a2, a3, a4, a5, a6, a7, a8⟩ := h
  have hd2 : (2 * (6 * x + z)) / 2 = 6 * x + z := by omega
  have hm2 : (2 * (6 * x + z)) % 2 = 0 := by omega
  have ht : eh_tl eh_ga eh_gb (2 * (6 * x + z)) = x := by unfold eh_tl eh_ga; rw [if_pos hm2, hd2]; omega
  have hw : eh_wt (eh_gw cs) (2 * (6 * x + z)) = eh_gw cs (6 * x + z) := by unfold eh_wt; rw [if_pos hm2, hd2]
  have hc : 0 ≤ cs (6 * x + z) := by
    have q := a1.1.2.2.2
    unfold eh_gr at q
    rw [if_pos hm2, hd2] at q
    by_cases e : 0 ≤ cs (6 * x + z)
    · exact e
    · rw [if_neg e] at q; omega
  rw [List.map_cons, List.nodup_cons] at a2
  refine ⟨by have := a1.2; rw [ht] at this; exact this, a2.2, fun e he => a3 e (List.mem_of_mem_tail he), fun e he ho => ?_, fun v t hv htt => ?_, fun v hv => ?_, fun t htt => ?_, ?_⟩
  · have q := a4 e (List.mem_cons_of_mem _ he) ho
    refine ⟨q.1, ?_⟩
    by_cases e2 : e / 2 = 6 * x + z
    · rw [e2, eh_upd_s]; rw [e2] at q; omega
    · rw [eh_upd_n _ _ e2]; exact q.2
  · by_cases e : 6 * v + t = 6 * x + z
    · rw [e, eh_upd_s]
      have q := a5 x z hx hz
      exact ⟨by omega, fun q2 => by omega⟩
    · rw [eh_upd_n _ _ e]; exact a5 v t hv htt
  · rw [eh_row_upd _ hz, a6 v hv, eh_in_n (show ¬ v = 7 + z by omega)]
    by_cases e : v = x
    · rw [if_pos e, eh_in_p e, Int.mul_sub, Int.mul_sub]; omega
    · rw [if_neg e, eh_in_n e]; omega
  · rw [eh_col_upd _ hx hz _ htt, a7 t htt, eh_in_n (show ¬ 7 + t = x by omega)]
    by_cases e : t = z
    · rw [if_pos e, eh_in_p (show 7 + t = 7 + z by omega), Int.mul_sub, Int.mul_sub]; omega
    · rw [if_neg e, eh_in_n (show ¬ 7 + t = 7 + z by omega)]; omega
  · rw [eh_Wt_upd (by omega), ← a8]
    show _ = _ + nn * (eh_wt (eh_gw cs) (2 * (6 * x + z)) + eh_ws (eh_wt (eh_gw cs)) L3)
    rw [hw, Int.mul_add]
    omega
theorem eh_b2_0 {c S D su de cs fw BY : Nat → Int} {nn : Int} {P : Nat} {L : List Nat} (hf : eh_rf c S D fw su de) (hcs : ∀ y z, y < 7 → z < 6 → cs (6 * y + z) = eh_rc c y z)
    (h1 : eh_cb cs fw BY P P L) (h2 : (L.map (eh_hd eh_ga eh_gb)).Nodup) (h3 : ∀ e, e ∈ L.tail → eh_hd eh_ga eh_gb e ≠ P) (h4 : ∀ e, e ∈ L → e % 2 = 1 → nn ≤ fw (e / 2)) :
    eh_b2 cs fw BY nn (eh_Wt cs fw + nn * eh_ws (eh_wt (eh_gw cs)) L) P L P fw := by
  refine ⟨h1, h2, h3, fun e he ho => ⟨h4 e he ho, Int.le_refl _⟩, fun v t hv ht => ?_, fun v hv => ?_, fun t ht => ?_, rfl⟩
  · rw [hcs v t hv ht]; exact hf.1 v t hv ht
  · rw [Int.sub_self, Int.mul_zero, Int.add_zero]
  · rw [Int.sub_self, Int.mul_zero, Int.add_zero]
theorem eh_b2_end {c S D su de cs fw BY : Nat → Int} {nn w : Int} {P y : Nat} {G : Nat → Int} (h : eh_b2 cs fw BY nn w P [] y G) (hf : eh_rf c S D fw su de) (hcs : ∀ y z, y < 7 → z < 6 → cs (6 * y + z) = eh_rc c y z) :
    eh_rf c S D G su de ∧ eh_Wt cs G = w := by
  obtain ⟨a1, a2, a3, a4, a5, a6, a7, a8⟩ := h
  have e : y = P := a1
  subst e
  refine ⟨⟨fun v t hv ht => ?_, fun v hv => ?_, fun t ht => ?_⟩, ?_⟩
  · rw [← hcs v t hv ht]; exact a5 v t hv ht
  · rw [a6 v hv, Int.sub_self, Int.mul_zero, Int.add_zero]; exact hf.2.1 v hv
  · rw [a7 t ht, Int.sub_self, Int.mul_zero, Int.add_zero]; exact hf.2.2 t ht
  · rw [← a8]; show _ = _ + nn * 0; omega
theorem eh_cb_tail {cs fw BY : Nat → Int} {P u : Nat} {L : List Nat} (h : eh_cb cs fw BY P u L) (hn : (L.map (eh_hd eh_ga eh_gb)).Nodup) : ∀ e, e ∈ L.tail → eh_hd eh_ga eh_gb e ≠ P := by
  cases L with
  | nil => intro e he; cases he
  | cons e0 L =>
    intro e he q
    rw [List.map_cons, List.nodup_cons] at hn
    refine hn.1 ?_
    rw [h.1.1, ← q]
    exact List.mem_map_of_mem he
/-- at the place the cycle ends, and not before -/
theorem eh_cb_nil {cs fw BY : Nat → Int} {P y : Nat} {e : Nat} {L3 : List Nat} (h : eh_cb cs fw BY y P (e :: L3)) (ht : ∀ d, d ∈ (e :: L3).tail → eh_hd eh_ga eh_gb d ≠ P) : (eh_tl eh_ga eh_gb e = P ↔ L3 = []) := by
  cases L3 with
  | nil => exact ⟨fun _ => rfl, fun _ => h.2⟩
  | cons d L =>
    constructor
    · intro q
      exact absurd (h.2.1.1.trans q) (ht d (List.mem_cons_self ..))
    · intro q; cases q
