/-! what is kept when the road changes -/
section
variable {n : Nat} {sh ra : Int} {sc ln cb th pl lo pr la : Nat → Int} {cu cl fu fl : Nat → Nat} {ys yl yp : Nat → Int}
theorem eh_MS_sh (h : eh_MS n sh ra sc ln cb th pl lo pr la cu cl fu fl ys yl yp) {z : Int} (hz : 500 ≤ z ∧ z ≤ 1000) : eh_MS n z ra sc ln cb th pl lo pr la cu cl fu fl ys yl yp := by
  obtain ⟨⟨a1, a2, a3⟩, b⟩ := h
  exact ⟨⟨a1, hz, a3⟩, b⟩
theorem eh_MS_ra (h : eh_MS n sh ra sc ln cb th pl lo pr la cu cl fu fl ys yl yp) {z : Int} (hz : 0 ≤ z ∧ z ≤ 100) : eh_MS n sh z sc ln cb th pl lo pr la cu cl fu fl ys yl yp := by
  obtain ⟨⟨a1, a2, a3, a4⟩, b⟩ := h
  exact ⟨⟨a1, a2, hz, a4⟩, b⟩
theorem eh_MS_cb (h : eh_MS n sh ra sc ln cb th pl lo pr la cu cl fu fl ys yl yp) {k : Nat} {z : Int} (hz : z = 0 ∨ z = 1) : eh_MS n sh ra sc ln (eh_upd cb k z) th pl lo pr la cu cl fu fl ys yl yp := by
  obtain ⟨⟨a1, a2, a3, a4, a5, a6⟩, b⟩ := h
  refine ⟨⟨a1, a2, a3, a4, fun j hj => ?_, a6⟩, b⟩
  by_cases w : j = k
  · rw [w, eh_upd_s]; exact hz
  · rw [eh_upd_n _ _ w]; exact a5 j hj
theorem eh_MS_la (h : eh_MS n sh ra sc ln cb th pl lo pr la cu cl fu fl ys yl yp) {k : Nat} {z : Int} (hz : 0 ≤ z ∧ z ≤ 100000000) : eh_MS n sh ra sc ln cb th pl lo pr (eh_upd la k z) cu cl fu fl ys yl yp := by
  obtain ⟨⟨a1, a2, a3, a4, a5, a6, a7⟩, b⟩ := h
  refine ⟨⟨a1, a2, a3, a4, a5, fun j hj => ?_, a7⟩, b⟩
  by_cases w : j = k
  · rw [w, eh_upd_s]; exact hz
  · rw [eh_upd_n _ _ w]; exact a6 j hj
theorem eh_MS_yd (h : eh_MS n sh ra sc ln cb th pl lo pr la cu cl fu fl ys yl yp) {k : Nat} {z v w : Int} (hz : 0 ≤ z ∧ z + 1 < n) (hv : 0 ≤ v ∧ v ≤ 100000000) (hw : 0 ≤ w ∧ w ≤ 1000) :
    eh_MS n sh ra sc ln cb (eh_upd th k 1) (eh_upd pl k z) (eh_upd lo k v) (eh_upd pr k w) la cu cl fu fl (eh_upd ys k z) (eh_upd yl k v) (eh_upd yp k w) := by
  obtain ⟨⟨a1, a2, a3, a4, a5, a6, a7, a8⟩, b1, b2⟩ := h
  refine ⟨⟨a1, a2, a3, a4, a5, a6, a7, fun j hj => ?_⟩, fun j hj => ?_, b2⟩
  · by_cases q : j = k
    · rw [q, eh_upd_s, eh_upd_s, eh_upd_s]; exact Or.inr ⟨hz.1, hz.2, hv, hw⟩
    · rw [eh_upd_n _ _ q, eh_upd_n _ _ q, eh_upd_n _ _ q]; exact a8 j hj
  · by_cases q : j = k
    · rw [q, eh_upd_s, eh_upd_s, eh_upd_s, eh_upd_s, eh_upd_s, eh_upd_s, eh_upd_s]; exact Or.inl ⟨rfl, rfl, rfl, rfl, hz.1⟩
    · rw [eh_upd_n _ _ q, eh_upd_n _ _ q, eh_upd_n _ _ q, eh_upd_n _ _ q, eh_upd_n _ _ q, eh_upd_n _ _ q, eh_upd_n _ _ q]; exact b1 j hj
theorem eh_MS_st (h : eh_MS n sh ra sc ln cb th pl lo pr la cu cl fu fl ys yl yp) (hn : n ≠ 5) {y x1 x2 x3 w1 w2 : Int} (hF : (n = 0 ∧ y = 0) ∨ (n ≠ 0 ∧ 1 ≤ y ∧ y ≤ 100))
    (h1 : -100 ≤ x1 ∧ x1 ≤ 100) (h2 : -100 ≤ x2 ∧ x2 ≤ 100) (h3 : -100 ≤ x3 ∧ x3 ≤ 100) (hw1 : 1 ≤ w1 ∧ w1 ≤ 50) (hw2 : 1 ≤ w2 ∧ w2 ≤ 50) {u1 u2 u3 u4 : Nat}
    (f1 : eh_fr u1 u2 (eh_anm x1 x2 x3 w1 w2) (eh_adm x1 x2 x3)) (f2 : eh_FS u1 u2) (f3 : eh_fr u3 u4 (eh_anm (-x1) (-x2) (-x3) w1 w2) (eh_adm (-x1) (-x2) (-x3))) (f4 : eh_FS u3 u4) :
    eh_MS (n + 1) sh ra (eh_upd (eh_upd (eh_upd (eh_upd (eh_upd sc (5 * n) x1) (5 * n + 1) x2) (5 * n + 2) x3) (5 * n + 3) w1) (5 * n + 4) w2) (if n = 0 then ln else eh_upd ln (n - 1) y) cb th pl lo pr la
      (eh_upd cu n u1) (eh_upd cl n u2) (eh_upd fu n u3) (eh_upd fl n u4) ys yl yp := by
  obtain ⟨⟨a1, a2, a3, a4, a5, a6, a7, a8⟩, b1, b2⟩ := h
  refine ⟨⟨by omega, a2, a3, fun k hk => ?_, a5, a6, fun i hi => ?_, fun i hi => ?_⟩, b1, fun i hi => ?_⟩
  · by_cases q : n = 0
    · omega
    · rw [if_neg q]
      by_cases w : k = n - 1
      · rw [w, eh_upd_s]; omega
      · rw [eh_upd_n _ _ w]; exact a4 k (by omega)
  · by_cases q : i = n
    · rw [q, eh_upd_s, eh_upd_s, eh_upd_s, eh_upd_s]; exact ⟨f2, f4⟩
    · rw [eh_upd_n _ _ q, eh_upd_n _ _ q, eh_upd_n _ _ q, eh_upd_n _ _ q]; exact a7 i (by omega)
  · rcases a8 i hi with z | ⟨z1, z2, z3, z4⟩
    · exact Or.inl z
    · exact Or.inr ⟨z1, by omega, z3, z4⟩
  · by_cases q : i = n
    · subst q
      rw [eh_upd_s, eh_upd_s, eh_upd_s, eh_upd_s,
        show eh_upd (eh_upd (eh_upd (eh_upd (eh_upd sc (5 * i) x1) (5 * i + 1) x2) (5 * i + 2) x3) (5 * i + 3) w1) (5 * i + 4) w2 (5 * i) = x1 by rw [eh_upd_n _ _ (by omega), eh_upd_n _ _ (by omega), eh_upd_n _ _ (by omega), eh_upd_n _ _ (by omega), eh_upd_s],
        show eh_upd (eh_upd (eh_upd (eh_upd (eh_upd sc (5 * i) x1) (5 * i + 1) x2) (5 * i + 2) x3) (5 * i + 3) w1) (5 * i + 4) w2 (5 * i + 1) = x2 by rw [eh_upd_n _ _ (by omega), eh_upd_n _ _ (by omega), eh_upd_n _ _ (by omega), eh_upd_s],
        show eh_upd (eh_upd (eh_upd (eh_upd (eh_upd sc (5 * i) x1) (5 * i + 1) x2) (5 * i + 2) x3) (5 * i + 3) w1) (5 * i + 4) w2 (5 * i + 2) = x3 by rw [eh_upd_n _ _ (by omega), eh_upd_n _ _ (by omega), eh_upd_s],
        show eh_upd (eh_upd (eh_upd (eh_upd (eh_upd sc (5 * i) x1) (5 * i + 1) x2) (5 * i + 2) x3) (5 * i + 3) w1) (5 * i + 4) w2 (5 * i + 3) = w1 by rw [eh_upd_n _ _ (by omega), eh_upd_s], eh_upd_s]
      exact ⟨h1, h2, h3, hw1, hw2, f1, f3⟩
    · have e : ∀ r, r < 5 → eh_upd (eh_upd (eh_upd (eh_upd (eh_upd sc (5 * n) x1) (5 * n + 1) x2) (5 * n + 2) x3) (5 * n + 3) w1) (5 * n + 4) w2 (5 * i + r) = sc (5 * i + r) := fun r hr => by
        rw [eh_upd_n _ _ (by omega), eh_upd_n _ _ (by omega), eh_upd_n _ _ (by omega), eh_upd_n _ _ (by omega), eh_upd_n _ _ (by omega)]
      have e0 : eh_upd (eh_upd (eh_upd (eh_upd (eh_upd sc (5 * n) x1) (5 * n + 1) x2) (5 * n + 2) x3) (5 * n + 3) w1) (5 * n + 4) w2 (5 * i) = sc (5 * i) := e 0 (by omega)
      rw [e0, e 1 (by omega), e 2 (by omega), e 3 (by omega), e 4 (by omega), eh_upd_n _ _ q, eh_upd_n _ _ q, eh_upd_n _ _ q, eh_upd_n _ _ q]
      exact b2 i (by omega)
theorem eh_MS_cl {sc ln cb th pl lo pr la : Nat → Int} {cu cl fu fl : Nat → Nat} (h1 : ∀ k, k < 3 → cb k = 0) (h2 : ∀ k, k < 3 → th k = 0) (h3 : ∀ k, k < 30 → la k = 0) :
    eh_MS 0 1000 1 sc ln cb th pl lo pr la cu cl fu fl (fun _ => -1) (fun _ => 0) (fun _ => 0) :=
  ⟨⟨by omega, by omega, by omega, fun k hk => by omega, fun k hk => Or.inl (h1 k hk), fun k hk => by rw [h3 k hk]; omega, fun i hi => by omega, fun i _ => Or.inl ⟨rfl, rfl, rfl⟩⟩, fun i hi => Or.inr ⟨h2 i hi, rfl, rfl, rfl⟩, fun i hi => by omega⟩
end

/-! an array's numbers may be told by another function that is the same as far as the array goes -/
theorem eh_aI_eq {cA : ClassId} {n : Nat} {f g : Nat → Int} (h : ∀ k, k < n → f k = g k) : vp_cell cA (n, .inl (fun j => eI (f j))) = vp_cell cA (n, .inl (fun j => eI (g j))) := by
  rw [vp_cell_i, vp_cell_i]
  unfold arrV
  congr 2
  funext j
  show Value.int (eI (f j.val)) = Value.int (eI (g j.val))
  rw [h j.val j.isLt]
theorem eh_Pset {D : va_G} {cl : List vw_C} {ws : va_W} {H : Heap} (hP : va_P D cl ws H) {i a : Nat} {cA : ClassId} {n : Nat} {f : Nat → Int} (g : Nat → Int) (hi : ws[i]? = some (a, aI cA n f)) (h : ∀ k, k < n → f k = g k) : va_P D cl (ws.set i (a, aI cA n g)) H := by
  intro k q hq
  by_cases z : k = i
  · subst z
    have hlt : k < ws.length := (List.getElem?_eq_some_iff.mp hi).1
    rw [List.getElem?_set_self hlt] at hq
    cases hq
    have h1 := hP k _ hi
    show H[a]? = some (vp_cell cA (n, .inl (fun j => eI (g j))))
    rw [← eh_aI_eq h]
    exact h1
  · rw [List.getElem?_set_ne (fun w => z w.symm)] at hq
    exact hP k q hq
theorem eh_Dset {A : Nat → Prop} {ws : va_W} (hD : va_D A ws) {i a : Nat} {x y : va_E} (hi : ws[i]? = some (a, x)) : va_D A (ws.set i (a, y)) := by
  have key : ∀ (k : Nat) (q : Nat × va_E), (ws.set i (a, y))[k]? = some q → ∃ q', ws[k]? = some q' ∧ q'.1 = q.1 := by
    intro k q hq
    by_cases z : k = i
    · subst z
      have hlt : k < ws.length := (List.getElem?_eq_some_iff.mp hi).1
      rw [List.getElem?_set_self hlt] at hq
      cases hq
      exact ⟨_, hi, rfl⟩
    · rw [List.getElem?_set_ne (fun w => z w.symm)] at hq
      exact ⟨q, hq, rfl⟩
  refine ⟨fun i1 j1 p1 q1 h1 h2 h3 => ?_, fun k q hq => ?_⟩
  · obtain ⟨p', e1, e2⟩ := key i1 p1 h1
    obtain ⟨q', e3, e4⟩ := key j1 q1 h2
    exact hD.1 i1 j1 p' q' e1 e3 (by rw [e2, e4]; exact h3)
  · obtain ⟨q', e1, e2⟩ := key k q hq
    rw [← e2]
    exact hD.2 k q' e1
