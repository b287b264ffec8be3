/-! the way back along the tree: its room, its filling -/
def eh_mn (rm : Nat → Int) : List Nat → Int → Int
  | [], y => y
  | e :: L, y => eh_mn rm L (min y (rm e))
theorem eh_mn_le (rm : Nat → Int) : ∀ (L : List Nat) (y : Int), eh_mn rm L y ≤ y ∧ ∀ e, e ∈ L → eh_mn rm L y ≤ rm e := by
  intro L
  induction L with
  | nil => intro y; exact ⟨Int.le_refl _, fun e h => by cases h⟩
  | cons x L ih =>
    intro y
    obtain ⟨h1, h2⟩ := ih (min y (rm x))
    show eh_mn rm L (min y (rm x)) ≤ y ∧ _
    refine ⟨by omega, fun e he => ?_⟩
    rcases List.mem_cons.mp he with rfl | he
    · show eh_mn rm L (min y (rm e)) ≤ rm e; omega
    · exact h2 e he
theorem eh_mn_or (rm : Nat → Int) : ∀ (L : List Nat) (y : Int), eh_mn rm L y = y ∨ ∃ e, e ∈ L ∧ rm e = eh_mn rm L y := by
  intro L
  induction L with
  | nil => intro y; exact Or.inl rfl
  | cons x L ih =>
    intro y
    show eh_mn rm L (min y (rm x)) = y ∨ ∃ e, e ∈ x :: L ∧ rm e = eh_mn rm L (min y (rm x))
    rcases ih (min y (rm x)) with h | ⟨e, h1, h2⟩
    · by_cases q : y ≤ rm x
      · left; rw [h]; omega
      · right; exact ⟨x, List.mem_cons_self, by rw [h]; omega⟩
    · exact Or.inr ⟨e, List.mem_cons_of_mem _ h1, h2⟩
theorem eh_mn_pos (rm : Nat → Int) : ∀ (L : List Nat) (y : Int), 0 < y → (∀ e, e ∈ L → 0 < rm e) → 0 < eh_mn rm L y := by
  intro L
  induction L with
  | nil => intro y h _; exact h
  | cons x L ih =>
    intro y h hL
    have := hL x List.mem_cons_self
    exact ih (min y (rm x)) (by omega) (fun e he => hL e (List.mem_cons_of_mem _ he))

/-- what a walk along the tree needs -/
def eh_wy (K : Nat) (a b : Nat → Nat) (et : Nat → Option Nat) (st nd : Nat) (L : List Nat) : Prop :=
  eh_tr (eh_tl a b) et st nd L ∧ (∀ v e, et v = some e → e < 2 * K ∧ eh_tl a b e < 12) ∧ et st = none ∧ nd < 12
theorem eh_wy_cons {K : Nat} {a b : Nat → Nat} {et : Nat → Option Nat} {st nd e : Nat} {L : List Nat} (h : eh_wy K a b et st nd (e :: L)) :
    et nd = some e ∧ e < 2 * K ∧ eh_tl a b e < 12 ∧ nd ≠ st ∧ eh_wy K a b et st (eh_tl a b e) L := by
  obtain ⟨h1, h2, h3, h4⟩ := h
  have q := h2 nd e h1.1
  refine ⟨h1.1, q.1, q.2, ?_, h1.2, h2, h3, q.2⟩
  intro z
  have := h1.1
  rw [z, h3] at this
  cases this
theorem eh_wy_nil {K : Nat} {a b : Nat → Nat} {et : Nat → Option Nat} {st nd : Nat} (h : eh_wy K a b et st nd []) : nd = st := h.1.1

theorem eh_xor1 : ∀ k : Nat, k < 82 → eI (k : Int) ^^^ eI 1 = eI ((eh_tw k : Nat) : Int) := by decide +kernel

theorem eh_rm_step {K : Nat} {cap x g : Nat → Int} {e : Nat} (he : e < 2 * K) (q : Int) (h : ∀ f, f < 2 * K → g f = eh_rm cap x f) :
    ∀ f, f < 2 * K → eh_upd (eh_upd g e (g e - q)) (eh_tw e) (eh_upd g e (g e - q) (eh_tw e) + q) f
      = eh_rm cap (fun k => x k + q * (if e / 2 = k then eh_sg e else 0)) f := by
  intro f hf
  have hne : eh_tw e ≠ e := by unfold eh_tw; split <;> omega
  have htw := eh_tw_lt he
  have ge := h e he
  have gt := h _ htw
  have hd := eh_tw_div e
  have hm := eh_tw_mod e
  by_cases f1 : f = eh_tw e
  · subst f1
    rw [eh_upd_s, eh_upd_n _ _ hne, gt]
    unfold eh_rm
    rw [hd, hm]
    by_cases m0 : e % 2 = 0
    · simp only [eh_sg, m0, if_true]; simp <;> omega
    · have m1 : e % 2 = 1 := by omega
      simp only [eh_sg, m1]; simp <;> omega
  · rw [eh_upd_n _ _ f1]
    by_cases f2 : f = e
    · subst f2
      rw [eh_upd_s, ge]
      unfold eh_rm
      by_cases m0 : f % 2 = 0
      · simp only [eh_sg, m0, if_true]; omega
      · simp only [eh_sg, m0, if_true, if_false]; omega
    · rw [eh_upd_n _ _ f2, h f hf]
      have f3 : ¬ e / 2 = f / 2 := by
        intro z
        unfold eh_tw at f1
        split at f1 <;> omega
      unfold eh_rm
      simp only [f3, if_false]
      split <;> omega

/-- along a short way the numbers of the search hold good -/
theorem eh_fix_wk {E : Nat} {tl hd : Nat → Nat} {rm wt : Nat → Int} {d : Nat → Int} {F M : Int} (hf : ∀ e, e < E → 0 < rm e → d (tl e) < F → d (hd e) ≤ d (tl e) + wt e)
    (hM : ∀ e, e < E → wt e ≤ M) (hM0 : 0 ≤ M) : ∀ (L : List Nat) (u v : Nat) (y : Int), eh_wk E tl hd rm u v L → d u ≤ y → y + L.length * M < F → d v ≤ d u + eh_ws wt L := by
  intro L
  induction L with
  | nil => intro u v y h _ _; have e : u = v := h; subst e; simp [eh_ws]
  | cons e L ih =>
    intro u v y h hy hF
    obtain ⟨⟨h1, h2, h3⟩, h4⟩ := h
    have hl : (((e :: L).length : Nat) : Int) * M = L.length * M + M := by
      rw [List.length_cons, Int.natCast_add, Int.add_mul]; simp
    rw [hl] at hF
    have hLM : (0 : Int) ≤ L.length * M := Int.mul_nonneg (by omega) hM0
    have q1 := hf e h1 h2 (by rw [h3]; omega)
    have q2 := hM e h1
    rw [h3] at q1
    have q3 := ih (hd e) v (y + M) h4 (by omega) (by omega)
    show d v ≤ d u + (wt e + eh_ws wt L)
    omega

theorem eh_fE_up {K : Nat} {a b : Nat → Nat} {w cap x : Nat → Int} {s k j : Nat} {d : Nat → Int} {et : Nat → Option Nat} {bt : Prop}
    (hc : eh_cx K a b w cap x) (hs : s < 12) (h1 : eh_bf (2 * K) (eh_tl a b) (eh_hd a b) (eh_rm cap x) (eh_wt w) eh_F s k j d et bt)
    (hf : ∀ e, e < 2 * K → 0 < eh_rm cap x e → d (eh_tl a b e) < eh_F → d (eh_hd a b e) ≤ d (eh_tl a b e) + eh_wt w e) {v : Nat} (hv : d v < eh_F) : d v ≤ 216172782113783808 := by
  obtain ⟨c1, c2, c3, c4, p, c5⟩ := hc
  obtain ⟨L, w1, w2⟩ := h1.2.2.1 v hv
  obtain ⟨L', q1, q2, q3⟩ := eh_wk_short (N := 12) c5 (fun e he => (c2 e he).2) hs _ L rfl w1
  have hF : eh_F = 4611686018427387904 := rfl
  have q4 := eh_fix_wk (F := eh_F) (M := 18014398509481984) hf (fun e he => (c3 e he).2) (by decide) L' s v 0 q1 (by rw [h1.1.1]; exact Int.le_refl _) (by omega)
  have q5 := eh_ws_le (M := 18014398509481984) (fun e he => (c3 e he).2) (fun e he => (eh_wk_mem q1 e he).1)
  rw [h1.1.1] at q4
  omega

section
variable {p : Program} {l : Launch} {e : Env} {R : Room} {s : State} {m : MethodId} {args : Array Value} {below : List Frame} {meth : Method} {c : Code} {H : Heap} {locs : List Loc} {cells slots : Nat} {Q : State → Prop}
variable {cc : ByteArray} {pc : Nat} {ls : Array Slot} {rest : List Value} {own : String} {index nL : Nat}
theorem we_min (hexec : p.tables.exec = Jvm.exec) (hb : c.code = cc) (hml : c.maxLocals = nL) (hsz : ls.size = nL) (hown : s.vm.findClass own = some m.cls) (hlink : (Cond.methodLink own index Lib.Math.min.name).before args s = true) (hstat : (Cond.static Lib.Math.min.name).before args s = true) (hini : (Cond.initialized "java/lang/Math").before args s = true) (hcode : (Cond.code Lib.Math.min.name Lib.Math.min.code 2 (some .int)).before args s = true)
    (hf : 1 ≤ R.frames) (hlo : (rest.map fun v => v.category).sum + 13 ≤ R.locals) (hc : cells ≤ R.cells) (hs : slots ≤ R.slots) {y z : Int} (hy : eh_i y) (hz : eh_i z) (hdg : decode cc pc = .ok (.invokestatic index, 3))
    (kk : W p l e R s m args below meth c H locs cells slots Q (F0 m (pc + 3) ls (.int (eI (min y z)) :: rest))) : W p l e R s m args below meth c H locs cells slots Q (F0 m pc ls (.int (eI z) :: .int (eI y) :: rest)) := by
  refine va_mmin hexec hb (hml.trans hsz.symm) hown hlink hstat hini hcode hf hlo hc hs hdg ?_
  have h1 : (if eI z < eI y then eI z else eI y) = eI (min y z) := by
    by_cases h : z < y
    · rw [if_pos ((eI_lt hz hy).mpr h), show min y z = z by omega]
    · rw [if_neg (fun q => h ((eI_lt hz hy).mp q)), show min y z = y by omega]
  rw [h1]
  exact kk
theorem we_max (hexec : p.tables.exec = Jvm.exec) (hb : c.code = cc) (hml : c.maxLocals = nL) (hsz : ls.size = nL) (hown : s.vm.findClass own = some m.cls) (hlink : (Cond.methodLink own index Lib.Math.max.name).before args s = true) (hstat : (Cond.static Lib.Math.max.name).before args s = true) (hini : (Cond.initialized "java/lang/Math").before args s = true) (hcode : (Cond.code Lib.Math.max.name Lib.Math.max.code 2 (some .int)).before args s = true)
    (hf : 1 ≤ R.frames) (hlo : (rest.map fun v => v.category).sum + 13 ≤ R.locals) (hc : cells ≤ R.cells) (hs : slots ≤ R.slots) {y z : Int} (hy : eh_i y) (hz : eh_i z) (hdg : decode cc pc = .ok (.invokestatic index, 3))
    (kk : W p l e R s m args below meth c H locs cells slots Q (F0 m (pc + 3) ls (.int (eI (max y z)) :: rest))) : W p l e R s m args below meth c H locs cells slots Q (F0 m pc ls (.int (eI z) :: .int (eI y) :: rest)) := by
  refine va_mmax hexec hb (hml.trans hsz.symm) hown hlink hstat hini hcode hf hlo hc hs hdg ?_
  have h1 : (if eI y < eI z then eI z else eI y) = eI (max y z) := by
    by_cases h : y < z
    · rw [if_pos ((eI_lt hy hz).mpr h), show max y z = z by omega]
    · rw [if_neg (fun q => h ((eI_lt hy hz).mp q)), show max y z = y by omega]
  rw [h1]
  exact kk
end
