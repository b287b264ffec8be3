def R_F : String := "EarthHauls$Fraction"
def T_F : u_T := fun k => match k with
  | 0 => ("EarthHauls$Fraction", "upper", "J", false)
  | _ => ("EarthHauls$Fraction", "lower", "J", false)
def t_F : Nat → FieldType := fun k => match k with
  | 0 => .long
  | _ => .long
theorem n_F : ∀ a, a < 2 → ∀ b, b < 2 → a ≠ b → (T_F a).2.1 ≠ (T_F b).2.1 := by decide +kernel
theorem t_F_ok : ∀ k, k < 2 → parseFieldDescriptor (T_F k).2.2.1 = some (t_F k) := by decide +kernel
theorem in_F : ∀ w ∈ u_ws R_F T_F 2, w ∈ ew_t := by decide +kernel
def R_N : String := "EarthHauls$Network"
def T_N : u_T := fun k => match k with
  | 0 => ("EarthHauls$Network", "tail", "[I", true)
  | 1 => ("EarthHauls$Network", "head", "[I", true)
  | 2 => ("EarthHauls$Network", "room", "[I", true)
  | 3 => ("EarthHauls$Network", "weight", "[J", true)
  | 4 => ("EarthHauls$Network", "haulEdge", "[I", true)
  | 5 => ("EarthHauls$Network", "distance", "[J", true)
  | 6 => ("EarthHauls$Network", "edgeTo", "[I", true)
  | _ => ("EarthHauls$Network", "edges", "I", false)
def t_N : Nat → FieldType := fun k => match k with
  | 0 => .array .int
  | 1 => .array .int
  | 2 => .array .int
  | 3 => .array .long
  | 4 => .array .int
  | 5 => .array .long
  | 6 => .array .int
  | _ => .int
theorem n_N : ∀ a, a < 8 → ∀ b, b < 8 → a ≠ b → (T_N a).2.1 ≠ (T_N b).2.1 := by decide +kernel
theorem t_N_ok : ∀ k, k < 8 → parseFieldDescriptor (T_N k).2.2.1 = some (t_N k) := by decide +kernel
theorem in_N : ∀ w ∈ u_ws R_N T_N 8, w ∈ ew_t := by decide +kernel
def R_S : String := "EarthHauls$Section"
def T_S : u_T := fun k => match k with
  | 0 => ("EarthHauls$Section", "cut", "LEarthHauls$Fraction;", true)
  | _ => ("EarthHauls$Section", "fill", "LEarthHauls$Fraction;", true)
def t_S : Nat → FieldType := fun k => match k with
  | 0 => .object "EarthHauls$Fraction"
  | _ => .object "EarthHauls$Fraction"
theorem n_S : ∀ a, a < 2 → ∀ b, b < 2 → a ≠ b → (T_S a).2.1 ≠ (T_S b).2.1 := by decide +kernel
theorem t_S_ok : ∀ k, k < 2 → parseFieldDescriptor (T_S k).2.2.1 = some (t_S k) := by decide +kernel
theorem in_S : ∀ w ∈ u_ws R_S T_S 2, w ∈ ew_t := by decide +kernel
def R_Y : String := "EarthHauls$Yard"
def T_Y : u_T := fun k => match k with
  | 0 => ("EarthHauls$Yard", "span", "I", false)
  | 1 => ("EarthHauls$Yard", "litres", "I", false)
  | _ => ("EarthHauls$Yard", "price", "I", false)
def t_Y : Nat → FieldType := fun k => match k with
  | 0 => .int
  | 1 => .int
  | _ => .int
theorem n_Y : ∀ a, a < 3 → ∀ b, b < 3 → a ≠ b → (T_Y a).2.1 ≠ (T_Y b).2.1 := by decide +kernel
theorem t_Y_ok : ∀ k, k < 3 → parseFieldDescriptor (T_Y k).2.2.1 = some (t_Y k) := by decide +kernel
theorem in_Y : ∀ w ∈ u_ws R_Y T_Y 3, w ∈ ew_t := by decide +kernel
def R_E : String := "EarthHauls"
def T_E : u_T := fun k => match k with
  | 0 => ("EarthHauls", "sections", "[LEarthHauls$Section;", true)
  | 1 => ("EarthHauls", "lengths", "[I", true)
  | 2 => ("EarthHauls", "closedBorders", "[Z", true)
  | 3 => ("EarthHauls", "yards", "[LEarthHauls$Yard;", true)
  | 4 => ("EarthHauls", "laid", "[I", true)
  | 5 => ("EarthHauls", "network", "LEarthHauls$Network;", true)
  | 6 => ("EarthHauls", "stations", "I", false)
  | 7 => ("EarthHauls", "shrink", "I", false)
  | 8 => ("EarthHauls", "rate", "I", false)
  | 9 => ("EarthHauls", "planned", "Z", false)
  | _ => ("EarthHauls", "planCost", "J", false)
def t_E : Nat → FieldType := fun k => match k with
  | 0 => .array (.object "EarthHauls$Section")
  | 1 => .array .int
  | 2 => .array .boolean
  | 3 => .array (.object "EarthHauls$Yard")
  | 4 => .array .int
  | 5 => .object "EarthHauls$Network"
  | 6 => .int
  | 7 => .int
  | 8 => .int
  | 9 => .boolean
  | _ => .long
theorem n_E : ∀ a, a < 11 → ∀ b, b < 11 → a ≠ b → (T_E a).2.1 ≠ (T_E b).2.1 := by decide +kernel
theorem t_E_ok : ∀ k, k < 11 → parseFieldDescriptor (T_E k).2.2.1 = some (t_E k) := by decide +kernel
theorem in_E : ∀ w ∈ u_ws R_E T_E 11, w ∈ ew_t := by decide +kernel
def R_M : String := "EarthHaulsModel"
def T_M : u_T := fun k => match k with
  | 0 => ("EarthHaulsModel", "code", "I", false)
  | 1 => ("EarthHaulsModel", "stations", "I", false)
  | 2 => ("EarthHaulsModel", "sections", "[I", true)
  | 3 => ("EarthHaulsModel", "lengths", "[I", true)
  | 4 => ("EarthHaulsModel", "closed", "[Z", true)
  | 5 => ("EarthHaulsModel", "shrink", "I", false)
  | 6 => ("EarthHaulsModel", "rate", "I", false)
  | 7 => ("EarthHaulsModel", "there", "[Z", true)
  | 8 => ("EarthHaulsModel", "places", "[I", true)
  | 9 => ("EarthHaulsModel", "litresOf", "[I", true)
  | 10 => ("EarthHaulsModel", "prices", "[I", true)
  | 11 => ("EarthHaulsModel", "laid", "[I", true)
  | 12 => ("EarthHaulsModel", "upper", "J", false)
  | 13 => ("EarthHaulsModel", "lower", "J", false)
  | 14 => ("EarthHaulsModel", "supply", "[J", true)
  | 15 => ("EarthHaulsModel", "demand", "[J", true)
  | 16 => ("EarthHaulsModel", "flow", "[J", true)
  | 17 => ("EarthHaulsModel", "costs", "[I", true)
  | 18 => ("EarthHaulsModel", "first", "[J", true)
  | 19 => ("EarthHaulsModel", "second", "[J", true)
  | 20 => ("EarthHaulsModel", "by", "[I", true)
  | 21 => ("EarthHaulsModel", "known", "Z", false)
  | _ => ("EarthHaulsModel", "found", "Z", false)
def t_M : Nat → FieldType := fun k => match k with
  | 0 => .int
  | 1 => .int
  | 2 => .array .int
  | 3 => .array .int
  | 4 => .array .boolean
  | 5 => .int
  | 6 => .int
  | 7 => .array .boolean
  | 8 => .array .int
  | 9 => .array .int
  | 10 => .array .int
  | 11 => .array .int
  | 12 => .long
  | 13 => .long
  | 14 => .array .long
  | 15 => .array .long
  | 16 => .array .long
  | 17 => .array .int
  | 18 => .array .long
  | 19 => .array .long
  | 20 => .array .int
  | 21 => .boolean
  | _ => .boolean
theorem n_M : ∀ a, a < 23 → ∀ b, b < 23 → a ≠ b → (T_M a).2.1 ≠ (T_M b).2.1 := by decide +kernel
theorem t_M_ok : ∀ k, k < 23 → parseFieldDescriptor (T_M k).2.2.1 = some (t_M k) := by decide +kernel
theorem in_M : ∀ w ∈ u_ws R_M T_M 23, w ∈ ew_t := by decide +kernel
abbrev classes : List vw_C := [(R_F, T_F, 2), (R_N, T_N, 8), (R_S, T_S, 2), (R_Y, T_Y, 3), (R_E, T_E, 11), (R_M, T_M, 23)]
abbrev c_A_fill_aIIV : ByteArray := prog_15_method_103_code
def y_A_fill_aIIV : MethodName := ⟨"java/util/Arrays", "fill", "([II)V"⟩
abbrev k_A_fill_aIIV : Cond := .code y_A_fill_aIIV c_A_fill_aIIV 4 none
theorem kin_A_fill_aIIV : k_A_fill_aIIV ∈ ew_t := tb_123
theorem dv_A_fill_aIIV : eh_dS y_A_fill_aIIV 2 := ⟨by decide, by decide, by decide +kernel⟩
theorem d_A_fill_aIIV_0 : decode c_A_fill_aIIV 0 = .ok (.iconst 0, 1) := by decide +kernel
theorem d_A_fill_aIIV_1 : decode c_A_fill_aIIV 1 = .ok (.istore_n 2, 1) := by decide +kernel
theorem d_A_fill_aIIV_2 : decode c_A_fill_aIIV 2 = .ok (.aload_n 0, 1) := by decide +kernel
theorem d_A_fill_aIIV_3 : decode c_A_fill_aIIV 3 = .ok (.arraylength, 1) := by decide +kernel
theorem d_A_fill_aIIV_4 : decode c_A_fill_aIIV 4 = .ok (.istore_n 3, 1) := by decide +kernel
theorem d_A_fill_aIIV_5 : decode c_A_fill_aIIV 5 = .ok (.iload_n 2, 1) := by decide +kernel
theorem d_A_fill_aIIV_6 : decode c_A_fill_aIIV 6 = .ok (.iload_n 3, 1) := by decide +kernel
theorem d_A_fill_aIIV_7 : decode c_A_fill_aIIV 7 = .ok (.if_icmp .ge 13, 3) := by decide +kernel
theorem d_A_fill_aIIV_10 : decode c_A_fill_aIIV 10 = .ok (.aload_n 0, 1) := by decide +kernel
theorem d_A_fill_aIIV_11 : decode c_A_fill_aIIV 11 = .ok (.iload_n 2, 1) := by decide +kernel
theorem d_A_fill_aIIV_12 : decode c_A_fill_aIIV 12 = .ok (.iload_n 1, 1) := by decide +kernel
theorem d_A_fill_aIIV_13 : decode c_A_fill_aIIV 13 = .ok (.iastore, 1) := by decide +kernel
theorem d_A_fill_aIIV_14 : decode c_A_fill_aIIV 14 = .ok (.iinc 2 1, 3) := by decide +kernel
theorem d_A_fill_aIIV_17 : decode c_A_fill_aIIV 17 = .ok (.goto (-12), 3) := by decide +kernel
theorem d_A_fill_aIIV_20 : decode c_A_fill_aIIV 20 = .ok (.return_, 1) := by decide +kernel
set_option maxHeartbeats 4000000 in
set_option maxRecDepth 100000 in
theorem m_A_fill_aIIV (l : Launch) (D : va_G) (cA : ClassId) (a0 n : Nat) (hn : n < 2147483648) (g : Nat → Int) (z : Int) : eh_M (S := Nat → Int) l y_A_fill_aIIV k_A_fill_aIIV 0 0 D classes [(cA, .int)] [.ref a0, .int (eI z)] [(a0, aI cA n g)] (fun u => ∀ j, j < n → u j = z) (fun _ => none) (fun u => [(a0, aI cA n u)]) := by
  intro sz
  refine Met.ofW (cc := c_A_fill_aIIV) (maxL := 4) (ret := none) (by decide) rfl ?_
  intro p e s m args below meth c s₁ B hml hv
  obtain ⟨hargs, hsz, hP, hK, hD0, hN⟩ := hv
  have hx := B.exec
  have hb := B.bytes
  have hrt := B.returns
  have hts := atoms_spec (ws := k_A_fill_aIIV :: ew_t) B.pre
  have htb : ∀ w ∈ ew_t, w.before args s = true := fun w h => hts w (List.mem_cons_of_mem _ h)
  have hown : s.vm.findClass "java/util/Arrays" = some m.cls := findClass_of_methodNamed B.named
  have hlocks := B.notSynchronized
  have hE : entryFrame m args 4 = entryFrame m ([.ref a0, .int (eI z)] : List Value).toArray 4 := by rw [hargs]
  rw [hE]
  clear hE hts B hargs
  generalize hRe : (headSpec _ _).room = R
  have hR1 : R.frames = 0 := by rw [← hRe]; rfl
  have hR2 : R.locals = 0 := by rw [← hRe]; rfl
  clear hRe
  generalize hQ : MQ below _ _ s 0 0 _ = Q
  subst hsz
  have hD := hD0.self (sz := s.heap.size)
  generalize hAe : va_A [(a0, aI cA n g)] s.heap.size = A at hD hQ
  have hA : ∀ q : Nat, s.heap.size ≤ q → A q := fun q h => by rw [← hAe]; exact Or.inr h
  have hS : va_S A s.heap s.heap [] := va_S.rf
  have hP : va_P D classes [(a0, aI cA n g)] s.heap := hP
  have hl := lv_entry ([.ref a0, .int (eI z)]) (n := 4) (Nat.le_of_ble_eq_true rfl)
  rw [lg_entry_eq]
  generalize (lg_sl ([.ref a0, .int (eI z)]) ++ List.replicate (4 - (lg_sl ([.ref a0, .int (eI z)])).length) Slot.unset).toArray = ls at hl ⊢
  have hl : lv_has ls 4 [(0, .ref a0), (1, .int (eI z))] := hl
  refine lv_iconst (v := eI 0) hx hb d_A_fill_aIIV_0 rfl ?_
  refine lv_istore_n hx hb d_A_fill_aIIV_1 rfl hl (by decide) rfl (fun ls hl => ?_)
  have hl : lv_has ls 4 [(2, .int (eI 0)), (0, .ref a0), (1, .int (eI z))] := hl
  refine lv_aload_n hx hb d_A_fill_aIIV_2 rfl (lv_at hl 1 rfl) ?_
  refine va_alen (v := eI (n : Nat)) hx hb hK hP 0 0 rfl rfl (by rfl) d_A_fill_aIIV_3 ?_
  refine lv_istore_n hx hb d_A_fill_aIIV_4 rfl hl (by decide) rfl (fun ls hl => ?_)
  have hl : lv_has ls 4 [(3, .int (eI ((n : Nat) : Int))), (2, .int (eI 0)), (0, .ref a0), (1, .int (eI z))] := hl
  have loop : ∀ (q i : Nat) (f : Nat → Int) (H : Heap) (locs : List Loc) (ls : Array Slot), n - i = q → i ≤ n → lv_has ls 4 [(3, .int (eI ((n : Nat) : Int))), (2, .int (eI ((i : Nat) : Int))), (0, .ref a0), (1, .int (eI z))] → va_P D classes [(a0, aI cA n f)] H → va_D A [(a0, aI cA n f)] → va_S A s.heap H locs → (∀ j, j < i → f j = z) → W p l e R s m args below meth c H locs 0 0 Q (F0 m 5 ls []) := by
    intro q
    induction q with
    | zero =>
      intro i f H locs ls hq hi hl hP hD hS hf
      have hin : i = n := by omega
      subst hin
      refine lv_iload_n hx hb d_A_fill_aIIV_5 rfl (lv_at hl 1 rfl) ?_
      refine lv_iload_n hx hb d_A_fill_aIIV_6 rfl (lv_at hl 0 rfl) ?_
      refine we_icmp_ge (tgt := 20) hx hb (by constructor <;> omega) (by constructor <;> omega) d_A_fill_aIIV_7 rfl (fun hc7 => ?_) (fun hc7 => absurd hc7 (by omega))
      subst hQ
      exact W.vret hx hb hrt (fun t ht hW => ⟨⟨f, rfl, hf, by rw [ht]; exact hP, hD⟩, hS.F ht⟩) hS.2.2 d_A_fill_aIIV_20
    | succ q ih =>
      intro i f H locs ls hq hi hl hP hD hS hf
      refine lv_iload_n hx hb d_A_fill_aIIV_5 rfl (lv_at hl 1 rfl) ?_
      refine lv_iload_n hx hb d_A_fill_aIIV_6 rfl (lv_at hl 0 rfl) ?_
      refine we_icmp_ge (tgt := 20) hx hb (by constructor <;> omega) (by constructor <;> omega) d_A_fill_aIIV_7 rfl (fun hc7 => absurd hc7 (by omega)) (fun hc7 => ?_)
      refine lv_aload_n hx hb d_A_fill_aIIV_10 rfl (lv_at hl 2 rfl) ?_
      refine lv_iload_n hx hb d_A_fill_aIIV_11 rfl (lv_at hl 1 rfl) ?_
      refine lv_iload_n hx hb d_A_fill_aIIV_12 rfl (lv_at hl 3 rfl) ?_
      refine we_iast hx hb hK hP hD hS 0 0 rfl rfl i rfl (by omega) hn d_A_fill_aIIV_13 (fun H locs hP hD hS => ?_)
      have hP : va_P D classes [(a0, aI cA n (eh_upd f i z))] H := hP
      have hD : va_D A [(a0, aI cA n (eh_upd f i z))] := hD
      refine lv_iinc (v := eI (((i : Nat) : Int) + 1)) hx hb d_A_fill_aIIV_14 hl (k := 1) rfl (eI_add _ _) (by decide) rfl (fun ls hl => ?_)
      have hl : lv_has ls 4 [(2, .int (eI (((i : Nat) : Int) + 1))), (3, .int (eI ((n : Nat) : Int))), (0, .ref a0), (1, .int (eI z))] := hl
      refine lv_goto (tgt := 5) hx hb d_A_fill_aIIV_17 rfl ?_
      have hl : lv_has ls 4 _ := hl
      exact ih (i + 1) _ H locs ls (by omega) (by omega) (lv_sub hl [1, 0, 2, 3] rfl) hP hD hS (fun j hj => by
        by_cases e : j = i
        · subst e; rw [eh_upd_s]
        · rw [eh_upd_n _ _ e]; exact hf j (by omega))
  exact loop n 0 g s.heap [] ls (by omega) (by omega) hl hP hD hS (fun j h => by omega)
abbrev c_A_fill_aJJV : ByteArray := prog_15_method_101_code
def y_A_fill_aJJV : MethodName := ⟨"java/util/Arrays", "fill", "([JJ)V"⟩
abbrev k_A_fill_aJJV : Cond := .code y_A_fill_aJJV c_A_fill_aJJV 5 none
theorem kin_A_fill_aJJV : k_A_fill_aJJV ∈ ew_t := tb_272
theorem dv_A_fill_aJJV : eh_dS y_A_fill_aJJV 2 := ⟨by decide, by decide, by decide +kernel⟩
theorem d_A_fill_aJJV_0 : decode c_A_fill_aJJV 0 = .ok (.iconst 0, 1) := by decide +kernel
theorem d_A_fill_aJJV_1 : decode c_A_fill_aJJV 1 = .ok (.istore_n 3, 1) := by decide +kernel
theorem d_A_fill_aJJV_2 : decode c_A_fill_aJJV 2 = .ok (.aload_n 0, 1) := by decide +kernel
theorem d_A_fill_aJJV_3 : decode c_A_fill_aJJV 3 = .ok (.arraylength, 1) := by decide +kernel
theorem d_A_fill_aJJV_4 : decode c_A_fill_aJJV 4 = .ok (.istore 4, 2) := by decide +kernel
theorem d_A_fill_aJJV_6 : decode c_A_fill_aJJV 6 = .ok (.iload_n 3, 1) := by decide +kernel
theorem d_A_fill_aJJV_7 : decode c_A_fill_aJJV 7 = .ok (.iload 4, 2) := by decide +kernel
theorem d_A_fill_aJJV_9 : decode c_A_fill_aJJV 9 = .ok (.if_icmp .ge 13, 3) := by decide +kernel
theorem d_A_fill_aJJV_12 : decode c_A_fill_aJJV 12 = .ok (.aload_n 0, 1) := by decide +kernel
theorem d_A_fill_aJJV_13 : decode c_A_fill_aJJV 13 = .ok (.iload_n 3, 1) := by decide +kernel
theorem d_A_fill_aJJV_14 : decode c_A_fill_aJJV 14 = .ok (.lload_n 1, 1) := by decide +kernel
theorem d_A_fill_aJJV_15 : decode c_A_fill_aJJV 15 = .ok (.lastore, 1) := by decide +kernel
theorem d_A_fill_aJJV_16 : decode c_A_fill_aJJV 16 = .ok (.iinc 3 1, 3) := by decide +kernel
theorem d_A_fill_aJJV_19 : decode c_A_fill_aJJV 19 = .ok (.goto (-13), 3) := by decide +kernel
theorem d_A_fill_aJJV_22 : decode c_A_fill_aJJV 22 = .ok (.return_, 1) := by decide +kernel
set_option maxHeartbeats 4000000 in
set_option maxRecDepth 100000 in
theorem m_A_fill_aJJV (l : Launch) (D : va_G) (cA : ClassId) (a0 n : Nat) (hn : n < 2147483648) (g : Nat → Int) (z : Int) : eh_M (S := Nat → Int) l y_A_fill_aJJV k_A_fill_aJJV 0 0 D classes [(cA, .long)] [.ref a0, .long (eL z)] [(a0, aL cA n g)] (fun u => ∀ j, j < n → u j = z) (fun _ => none) (fun u => [(a0, aL cA n u)]) := by
  intro sz
  refine Met.ofW (cc := c_A_fill_aJJV) (maxL := 5) (ret := none) (by decide) rfl ?_
  intro p e s m args below meth c s₁ B hml hv
  obtain ⟨hargs, hsz, hP, hK, hD0, hN⟩ := hv
  have hx := B.exec
  have hb := B.bytes
  have hrt := B.returns
  have hts := atoms_spec (ws := k_A_fill_aJJV :: ew_t) B.pre
  have htb : ∀ w ∈ ew_t, w.before args s = true := fun w h => hts w (List.mem_cons_of_mem _ h)
  have hown : s.vm.findClass "java/util/Arrays" = some m.cls := findClass_of_methodNamed B.named
  have hlocks := B.notSynchronized
  have hE : entryFrame m args 5 = entryFrame m ([.ref a0, .long (eL z)] : List Value).toArray 5 := by rw [hargs]
  rw [hE]
  clear hE hts B hargs
  generalize hRe : (headSpec _ _).room = R
  have hR1 : R.frames = 0 := by rw [← hRe]; rfl
  have hR2 : R.locals = 0 := by rw [← hRe]; rfl
  clear hRe
  generalize hQ : MQ below _ _ s 0 0 _ = Q
  subst hsz
  have hD := hD0.self (sz := s.heap.size)
  generalize hAe : va_A [(a0, aL cA n g)] s.heap.size = A at hD hQ
  have hA : ∀ q : Nat, s.heap.size ≤ q → A q := fun q h => by rw [← hAe]; exact Or.inr h
  have hS : va_S A s.heap s.heap [] := va_S.rf
  have hP : va_P D classes [(a0, aL cA n g)] s.heap := hP
  have hl := lv_entry ([.ref a0, .long (eL z)]) (n := 5) (Nat.le_of_ble_eq_true rfl)
  rw [lg_entry_eq]
  generalize (lg_sl ([.ref a0, .long (eL z)]) ++ List.replicate (5 - (lg_sl ([.ref a0, .long (eL z)])).length) Slot.unset).toArray = ls at hl ⊢
  have hl : lv_has ls 5 [(0, .ref a0), (1, .long (eL z))] := hl
  refine lv_iconst (v := eI 0) hx hb d_A_fill_aJJV_0 rfl ?_
  refine lv_istore_n hx hb d_A_fill_aJJV_1 rfl hl (by decide) rfl (fun ls hl => ?_)
  have hl : lv_has ls 5 [(3, .int (eI 0)), (0, .ref a0), (1, .long (eL z))] := hl
  refine lv_aload_n hx hb d_A_fill_aJJV_2 rfl (lv_at hl 1 rfl) ?_
  refine va_alen (v := eI (n : Nat)) hx hb hK hP 0 0 rfl rfl (by rfl) d_A_fill_aJJV_3 ?_
  refine lv_istore hx hb d_A_fill_aJJV_4 hl (by decide) rfl (fun ls hl => ?_)
  have hl : lv_has ls 5 [(4, .int (eI ((n : Nat) : Int))), (3, .int (eI 0)), (0, .ref a0), (1, .long (eL z))] := hl
  have loop : ∀ (q i : Nat) (f : Nat → Int) (H : Heap) (locs : List Loc) (ls : Array Slot), n - i = q → i ≤ n → lv_has ls 5 [(4, .int (eI ((n : Nat) : Int))), (3, .int (eI ((i : Nat) : Int))), (0, .ref a0), (1, .long (eL z))] → va_P D classes [(a0, aL cA n f)] H → va_D A [(a0, aL cA n f)] → va_S A s.heap H locs → (∀ j, j < i → f j = z) → W p l e R s m args below meth c H locs 0 0 Q (F0 m 6 ls []) := by
    intro q
    induction q with
    | zero =>
      intro i f H locs ls hq hi hl hP hD hS hf
      have hin : i = n := by omega
      subst hin
      refine lv_iload_n hx hb d_A_fill_aJJV_6 rfl (lv_at hl 1 rfl) ?_
      refine lv_iload hx hb d_A_fill_aJJV_7 (lv_at hl 0 rfl) ?_
      refine we_icmp_ge (tgt := 22) hx hb (by constructor <;> omega) (by constructor <;> omega) d_A_fill_aJJV_9 rfl (fun hc9 => ?_) (fun hc9 => absurd hc9 (by omega))
      subst hQ
      exact W.vret hx hb hrt (fun t ht hW => ⟨⟨f, rfl, hf, by rw [ht]; exact hP, hD⟩, hS.F ht⟩) hS.2.2 d_A_fill_aJJV_22
    | succ q ih =>
      intro i f H locs ls hq hi hl hP hD hS hf
      refine lv_iload_n hx hb d_A_fill_aJJV_6 rfl (lv_at hl 1 rfl) ?_
      refine lv_iload hx hb d_A_fill_aJJV_7 (lv_at hl 0 rfl) ?_
      refine we_icmp_ge (tgt := 22) hx hb (by constructor <;> omega) (by constructor <;> omega) d_A_fill_aJJV_9 rfl (fun hc9 => absurd hc9 (by omega)) (fun hc9 => ?_)
      refine lv_aload_n hx hb d_A_fill_aJJV_12 rfl (lv_at hl 2 rfl) ?_
      refine lv_iload_n hx hb d_A_fill_aJJV_13 rfl (lv_at hl 1 rfl) ?_
      refine lv_lload_n hx hb d_A_fill_aJJV_14 rfl (lv_at hl 3 rfl) ?_
      refine we_last hx hb hK hP hD hS 0 0 rfl rfl i rfl (by omega) hn d_A_fill_aJJV_15 (fun H locs hP hD hS => ?_)
      have hP : va_P D classes [(a0, aL cA n (eh_upd f i z))] H := hP
      have hD : va_D A [(a0, aL cA n (eh_upd f i z))] := hD
      refine lv_iinc (v := eI (((i : Nat) : Int) + 1)) hx hb d_A_fill_aJJV_16 hl (k := 1) rfl (eI_add _ _) (by decide) rfl (fun ls hl => ?_)
      have hl : lv_has ls 5 [(3, .int (eI (((i : Nat) : Int) + 1))), (4, .int (eI ((n : Nat) : Int))), (0, .ref a0), (1, .long (eL z))] := hl
      refine lv_goto (tgt := 6) hx hb d_A_fill_aJJV_19 rfl ?_
      have hl : lv_has ls 5 _ := hl
      exact ih (i + 1) _ H locs ls (by omega) (by omega) (lv_sub hl [1, 0, 2, 3] rfl) hP hD hS (fun j hj => by
        by_cases e : j = i
        · subst e; rw [eh_upd_s]
        · rw [eh_upd_n _ _ e]; exact hf j (by omega))
  exact loop n 0 g s.heap [] ls (by omega) (by omega) hl hP hD hS (fun j h => by omega)
abbrev c_N_setEdge : ByteArray := prog_3_method_15_code
def y_N_setEdge : MethodName := ⟨"EarthHauls$Network", "setEdge", "(IIIIJ)V"⟩
abbrev k_N_setEdge : Cond := .code y_N_setEdge c_N_setEdge 7 none
theorem kin_N_setEdge : k_N_setEdge ∈ ew_t := tb_206
theorem dv_N_setEdge : eh_dV y_N_setEdge "EarthHauls$Network" 5 := ⟨rfl, by decide, by decide, by decide +kernel⟩
theorem d_N_setEdge_0 : decode c_N_setEdge 0 = .ok (.aload_n 0, 1) := by decide +kernel
theorem d_N_setEdge_1 : decode c_N_setEdge 1 = .ok (.getfield 11, 3) := by decide +kernel
theorem d_N_setEdge_4 : decode c_N_setEdge 4 = .ok (.iload_n 1, 1) := by decide +kernel
theorem d_N_setEdge_5 : decode c_N_setEdge 5 = .ok (.iload_n 2, 1) := by decide +kernel
theorem d_N_setEdge_6 : decode c_N_setEdge 6 = .ok (.iastore, 1) := by decide +kernel
theorem d_N_setEdge_7 : decode c_N_setEdge 7 = .ok (.aload_n 0, 1) := by decide +kernel
theorem d_N_setEdge_8 : decode c_N_setEdge 8 = .ok (.getfield 15, 3) := by decide +kernel
theorem d_N_setEdge_11 : decode c_N_setEdge 11 = .ok (.iload_n 1, 1) := by decide +kernel
theorem d_N_setEdge_12 : decode c_N_setEdge 12 = .ok (.iload_n 3, 1) := by decide +kernel
theorem d_N_setEdge_13 : decode c_N_setEdge 13 = .ok (.iastore, 1) := by decide +kernel
theorem d_N_setEdge_14 : decode c_N_setEdge 14 = .ok (.aload_n 0, 1) := by decide +kernel
theorem d_N_setEdge_15 : decode c_N_setEdge 15 = .ok (.getfield 18, 3) := by decide +kernel
theorem d_N_setEdge_18 : decode c_N_setEdge 18 = .ok (.iload_n 1, 1) := by decide +kernel
theorem d_N_setEdge_19 : decode c_N_setEdge 19 = .ok (.iload 4, 2) := by decide +kernel
theorem d_N_setEdge_21 : decode c_N_setEdge 21 = .ok (.iastore, 1) := by decide +kernel
theorem d_N_setEdge_22 : decode c_N_setEdge 22 = .ok (.aload_n 0, 1) := by decide +kernel
theorem d_N_setEdge_23 : decode c_N_setEdge 23 = .ok (.getfield 21, 3) := by decide +kernel
theorem d_N_setEdge_26 : decode c_N_setEdge 26 = .ok (.iload_n 1, 1) := by decide +kernel
theorem d_N_setEdge_27 : decode c_N_setEdge 27 = .ok (.lload 5, 2) := by decide +kernel
theorem d_N_setEdge_29 : decode c_N_setEdge 29 = .ok (.lastore, 1) := by decide +kernel
theorem d_N_setEdge_30 : decode c_N_setEdge 30 = .ok (.return_, 1) := by decide +kernel
set_option maxHeartbeats 4000000 in
set_option maxRecDepth 100000 in
theorem m_N_setEdge (l : Launch) (D : va_G) (cI cL : ClassId) (h0 qT qH qR qW qA qD qE : Nat) (ed : Int) (gT gH gR gW : Nat → Int) (k : Nat) (hk : k < 82) (f t x w : Int) : eh_M (S := Unit) l y_N_setEdge k_N_setEdge 0 0 D classes [(cI, .int), (cL, .long)] [.ref h0, .int (eI (k : Int)), .int (eI f), .int (eI t), .int (eI x), .long (eL w)] [(h0, .inr (1, [.ref qT, .ref qH, .ref qR, .ref qW, .ref qA, .ref qD, .ref qE, .int (eI ed)])), (qT, aI cI 82 gT), (qH, aI cI 82 gH), (qR, aI cI 82 gR), (qW, aL cL 82 gW)] (fun _ => True) (fun _ => none) (fun _ => [(h0, .inr (1, [.ref qT, .ref qH, .ref qR, .ref qW, .ref qA, .ref qD, .ref qE, .int (eI ed)])), (qT, aI cI 82 (eh_upd gT k f)), (qH, aI cI 82 (eh_upd gH k t)), (qR, aI cI 82 (eh_upd gR k x)), (qW, aL cL 82 (eh_upd gW k w))]) := by
  intro sz
  refine Met.ofW (cc := c_N_setEdge) (maxL := 7) (ret := none) (by decide) rfl ?_
  intro p e s m args below meth c s₁ B hml hv
  obtain ⟨hargs, hsz, hP, hK, hD0, hN⟩ := hv
  have hx := B.exec
  have hb := B.bytes
  have hrt := B.returns
  have hts := atoms_spec (ws := k_N_setEdge :: ew_t) B.pre
  have htb : ∀ w ∈ ew_t, w.before args s = true := fun w h => hts w (List.mem_cons_of_mem _ h)
  have hown : s.vm.findClass "EarthHauls$Network" = some m.cls := findClass_of_methodNamed B.named
  have hlocks := B.notSynchronized
  have hE : entryFrame m args 7 = entryFrame m ([.ref h0, .int (eI (k : Int)), .int (eI f), .int (eI t), .int (eI x), .long (eL w)] : List Value).toArray 7 := by rw [hargs]
  rw [hE]
  clear hE hts B hargs
  generalize hRe : (headSpec _ _).room = R
  have hR1 : R.frames = 0 := by rw [← hRe]; rfl
  have hR2 : R.locals = 0 := by rw [← hRe]; rfl
  clear hRe
  generalize hQ : MQ below _ _ s 0 0 _ = Q
  subst hsz
  have hD := hD0.self (sz := s.heap.size)
  generalize hAe : va_A [(h0, .inr (1, [.ref qT, .ref qH, .ref qR, .ref qW, .ref qA, .ref qD, .ref qE, .int (eI ed)])), (qT, aI cI 82 gT), (qH, aI cI 82 gH), (qR, aI cI 82 gR), (qW, aL cL 82 gW)] s.heap.size = A at hD hQ
  have hA : ∀ q : Nat, s.heap.size ≤ q → A q := fun q h => by rw [← hAe]; exact Or.inr h
  have hS : va_S A s.heap s.heap [] := va_S.rf
  have hP : va_P D classes [(h0, .inr (1, [.ref qT, .ref qH, .ref qR, .ref qW, .ref qA, .ref qD, .ref qE, .int (eI ed)])), (qT, aI cI 82 gT), (qH, aI cI 82 gH), (qR, aI cI 82 gR), (qW, aL cL 82 gW)] s.heap := hP
  have hl := lv_entry ([.ref h0, .int (eI (k : Int)), .int (eI f), .int (eI t), .int (eI x), .long (eL w)]) (n := 7) (Nat.le_of_ble_eq_true rfl)
  rw [lg_entry_eq]
  generalize (lg_sl ([.ref h0, .int (eI (k : Int)), .int (eI f), .int (eI t), .int (eI x), .long (eL w)]) ++ List.replicate (7 - (lg_sl ([.ref h0, .int (eI (k : Int)), .int (eI f), .int (eI t), .int (eI x), .long (eL w)])).length) Slot.unset).toArray = ls at hl ⊢
  have hl : lv_has ls 7 [(0, .ref h0), (1, .int (eI (k : Int))), (2, .int (eI f)), (3, .int (eI t)), (4, .int (eI x)), (5, .long (eL w))] := hl
  refine lv_aload_n hx hb d_N_setEdge_0 rfl (lv_at hl 0 rfl) ?_
  refine va_get (D := D) (ci := 1) (v := .ref qT) (C := R_N) (T := T_N) (N := 8) hx hb htb in_N hown hK hP 0 rfl rfl 0 (by decide) (htb _ tb_33) (fun _ h9 => h9) rfl d_N_setEdge_1 ?_
  refine lv_iload_n hx hb d_N_setEdge_4 rfl (lv_at hl 1 rfl) ?_
  refine lv_iload_n hx hb d_N_setEdge_5 rfl (lv_at hl 2 rfl) ?_
  refine we_iast hx hb hK hP hD hS 1 0 rfl rfl k rfl (by omega) (by decide) d_N_setEdge_6 (fun H locs hP hD hS => ?_)
  have hP : va_P D classes [(h0, .inr (1, [.ref qT, .ref qH, .ref qR, .ref qW, .ref qA, .ref qD, .ref qE, .int (eI ed)])), (qT, aI cI 82 (eh_upd gT k f)), (qH, aI cI 82 gH), (qR, aI cI 82 gR), (qW, aL cL 82 gW)] H := hP
  have hD : va_D A [(h0, .inr (1, [.ref qT, .ref qH, .ref qR, .ref qW, .ref qA, .ref qD, .ref qE, .int (eI ed)])), (qT, aI cI 82 (eh_upd gT k f)), (qH, aI cI 82 gH), (qR, aI cI 82 gR), (qW, aL cL 82 gW)] := hD
  refine lv_aload_n hx hb d_N_setEdge_7 rfl (lv_at hl 0 rfl) ?_
  refine va_get (D := D) (ci := 1) (v := .ref qH) (C := R_N) (T := T_N) (N := 8) hx hb htb in_N hown hK hP 0 rfl rfl 1 (by decide) (htb _ tb_34) (fun _ h9 => h9) rfl d_N_setEdge_8 ?_
  refine lv_iload_n hx hb d_N_setEdge_11 rfl (lv_at hl 1 rfl) ?_
  refine lv_iload_n hx hb d_N_setEdge_12 rfl (lv_at hl 3 rfl) ?_
  refine we_iast hx hb hK hP hD hS 2 0 rfl rfl k rfl (by omega) (by decide) d_N_setEdge_13 (fun H locs hP hD hS => ?_)
  have hP : va_P D classes [(h0, .inr (1, [.ref qT, .ref qH, .ref qR, .ref qW, .ref qA, .ref qD, .ref qE, .int (eI ed)])), (qT, aI cI 82 (eh_upd gT k f)), (qH, aI cI 82 (eh_upd gH k t)), (qR, aI cI 82 gR), (qW, aL cL 82 gW)] H := hP
  have hD : va_D A [(h0, .inr (1, [.ref qT, .ref qH, .ref qR, .ref qW, .ref qA, .ref qD, .ref qE, .int (eI ed)])), (qT, aI cI 82 (eh_upd gT k f)), (qH, aI cI 82 (eh_upd gH k t)), (qR, aI cI 82 gR), (qW, aL cL 82 gW)] := hD
  refine lv_aload_n hx hb d_N_setEdge_14 rfl (lv_at hl 0 rfl) ?_
  refine va_get (D := D) (ci := 1) (v := .ref qR) (C := R_N) (T := T_N) (N := 8) hx hb htb in_N hown hK hP 0 rfl rfl 2 (by decide) (htb _ tb_35) (fun _ h9 => h9) rfl d_N_setEdge_15 ?_
  refine lv_iload_n hx hb d_N_setEdge_18 rfl (lv_at hl 1 rfl) ?_
  refine lv_iload hx hb d_N_setEdge_19 (lv_at hl 4 rfl) ?_
  refine we_iast hx hb hK hP hD hS 3 0 rfl rfl k rfl (by omega) (by decide) d_N_setEdge_21 (fun H locs hP hD hS => ?_)
  have hP : va_P D classes [(h0, .inr (1, [.ref qT, .ref qH, .ref qR, .ref qW, .ref qA, .ref qD, .ref qE, .int (eI ed)])), (qT, aI cI 82 (eh_upd gT k f)), (qH, aI cI 82 (eh_upd gH k t)), (qR, aI cI 82 (eh_upd gR k x)), (qW, aL cL 82 gW)] H := hP
  have hD : va_D A [(h0, .inr (1, [.ref qT, .ref qH, .ref qR, .ref qW, .ref qA, .ref qD, .ref qE, .int (eI ed)])), (qT, aI cI 82 (eh_upd gT k f)), (qH, aI cI 82 (eh_upd gH k t)), (qR, aI cI 82 (eh_upd gR k x)), (qW, aL cL 82 gW)] := hD
  refine lv_aload_n hx hb d_N_setEdge_22 rfl (lv_at hl 0 rfl) ?_
  refine va_get (D := D) (ci := 1) (v := .ref qW) (C := R_N) (T := T_N) (N := 8) hx hb htb in_N hown hK hP 0 rfl rfl 3 (by decide) (htb _ tb_36) (fun _ h9 => h9) rfl d_N_setEdge_23 ?_
  refine lv_iload_n hx hb d_N_setEdge_26 rfl (lv_at hl 1 rfl) ?_
  refine lv_lload hx hb d_N_setEdge_27 (lv_at hl 5 rfl) ?_
  refine we_last hx hb hK hP hD hS 4 1 rfl rfl k rfl (by omega) (by decide) d_N_setEdge_29 (fun H locs hP hD hS => ?_)
  have hP : va_P D classes [(h0, .inr (1, [.ref qT, .ref qH, .ref qR, .ref qW, .ref qA, .ref qD, .ref qE, .int (eI ed)])), (qT, aI cI 82 (eh_upd gT k f)), (qH, aI cI 82 (eh_upd gH k t)), (qR, aI cI 82 (eh_upd gR k x)), (qW, aL cL 82 (eh_upd gW k w))] H := hP
  have hD : va_D A [(h0, .inr (1, [.ref qT, .ref qH, .ref qR, .ref qW, .ref qA, .ref qD, .ref qE, .int (eI ed)])), (qT, aI cI 82 (eh_upd gT k f)), (qH, aI cI 82 (eh_upd gH k t)), (qR, aI cI 82 (eh_upd gR k x)), (qW, aL cL 82 (eh_upd gW k w))] := hD
  subst hQ
  exact W.vret hx hb hrt (fun t ht hW => ⟨⟨(), rfl, trivial, by rw [ht]; exact hP, hD⟩, hS.F ht⟩) hS.2.2 d_N_setEdge_30
