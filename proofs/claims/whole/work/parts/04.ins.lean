/-! the instructions: what each asks of what stands behind it, and that it is so -/
def pz_nth {α : Type} : List α → Nat → Option α
  | [], _ => none
  | a :: _, 0 => some a
  | _ :: l, n + 1 => pz_nth l n
def pz_set {α : Type} : List α → Nat → α → List α
  | [], _, _ => []
  | _ :: l, 0, x => x :: l
  | a :: l, n + 1, x => a :: pz_set l n x
theorem pz_nth_eq {α : Type} : ∀ (l : List α) (i : Nat), pz_nth l i = l[i]?
  | [], i => by simp [pz_nth]
  | a :: l, 0 => by simp [pz_nth]
  | a :: l, n + 1 => by simp [pz_nth, pz_nth_eq l n]
theorem pz_set_eq {α : Type} : ∀ (l : List α) (i : Nat) (x : α), pz_set l i x = l.set i x
  | [], i, x => by simp [pz_set]
  | a :: l, 0, x => by simp [pz_set]
  | a :: l, n + 1, x => by simp [pz_set, pz_set_eq l n x]
abbrev pz_k : Type := Nat → Nat × Nat → pz_L → List Value → pz_M → Prop
abbrev pz_I : Type := pz_Q → pz_k → Nat × Nat → pz_L → List Value → pz_M → Prop
def pz_S (κ : pz_K) (pc : Nat) (x : pz_I) : Prop := ∀ (φ : pz_V → State → Prop) (Q : pz_Q) (k : pz_k) (u : Nat × Nat) (L : pz_L) (S : List Value) (M : pz_M), x Q k u L S M → (∀ (pc' : Nat) (u' : Nat × Nat) (L' : pz_L) (S' : List Value) (M' : pz_M), k pc' u' L' S' M' → pz_T φ κ Q pc' u' L' S' M') → pz_T φ κ Q pc u L S M
theorem pz_ls.int {E : pz_V} {L : pz_L} {nL : Nat} {ls : Array Slot} (h : pz_ls E L nL ls) {i : Nat} {v : Value} (hi : pz_nth L i = some (some v)) : ls[i]? = some (.val (pz_v E v)) := h.2.2.2 i v (by rw [← pz_nth_eq]; exact hi)
/-- a store into a local, of one word -/
def pz_sto (L : pz_L) (i : Nat) (v : Value) : Option pz_L := match pz_nth L i with
  | none => none
  | some _ => match i with
    | 0 => some (pz_set L 0 (some v))
    | j + 1 => match pz_nth L j with
      | some (some (.long _)) => none
      | some (some (.double _)) => none
      | _ => some (pz_set L (j + 1) (some v))
theorem pz_sto_ok {E : pz_V} {L L' : pz_L} {nL : Nat} {ls : Array Slot} {i : Nat} {v : Value} (h : pz_ls E L nL ls) (hc : v.category = 1) (hs : pz_sto L i v = some L') :
    i < nL ∧ ∃ lv : List (Nat × Value), lv_has ls nL lv ∧ ∀ ls' : Array Slot, lv_has ls' nL ((i, pz_v E v) :: lv.filter (fun q => !(q.1 == i) && !(q.1 + 1 == i && q.2.category == 2))) → pz_ls E L' nL ls' := by
  have hlt : i < L.length := by
    unfold pz_sto at hs
    split at hs
    · cases hs
    · next _ hq => rw [pz_nth_eq] at hq; exact (List.getElem?_eq_some_iff.mp hq).1
  have hL' : L' = L.set i (some v) ∧ ∀ (j : Nat) (w : Value), j + 1 = i → L[j]? = some (some w) → w.category = 1 := by
    unfold pz_sto at hs
    split at hs
    · cases hs
    · cases i with
      | zero =>
        simp only [Option.some.injEq] at hs
        exact ⟨by rw [← hs, pz_set_eq], fun j w hj => by omega⟩
      | succ j =>
        dsimp only at hs
        split at hs
        · cases hs
        · cases hs
        · next hn1 hn2 =>
          simp only [Option.some.injEq] at hs
          refine ⟨by rw [← hs, pz_set_eq], fun j' w hj hw => ?_⟩
          have : j' = j := by omega
          subst this
          rw [← pz_nth_eq] at hw
          cases w with
          | long x => exact absurd hw (hn1 x)
          | double x => exact absurd hw (hn2 x)
          | _ => rfl
  obtain ⟨h1, h2, h3, h4⟩ := h
  refine ⟨by omega, (List.range nL).filterMap (fun j => match L[j]? with | some (some w) => some (j, pz_v E w) | _ => none), ⟨h2, h3, fun q hq => ?_⟩, fun ls' hl' => ⟨?_, hl'.1, hl'.2.1, fun j w hw => ?_⟩⟩
  · obtain ⟨j, hj, hq⟩ := List.mem_filterMap.mp hq
    split at hq
    · next w hw =>
      cases hq
      exact h4 j w hw
    · cases hq
  · rw [hL'.1, List.length_set]; exact h1
  · rw [hL'.1] at hw
    by_cases hj : j = i
    · subst hj
      rw [List.getElem?_set_self hlt] at hw
      cases hw
      exact hl'.2.2 (j, pz_v E v) List.mem_cons_self
    · rw [List.getElem?_set_ne (fun q => hj q.symm)] at hw
      refine hl'.2.2 (j, pz_v E w) (List.mem_cons_of_mem _ (List.mem_filter.mpr ⟨List.mem_filterMap.mpr ⟨j, List.mem_range.mpr ?_, ?_⟩, ?_⟩))
      · have := (List.getElem?_eq_some_iff.mp hw).1
        omega
      · rw [hw]
      · simp only [Bool.and_eq_true, Bool.not_eq_true', beq_eq_false_iff_ne, ne_eq, Bool.and_eq_false_iff]
        refine ⟨hj, ?_⟩
        by_cases hji : j + 1 = i
        · right
          have := hL'.2 j w hji hw
          rw [pz_v_cat, this]
          decide
        · exact Or.inl hji
def pz_ic (v : Int32) (n : Nat) : pz_I := fun Q k u L S M => k n u L (.int v :: S) M
theorem pz_s_iconst {κ : pz_K} {pc : Nat} {a : Int} {v : Int32} (hd : decode (pz_cc κ) pc = .ok (.iconst a, 1)) (hv : Int32.ofInt a = v) : pz_S κ pc (pz_ic v (pc + 1)) := by
  intro φ Q k u L S M h hk E p l e R s m args below meth c H locs ls P C h1 h2 hW hS hl hr
  have hx := C.1
  have hb := C.2.1
  exact lv_iconst hx hb hd hv (hk _ _ _ _ _ h E p l e R s m args below meth c H locs ls P C h1 h2 hW hS hl hr)
theorem pz_s_bipush {κ : pz_K} {pc : Nat} {a : Int} {v : Int32} (hd : decode (pz_cc κ) pc = .ok (.bipush a, 2)) (hv : (Int8.ofInt a).toInt32 = v) : pz_S κ pc (pz_ic v (pc + 2)) := by
  intro φ Q k u L S M h hk E p l e R s m args below meth c H locs ls P C h1 h2 hW hS hl hr
  have hx := C.1
  have hb := C.2.1
  exact lv_bipush hx hb hd hv (hk _ _ _ _ _ h E p l e R s m args below meth c H locs ls P C h1 h2 hW hS hl hr)
theorem pz_s_sipush {κ : pz_K} {pc : Nat} {a : Int} {v : Int32} (hd : decode (pz_cc κ) pc = .ok (.sipush a, 3)) (hv : (Int16.ofInt a).toInt32 = v) : pz_S κ pc (pz_ic v (pc + 3)) := by
  intro φ Q k u L S M h hk E p l e R s m args below meth c H locs ls P C h1 h2 hW hS hl hr
  have hx := C.1
  have hb := C.2.1
  exact lv_sipush hx hb hd hv (hk _ _ _ _ _ h E p l e R s m args below meth c H locs ls P C h1 h2 hW hS hl hr)
theorem pz_s_ldc {κ : pz_K} {pc : Nat} {i : Nat} {v : Int32} (hd : decode (pz_cc κ) pc = .ok (.ldc i, 2)) (hw : Cond.constant (pz_own κ) i v ∈ pz_TB) : pz_S κ pc (pz_ic v (pc + 2)) := by
  intro φ Q k u L S M h hk E p l e R s m args below meth c H locs ls P C h1 h2 hW hS hl hr
  have hx := C.1
  have hb := C.2.1
  exact lv_ldc hx hb C.2.2.2.1 (C.2.2.2.2.1 _ hw) hd (hk _ _ _ _ _ h E p l e R s m args below meth c H locs ls P C h1 h2 hW hS hl hr)
theorem pz_s_ldcw {κ : pz_K} {pc : Nat} {i : Nat} {v : Int32} (hd : decode (pz_cc κ) pc = .ok (.ldc_w i, 3)) (hw : Cond.constant (pz_own κ) i v ∈ pz_TB) : pz_S κ pc (pz_ic v (pc + 3)) := by
  intro φ Q k u L S M h hk E p l e R s m args below meth c H locs ls P C h1 h2 hW hS hl hr
  have hx := C.1
  have hb := C.2.1
  exact lv_ldcw hx hb C.2.2.2.1 (C.2.2.2.2.1 _ hw) hd (hk _ _ _ _ _ h E p l e R s m args below meth c H locs ls P C h1 h2 hW hS hl hr)
def pz_lc (v : Int64) (n : Nat) : pz_I := fun Q k u L S M => k n u L (.long v :: S) M
theorem pz_s_lconst {κ : pz_K} {pc : Nat} {a : Fin 2} {v : Int64} (hd : decode (pz_cc κ) pc = .ok (.lconst a, 1)) (hv : Int64.ofNat (a : Nat) = v) : pz_S κ pc (pz_lc v (pc + 1)) := by
  intro φ Q k u L S M h hk E p l e R s m args below meth c H locs ls P C h1 h2 hW hS hl hr
  have hx := C.1
  have hb := C.2.1
  exact lv_lconst hx hb hd hv (hk _ _ _ _ _ h E p l e R s m args below meth c H locs ls P C h1 h2 hW hS hl hr)
theorem pz_s_ldc2 {κ : pz_K} {pc : Nat} {i : Nat} {v : Int64} (hd : decode (pz_cc κ) pc = .ok (.ldc2_w i, 3)) (hw : Cond.constantLong (pz_own κ) i v ∈ pz_TB) : pz_S κ pc (pz_lc v (pc + 3)) := by
  intro φ Q k u L S M h hk E p l e R s m args below meth c H locs ls P C h1 h2 hW hS hl hr
  have hx := C.1
  have hb := C.2.1
  exact lv_ldc2 hx hb C.2.2.2.1 (C.2.2.2.2.1 _ hw) hd (hk _ _ _ _ _ h E p l e R s m args below meth c H locs ls P C h1 h2 hW hS hl hr)
def pz_null (n : Nat) : pz_I := fun Q k u L S M => k n u L (.null :: S) M
theorem pz_s_null {κ : pz_K} {pc : Nat}  (hd : decode (pz_cc κ) pc = .ok (.aconst_null, 1))  : pz_S κ pc (pz_null  (pc + 1)) := by
  intro φ Q k u L S M h hk E p l e R s m args below meth c H locs ls P C h1 h2 hW hS hl hr
  have hx := C.1
  have hb := C.2.1
  exact lv_null hx hb hd (hk _ _ _ _ _ h E p l e R s m args below meth c H locs ls P C h1 h2 hW hS hl hr)
def pz_il (i n : Nat) : pz_I := fun Q k u L S M => match pz_nth L i with
  | some (some (.int x)) => k n u L (.int x :: S) M
  | _ => False
theorem pz_s_iload_n {κ : pz_K} {pc : Nat} {a : Fin 4} {i : Nat} (hd : decode (pz_cc κ) pc = .ok (.iload_n a, 1)) (hi : (a : Nat) = i) : pz_S κ pc (pz_il i (pc + 1)) := by
  intro φ Q k u L S M h hk E p l e R s m args below meth c H locs ls P C h1 h2 hW hS hl hr
  have hx := C.1
  have hb := C.2.1
  unfold pz_il at h
  split at h
  · next x hq => exact lv_iload_n (x := x) hx hb hd hi (hl.int hq) (hk _ _ _ _ _ h E p l e R s m args below meth c H locs ls P C h1 h2 hW hS hl hr)
  · exact h.elim
theorem pz_s_iload {κ : pz_K} {pc : Nat} {i : Nat} (hd : decode (pz_cc κ) pc = .ok (.iload i, 2))  : pz_S κ pc (pz_il i (pc + 2)) := by
  intro φ Q k u L S M h hk E p l e R s m args below meth c H locs ls P C h1 h2 hW hS hl hr
  have hx := C.1
  have hb := C.2.1
  unfold pz_il at h
  split at h
  · next x hq => exact lv_iload (x := x) hx hb hd (hl.int hq) (hk _ _ _ _ _ h E p l e R s m args below meth c H locs ls P C h1 h2 hW hS hl hr)
  · exact h.elim
def pz_ll (i n : Nat) : pz_I := fun Q k u L S M => match pz_nth L i with
  | some (some (.long x)) => k n u L (.long x :: S) M
  | _ => False
theorem pz_s_lload_n {κ : pz_K} {pc : Nat} {a : Fin 4} {i : Nat} (hd : decode (pz_cc κ) pc = .ok (.lload_n a, 1)) (hi : (a : Nat) = i) : pz_S κ pc (pz_ll i (pc + 1)) := by
  intro φ Q k u L S M h hk E p l e R s m args below meth c H locs ls P C h1 h2 hW hS hl hr
  have hx := C.1
  have hb := C.2.1
  unfold pz_ll at h
  split at h
  · next x hq => exact lv_lload_n (x := x) hx hb hd hi (hl.int hq) (hk _ _ _ _ _ h E p l e R s m args below meth c H locs ls P C h1 h2 hW hS hl hr)
  · exact h.elim
theorem pz_s_lload {κ : pz_K} {pc : Nat} {i : Nat} (hd : decode (pz_cc κ) pc = .ok (.lload i, 2))  : pz_S κ pc (pz_ll i (pc + 2)) := by
  intro φ Q k u L S M h hk E p l e R s m args below meth c H locs ls P C h1 h2 hW hS hl hr
  have hx := C.1
  have hb := C.2.1
  unfold pz_ll at h
  split at h
  · next x hq => exact lv_lload (x := x) hx hb hd (hl.int hq) (hk _ _ _ _ _ h E p l e R s m args below meth c H locs ls P C h1 h2 hW hS hl hr)
  · exact h.elim
def pz_al (i n : Nat) : pz_I := fun Q k u L S M => match pz_nth L i with
  | some (some (.ref x)) => k n u L (.ref x :: S) M
  | some (some .null) => k n u L (.null :: S) M
  | _ => False
theorem pz_s_aload_n {κ : pz_K} {pc : Nat} {a : Fin 4} {i : Nat} (hd : decode (pz_cc κ) pc = .ok (.aload_n a, 1)) (hi : (a : Nat) = i) : pz_S κ pc (pz_al i (pc + 1)) := by
  intro φ Q k u L S M h hk E p l e R s m args below meth c H locs ls P C h1 h2 hW hS hl hr
  have hx := C.1
  have hb := C.2.1
  unfold pz_al at h
  split at h
  · next x hq => exact lv_aload_n (x := pz_x E x) hx hb hd hi (hl.int hq) (hk _ _ _ _ _ h E p l e R s m args below meth c H locs ls P C h1 h2 hW hS hl hr)
  · next hq => exact lv_aload_nN hx hb hd hi (hl.int hq) (hk _ _ _ _ _ h E p l e R s m args below meth c H locs ls P C h1 h2 hW hS hl hr)
  · exact h.elim
theorem pz_s_aload {κ : pz_K} {pc : Nat} {i : Nat} (hd : decode (pz_cc κ) pc = .ok (.aload i, 2))  : pz_S κ pc (pz_al i (pc + 2)) := by
  intro φ Q k u L S M h hk E p l e R s m args below meth c H locs ls P C h1 h2 hW hS hl hr
  have hx := C.1
  have hb := C.2.1
  unfold pz_al at h
  split at h
  · next x hq => exact lv_aload (x := pz_x E x) hx hb hd (hl.int hq) (hk _ _ _ _ _ h E p l e R s m args below meth c H locs ls P C h1 h2 hW hS hl hr)
  · next hq => exact lv_aloadN hx hb hd (hl.int hq) (hk _ _ _ _ _ h E p l e R s m args below meth c H locs ls P C h1 h2 hW hS hl hr)
  · exact h.elim
def pz_is (i n : Nat) : pz_I := fun Q k u L S M => match S with
  | .int x :: S => match pz_sto L i (.int x) with
    | some L => k n u L S M
    | none => False
  | _ => False
theorem pz_s_istore_n {κ : pz_K} {pc : Nat} {a : Fin 4} {i : Nat} (hd : decode (pz_cc κ) pc = .ok (.istore_n a, 1)) (hi : (a : Nat) = i) : pz_S κ pc (pz_is i (pc + 1)) := by
  intro φ Q k u L S M h hk E p l e R s m args below meth c H locs ls P C h1 h2 hW hS hl hr
  have hx := C.1
  have hb := C.2.1
  unfold pz_is at h
  split at h
  · next x S' =>
    split at h
    · next L' hq =>
      obtain ⟨hi', lv, hlv, hup⟩ := pz_sto_ok (v := .int x) hl rfl hq
      exact lv_istore_n hx hb hd hi hlv hi' rfl (fun ls' hl' => hk _ _ _ _ _ h E p l e R s m args below meth c H locs ls' P C h1 h2 hW hS (hup ls' hl') hr)
    · exact h.elim
  · exact h.elim
theorem pz_s_istore {κ : pz_K} {pc : Nat} {i : Nat} (hd : decode (pz_cc κ) pc = .ok (.istore i, 2))  : pz_S κ pc (pz_is i (pc + 2)) := by
  intro φ Q k u L S M h hk E p l e R s m args below meth c H locs ls P C h1 h2 hW hS hl hr
  have hx := C.1
  have hb := C.2.1
  unfold pz_is at h
  split at h
  · next x S' =>
    split at h
    · next L' hq =>
      obtain ⟨hi', lv, hlv, hup⟩ := pz_sto_ok (v := .int x) hl rfl hq
      exact lv_istore hx hb hd  hlv hi' rfl (fun ls' hl' => hk _ _ _ _ _ h E p l e R s m args below meth c H locs ls' P C h1 h2 hW hS (hup ls' hl') hr)
    · exact h.elim
  · exact h.elim
def pz_as (i n : Nat) : pz_I := fun Q k u L S M => match S with
  | .ref x :: S => match pz_sto L i (.ref x) with
    | some L => k n u L S M
    | none => False
  | .null :: S => match pz_sto L i .null with
    | some L => k n u L S M
    | none => False
  | _ => False
theorem pz_s_astore_n {κ : pz_K} {pc : Nat} {a : Fin 4} {i : Nat} (hd : decode (pz_cc κ) pc = .ok (.astore_n a, 1)) (hi : (a : Nat) = i) : pz_S κ pc (pz_as i (pc + 1)) := by
  intro φ Q k u L S M h hk E p l e R s m args below meth c H locs ls P C h1 h2 hW hS hl hr
  have hx := C.1
  have hb := C.2.1
  unfold pz_as at h
  split at h
  · next x S' =>
    split at h
    · next L' hq =>
      obtain ⟨hi', lv, hlv, hup⟩ := pz_sto_ok (v := .ref x) hl rfl hq
      exact lv_astore_n hx hb hd hi hlv hi' rfl (fun ls' hl' => hk _ _ _ _ _ h E p l e R s m args below meth c H locs ls' P C h1 h2 hW hS (hup ls' hl') hr)
    · exact h.elim
  · next S' =>
    split at h
    · next L' hq =>
      obtain ⟨hi', lv, hlv, hup⟩ := pz_sto_ok (v := .null) hl rfl hq
      exact lv_astore_nN hx hb hd hi hlv hi' rfl (fun ls' hl' => hk _ _ _ _ _ h E p l e R s m args below meth c H locs ls' P C h1 h2 hW hS (hup ls' hl') hr)
    · exact h.elim
  · exact h.elim
theorem pz_s_astore {κ : pz_K} {pc : Nat} {i : Nat} (hd : decode (pz_cc κ) pc = .ok (.astore i, 2))  : pz_S κ pc (pz_as i (pc + 2)) := by
  intro φ Q k u L S M h hk E p l e R s m args below meth c H locs ls P C h1 h2 hW hS hl hr
  have hx := C.1
  have hb := C.2.1
  unfold pz_as at h
  split at h
  · next x S' =>
    split at h
    · next L' hq =>
      obtain ⟨hi', lv, hlv, hup⟩ := pz_sto_ok (v := .ref x) hl rfl hq
      exact lv_astore hx hb hd  hlv hi' rfl (fun ls' hl' => hk _ _ _ _ _ h E p l e R s m args below meth c H locs ls' P C h1 h2 hW hS (hup ls' hl') hr)
    · exact h.elim
  · next S' =>
    split at h
    · next L' hq =>
      obtain ⟨hi', lv, hlv, hup⟩ := pz_sto_ok (v := .null) hl rfl hq
      exact lv_astoreN hx hb hd  hlv hi' rfl (fun ls' hl' => hk _ _ _ _ _ h E p l e R s m args below meth c H locs ls' P C h1 h2 hW hS (hup ls' hl') hr)
    · exact h.elim
  · exact h.elim
def pz_inc (i : Nat) (z : Int32) (n : Nat) : pz_I := fun Q k u L S M => match pz_nth L i with
  | some (some (.int x)) => match pz_sto L i (.int (x + z)) with
    | some L => k n u L S M
    | none => False
  | _ => False
def pz_iadd (n : Nat) : pz_I := fun Q k u L S M => match S with
  | .int y :: .int x :: S => k n u L (.int (x + y) :: S) M
  | _ => False
theorem pz_s_iadd {κ : pz_K} {pc : Nat}  (hd : decode (pz_cc κ) pc = .ok (.iadd, 1))  : pz_S κ pc (pz_iadd  (pc + 1)) := by
  intro φ Q k u L S M h hk E p l e R s m args below meth c H locs ls P C h1 h2 hW hS hl hr
  have hx := C.1
  have hb := C.2.1
  unfold pz_iadd at h
  split at h
  · next y x S' => exact lv_iadd (x := x) (y := y) hx hb hd (hk _ _ _ _ _ h E p l e R s m args below meth c H locs ls P C h1 h2 hW hS hl hr)
  · exact h.elim
def pz_isub (n : Nat) : pz_I := fun Q k u L S M => match S with
  | .int y :: .int x :: S => k n u L (.int (x - y) :: S) M
  | _ => False
theorem pz_s_isub {κ : pz_K} {pc : Nat}  (hd : decode (pz_cc κ) pc = .ok (.isub, 1))  : pz_S κ pc (pz_isub  (pc + 1)) := by
  intro φ Q k u L S M h hk E p l e R s m args below meth c H locs ls P C h1 h2 hW hS hl hr
  have hx := C.1
  have hb := C.2.1
  unfold pz_isub at h
  split at h
  · next y x S' => exact lv_isub (x := x) (y := y) hx hb hd (hk _ _ _ _ _ h E p l e R s m args below meth c H locs ls P C h1 h2 hW hS hl hr)
  · exact h.elim
def pz_imul (n : Nat) : pz_I := fun Q k u L S M => match S with
  | .int y :: .int x :: S => k n u L (.int (x * y) :: S) M
  | _ => False
theorem pz_s_imul {κ : pz_K} {pc : Nat}  (hd : decode (pz_cc κ) pc = .ok (.imul, 1))  : pz_S κ pc (pz_imul  (pc + 1)) := by
  intro φ Q k u L S M h hk E p l e R s m args below meth c H locs ls P C h1 h2 hW hS hl hr
  have hx := C.1
  have hb := C.2.1
  unfold pz_imul at h
  split at h
  · next y x S' => exact lv_imul (x := x) (y := y) hx hb hd (hk _ _ _ _ _ h E p l e R s m args below meth c H locs ls P C h1 h2 hW hS hl hr)
  · exact h.elim
def pz_iand (n : Nat) : pz_I := fun Q k u L S M => match S with
  | .int y :: .int x :: S => k n u L (.int (x &&& y) :: S) M
  | _ => False
theorem pz_s_iand {κ : pz_K} {pc : Nat}  (hd : decode (pz_cc κ) pc = .ok (.iand, 1))  : pz_S κ pc (pz_iand  (pc + 1)) := by
  intro φ Q k u L S M h hk E p l e R s m args below meth c H locs ls P C h1 h2 hW hS hl hr
  have hx := C.1
  have hb := C.2.1
  unfold pz_iand at h
  split at h
  · next y x S' => exact lv_iand (x := x) (y := y) hx hb hd (hk _ _ _ _ _ h E p l e R s m args below meth c H locs ls P C h1 h2 hW hS hl hr)
  · exact h.elim
def pz_ishl (n : Nat) : pz_I := fun Q k u L S M => match S with
  | .int y :: .int x :: S => k n u L (.int (x <<< (y &&& 31)) :: S) M
  | _ => False
theorem pz_s_ishl {κ : pz_K} {pc : Nat}  (hd : decode (pz_cc κ) pc = .ok (.ishl, 1))  : pz_S κ pc (pz_ishl  (pc + 1)) := by
  intro φ Q k u L S M h hk E p l e R s m args below meth c H locs ls P C h1 h2 hW hS hl hr
  have hx := C.1
  have hb := C.2.1
  unfold pz_ishl at h
  split at h
  · next y x S' => exact lv_ishl (x := x) (y := y) hx hb hd (hk _ _ _ _ _ h E p l e R s m args below meth c H locs ls P C h1 h2 hW hS hl hr)
  · exact h.elim
def pz_ishr (n : Nat) : pz_I := fun Q k u L S M => match S with
  | .int y :: .int x :: S => k n u L (.int (x >>> (y &&& 31)) :: S) M
  | _ => False
theorem pz_s_ishr {κ : pz_K} {pc : Nat}  (hd : decode (pz_cc κ) pc = .ok (.ishr, 1))  : pz_S κ pc (pz_ishr  (pc + 1)) := by
  intro φ Q k u L S M h hk E p l e R s m args below meth c H locs ls P C h1 h2 hW hS hl hr
  have hx := C.1
  have hb := C.2.1
  unfold pz_ishr at h
  split at h
  · next y x S' => exact lv_ishr (x := x) (y := y) hx hb hd (hk _ _ _ _ _ h E p l e R s m args below meth c H locs ls P C h1 h2 hW hS hl hr)
  · exact h.elim
def pz_iushr (n : Nat) : pz_I := fun Q k u L S M => match S with
  | .int y :: .int x :: S => k n u L (.int ((x.toUInt32 >>> (y.toUInt32 &&& Int32.toUInt32 31)).toInt32) :: S) M
  | _ => False
theorem pz_s_iushr {κ : pz_K} {pc : Nat}  (hd : decode (pz_cc κ) pc = .ok (.iushr, 1))  : pz_S κ pc (pz_iushr  (pc + 1)) := by
  intro φ Q k u L S M h hk E p l e R s m args below meth c H locs ls P C h1 h2 hW hS hl hr
  have hx := C.1
  have hb := C.2.1
  unfold pz_iushr at h
  split at h
  · next y x S' => exact lv_iushr (x := x) (y := y) hx hb hd rfl (hk _ _ _ _ _ h E p l e R s m args below meth c H locs ls P C h1 h2 hW hS hl hr)
  · exact h.elim
def pz_idiv (n : Nat) : pz_I := fun Q k u L S M => match S with
  | .int y :: .int x :: S => ¬ y = 0 ∧ k n u L (.int (x / y) :: S) M
  | _ => False
theorem pz_s_idiv {κ : pz_K} {pc : Nat}  (hd : decode (pz_cc κ) pc = .ok (.idiv, 1))  : pz_S κ pc (pz_idiv  (pc + 1)) := by
  intro φ Q k u L S M h hk E p l e R s m args below meth c H locs ls P C h1 h2 hW hS hl hr
  have hx := C.1
  have hb := C.2.1
  unfold pz_idiv at h
  split at h
  · next y x S' => exact lv_idiv (x := x) (y := y) hx hb hd h.1 (hk _ _ _ _ _ h.2 E p l e R s m args below meth c H locs ls P C h1 h2 hW hS hl hr)
  · exact h.elim
def pz_irem (n : Nat) : pz_I := fun Q k u L S M => match S with
  | .int y :: .int x :: S => ¬ y = 0 ∧ k n u L (.int (x - x / y * y) :: S) M
  | _ => False
theorem pz_s_irem {κ : pz_K} {pc : Nat}  (hd : decode (pz_cc κ) pc = .ok (.irem, 1))  : pz_S κ pc (pz_irem  (pc + 1)) := by
  intro φ Q k u L S M h hk E p l e R s m args below meth c H locs ls P C h1 h2 hW hS hl hr
  have hx := C.1
  have hb := C.2.1
  unfold pz_irem at h
  split at h
  · next y x S' => exact lv_irem (x := x) (y := y) hx hb hd h.1 (hk _ _ _ _ _ h.2 E p l e R s m args below meth c H locs ls P C h1 h2 hW hS hl hr)
  · exact h.elim
def pz_ineg (n : Nat) : pz_I := fun Q k u L S M => match S with
  | .int x :: S => k n u L (.int (-x) :: S) M
  | _ => False
theorem pz_s_ineg {κ : pz_K} {pc : Nat}  (hd : decode (pz_cc κ) pc = .ok (.ineg, 1))  : pz_S κ pc (pz_ineg  (pc + 1)) := by
  intro φ Q k u L S M h hk E p l e R s m args below meth c H locs ls P C h1 h2 hW hS hl hr
  have hx := C.1
  have hb := C.2.1
  unfold pz_ineg at h
  split at h
  · next x S' => exact lv_ineg (x := x) hx hb hd (hk _ _ _ _ _ h E p l e R s m args below meth c H locs ls P C h1 h2 hW hS hl hr)
  · exact h.elim
def pz_i2b (n : Nat) : pz_I := fun Q k u L S M => match S with
  | .int x :: S => k n u L (.int (x.toInt8.toInt32) :: S) M
  | _ => False
theorem pz_s_i2b {κ : pz_K} {pc : Nat}  (hd : decode (pz_cc κ) pc = .ok (.i2b, 1))  : pz_S κ pc (pz_i2b  (pc + 1)) := by
  intro φ Q k u L S M h hk E p l e R s m args below meth c H locs ls P C h1 h2 hW hS hl hr
  have hx := C.1
  have hb := C.2.1
  unfold pz_i2b at h
  split at h
  · next x S' => exact lv_i2b (x := x) hx hb hd rfl (hk _ _ _ _ _ h E p l e R s m args below meth c H locs ls P C h1 h2 hW hS hl hr)
  · exact h.elim
def pz_i2s (n : Nat) : pz_I := fun Q k u L S M => match S with
  | .int x :: S => k n u L (.int (x.toInt16.toInt32) :: S) M
  | _ => False
theorem pz_s_i2s {κ : pz_K} {pc : Nat}  (hd : decode (pz_cc κ) pc = .ok (.i2s, 1))  : pz_S κ pc (pz_i2s  (pc + 1)) := by
  intro φ Q k u L S M h hk E p l e R s m args below meth c H locs ls P C h1 h2 hW hS hl hr
  have hx := C.1
  have hb := C.2.1
  unfold pz_i2s at h
  split at h
  · next x S' => exact lv_i2s (x := x) hx hb hd rfl (hk _ _ _ _ _ h E p l e R s m args below meth c H locs ls P C h1 h2 hW hS hl hr)
  · exact h.elim
def pz_i2c (n : Nat) : pz_I := fun Q k u L S M => match S with
  | .int x :: S => k n u L (.int ((x.toUInt32 % 65536).toInt32) :: S) M
  | _ => False
theorem pz_s_i2c {κ : pz_K} {pc : Nat}  (hd : decode (pz_cc κ) pc = .ok (.i2c, 1))  : pz_S κ pc (pz_i2c  (pc + 1)) := by
  intro φ Q k u L S M h hk E p l e R s m args below meth c H locs ls P C h1 h2 hW hS hl hr
  have hx := C.1
  have hb := C.2.1
  unfold pz_i2c at h
  split at h
  · next x S' => exact lv_i2c (x := x) hx hb hd rfl (hk _ _ _ _ _ h E p l e R s m args below meth c H locs ls P C h1 h2 hW hS hl hr)
  · exact h.elim
def pz_i2l (n : Nat) : pz_I := fun Q k u L S M => match S with
  | .int x :: S => k n u L (.long x.toInt64 :: S) M
  | _ => False
theorem pz_s_i2l {κ : pz_K} {pc : Nat}  (hd : decode (pz_cc κ) pc = .ok (.i2l, 1))  : pz_S κ pc (pz_i2l  (pc + 1)) := by
  intro φ Q k u L S M h hk E p l e R s m args below meth c H locs ls P C h1 h2 hW hS hl hr
  have hx := C.1
  have hb := C.2.1
  unfold pz_i2l at h
  split at h
  · next x S' => exact lv_i2l (x := x) hx hb hd rfl (hk _ _ _ _ _ h E p l e R s m args below meth c H locs ls P C h1 h2 hW hS hl hr)
  · exact h.elim
def pz_ladd (n : Nat) : pz_I := fun Q k u L S M => match S with
  | .long y :: .long x :: S => k n u L (.long (x + y) :: S) M
  | _ => False
theorem pz_s_ladd {κ : pz_K} {pc : Nat}  (hd : decode (pz_cc κ) pc = .ok (.ladd, 1))  : pz_S κ pc (pz_ladd  (pc + 1)) := by
  intro φ Q k u L S M h hk E p l e R s m args below meth c H locs ls P C h1 h2 hW hS hl hr
  have hx := C.1
  have hb := C.2.1
  unfold pz_ladd at h
  split at h
  · next y x S' => exact lv_ladd (x := x) (y := y) hx hb hd (hk _ _ _ _ _ h E p l e R s m args below meth c H locs ls P C h1 h2 hW hS hl hr)
  · exact h.elim
def pz_lcmp (n : Nat) : pz_I := fun Q k u L S M => match S with
  | .long y :: .long x :: S => k n u L (.int (lg_cmp x y) :: S) M
  | _ => False
theorem pz_s_lcmp {κ : pz_K} {pc : Nat}  (hd : decode (pz_cc κ) pc = .ok (.lcmp, 1))  : pz_S κ pc (pz_lcmp  (pc + 1)) := by
  intro φ Q k u L S M h hk E p l e R s m args below meth c H locs ls P C h1 h2 hW hS hl hr
  have hx := C.1
  have hb := C.2.1
  unfold pz_lcmp at h
  split at h
  · next y x S' => exact W.lcmp (x := x) (y := y) hx hb hd (hk _ _ _ _ _ h E p l e R s m args below meth c H locs ls P C h1 h2 hW hS hl hr)
  · exact h.elim
def pz_dup (n : Nat) : pz_I := fun Q k u L S M => match S with
  | .int x :: S => k n u L (.int x :: .int x :: S) M
  | .ref x :: S => k n u L (.ref x :: .ref x :: S) M
  | _ => False
theorem pz_s_dup {κ : pz_K} {pc : Nat}  (hd : decode (pz_cc κ) pc = .ok (.dup, 1))  : pz_S κ pc (pz_dup  (pc + 1)) := by
  intro φ Q k u L S M h hk E p l e R s m args below meth c H locs ls P C h1 h2 hW hS hl hr
  have hx := C.1
  have hb := C.2.1
  unfold pz_dup at h
  split at h
  · next x S' => exact lv_dup (va := .int x) hx hb hd rfl (hk _ _ _ _ _ h E p l e R s m args below meth c H locs ls P C h1 h2 hW hS hl hr)
  · next x S' => exact lv_dup (va := .ref (pz_x E x)) hx hb hd rfl (hk _ _ _ _ _ h E p l e R s m args below meth c H locs ls P C h1 h2 hW hS hl hr)
  · exact h.elim
def pz_dup2 (n : Nat) : pz_I := fun Q k u L S M => match S with
  | .int y :: .ref x :: S => k n u L (.int y :: .ref x :: .int y :: .ref x :: S) M
  | _ => False
theorem pz_s_dup2 {κ : pz_K} {pc : Nat}  (hd : decode (pz_cc κ) pc = .ok (.dup2, 1))  : pz_S κ pc (pz_dup2  (pc + 1)) := by
  intro φ Q k u L S M h hk E p l e R s m args below meth c H locs ls P C h1 h2 hW hS hl hr
  have hx := C.1
  have hb := C.2.1
  unfold pz_dup2 at h
  split at h
  · next y x S' => exact lv_dup2_11 (va := .int y) (vb := .ref (pz_x E x)) hx hb hd rfl rfl (hk _ _ _ _ _ h E p l e R s m args below meth c H locs ls P C h1 h2 hW hS hl hr)
  · exact h.elim
def pz_pop (n : Nat) : pz_I := fun Q k u L S M => match S with
  | .int _ :: S => k n u L S M
  | .ref _ :: S => k n u L S M
  | _ => False
theorem pz_s_pop {κ : pz_K} {pc : Nat}  (hd : decode (pz_cc κ) pc = .ok (.pop, 1))  : pz_S κ pc (pz_pop  (pc + 1)) := by
  intro φ Q k u L S M h hk E p l e R s m args below meth c H locs ls P C h1 h2 hW hS hl hr
  have hx := C.1
  have hb := C.2.1
  unfold pz_pop at h
  split at h
  · next x S' => exact lv_pop (va := .int x) hx hb hd rfl (hk _ _ _ _ _ h E p l e R s m args below meth c H locs ls P C h1 h2 hW hS hl hr)
  · next x S' => exact lv_pop (va := .ref (pz_x E x)) hx hb hd rfl (hk _ _ _ _ _ h E p l e R s m args below meth c H locs ls P C h1 h2 hW hS hl hr)
  · exact h.elim
def pz_goto (t n : Nat) : pz_I := fun Q k u L S M => k t u L S M
theorem pz_s_goto {κ : pz_K} {pc tgt : Nat} {off : Int}  (hd : decode (pz_cc κ) pc = .ok (.goto off, 3)) (ht : (pc : Int) + off = (tgt : Int)) : pz_S κ pc (pz_goto  tgt (pc + 3)) := by
  intro φ Q k u L S M h hk E p l e R s m args below meth c H locs ls P C h1 h2 hW hS hl hr
  have hx := C.1
  have hb := C.2.1
  exact lv_goto hx hb hd ht (hk _ _ _ _ _ h E p l e R s m args below meth c H locs ls P C h1 h2 hW hS hl hr)
def pz_ifeq (t n : Nat) : pz_I := fun Q k u L S M => match S with
  | .int x :: S => (x = 0 → k t u L S M) ∧ (¬ x = 0 → k n u L S M)
  | _ => False
theorem pz_s_if_eq {κ : pz_K} {pc tgt : Nat} {off : Int}  (hd : decode (pz_cc κ) pc = .ok (.ifCond .eq off, 3)) (ht : (pc : Int) + off = (tgt : Int)) : pz_S κ pc (pz_ifeq  tgt (pc + 3)) := by
  intro φ Q k u L S M h hk E p l e R s m args below meth c H locs ls P C h1 h2 hW hS hl hr
  have hx := C.1
  have hb := C.2.1
  unfold pz_ifeq at h
  split at h
  · next x S' => exact lv_if_eq (x := x) hx hb hd ht (fun q => hk _ _ _ _ _ (h.1 q) E p l e R s m args below meth c H locs ls P C h1 h2 hW hS hl hr) (fun q => hk _ _ _ _ _ (h.2 q) E p l e R s m args below meth c H locs ls P C h1 h2 hW hS hl hr)
  · exact h.elim
def pz_ifne (t n : Nat) : pz_I := fun Q k u L S M => match S with
  | .int x :: S => (¬ x = 0 → k t u L S M) ∧ (x = 0 → k n u L S M)
  | _ => False
theorem pz_s_if_ne {κ : pz_K} {pc tgt : Nat} {off : Int}  (hd : decode (pz_cc κ) pc = .ok (.ifCond .ne off, 3)) (ht : (pc : Int) + off = (tgt : Int)) : pz_S κ pc (pz_ifne  tgt (pc + 3)) := by
  intro φ Q k u L S M h hk E p l e R s m args below meth c H locs ls P C h1 h2 hW hS hl hr
  have hx := C.1
  have hb := C.2.1
  unfold pz_ifne at h
  split at h
  · next x S' => exact lv_if_ne (x := x) hx hb hd ht (fun q => hk _ _ _ _ _ (h.1 q) E p l e R s m args below meth c H locs ls P C h1 h2 hW hS hl hr) (fun q => hk _ _ _ _ _ (h.2 q) E p l e R s m args below meth c H locs ls P C h1 h2 hW hS hl hr)
  · exact h.elim
def pz_iflt (t n : Nat) : pz_I := fun Q k u L S M => match S with
  | .int x :: S => (x < 0 → k t u L S M) ∧ (¬ x < 0 → k n u L S M)
  | _ => False
theorem pz_s_if_lt {κ : pz_K} {pc tgt : Nat} {off : Int}  (hd : decode (pz_cc κ) pc = .ok (.ifCond .lt off, 3)) (ht : (pc : Int) + off = (tgt : Int)) : pz_S κ pc (pz_iflt  tgt (pc + 3)) := by
  intro φ Q k u L S M h hk E p l e R s m args below meth c H locs ls P C h1 h2 hW hS hl hr
  have hx := C.1
  have hb := C.2.1
  unfold pz_iflt at h
  split at h
  · next x S' => exact lv_if_lt (x := x) hx hb hd ht (fun q => hk _ _ _ _ _ (h.1 q) E p l e R s m args below meth c H locs ls P C h1 h2 hW hS hl hr) (fun q => hk _ _ _ _ _ (h.2 q) E p l e R s m args below meth c H locs ls P C h1 h2 hW hS hl hr)
  · exact h.elim
def pz_ifge (t n : Nat) : pz_I := fun Q k u L S M => match S with
  | .int x :: S => (0 ≤ x → k t u L S M) ∧ (¬ 0 ≤ x → k n u L S M)
  | _ => False
theorem pz_s_if_ge {κ : pz_K} {pc tgt : Nat} {off : Int}  (hd : decode (pz_cc κ) pc = .ok (.ifCond .ge off, 3)) (ht : (pc : Int) + off = (tgt : Int)) : pz_S κ pc (pz_ifge  tgt (pc + 3)) := by
  intro φ Q k u L S M h hk E p l e R s m args below meth c H locs ls P C h1 h2 hW hS hl hr
  have hx := C.1
  have hb := C.2.1
  unfold pz_ifge at h
  split at h
  · next x S' => exact lv_if_ge (x := x) hx hb hd ht (fun q => hk _ _ _ _ _ (h.1 q) E p l e R s m args below meth c H locs ls P C h1 h2 hW hS hl hr) (fun q => hk _ _ _ _ _ (h.2 q) E p l e R s m args below meth c H locs ls P C h1 h2 hW hS hl hr)
  · exact h.elim
def pz_ifgt (t n : Nat) : pz_I := fun Q k u L S M => match S with
  | .int x :: S => (0 < x → k t u L S M) ∧ (¬ 0 < x → k n u L S M)
  | _ => False
theorem pz_s_if_gt {κ : pz_K} {pc tgt : Nat} {off : Int}  (hd : decode (pz_cc κ) pc = .ok (.ifCond .gt off, 3)) (ht : (pc : Int) + off = (tgt : Int)) : pz_S κ pc (pz_ifgt  tgt (pc + 3)) := by
  intro φ Q k u L S M h hk E p l e R s m args below meth c H locs ls P C h1 h2 hW hS hl hr
  have hx := C.1
  have hb := C.2.1
  unfold pz_ifgt at h
  split at h
  · next x S' => exact lv_if_gt (x := x) hx hb hd ht (fun q => hk _ _ _ _ _ (h.1 q) E p l e R s m args below meth c H locs ls P C h1 h2 hW hS hl hr) (fun q => hk _ _ _ _ _ (h.2 q) E p l e R s m args below meth c H locs ls P C h1 h2 hW hS hl hr)
  · exact h.elim
def pz_ifle (t n : Nat) : pz_I := fun Q k u L S M => match S with
  | .int x :: S => (x ≤ 0 → k t u L S M) ∧ (¬ x ≤ 0 → k n u L S M)
  | _ => False
theorem pz_s_if_le {κ : pz_K} {pc tgt : Nat} {off : Int}  (hd : decode (pz_cc κ) pc = .ok (.ifCond .le off, 3)) (ht : (pc : Int) + off = (tgt : Int)) : pz_S κ pc (pz_ifle  tgt (pc + 3)) := by
  intro φ Q k u L S M h hk E p l e R s m args below meth c H locs ls P C h1 h2 hW hS hl hr
  have hx := C.1
  have hb := C.2.1
  unfold pz_ifle at h
  split at h
  · next x S' => exact lv_if_le (x := x) hx hb hd ht (fun q => hk _ _ _ _ _ (h.1 q) E p l e R s m args below meth c H locs ls P C h1 h2 hW hS hl hr) (fun q => hk _ _ _ _ _ (h.2 q) E p l e R s m args below meth c H locs ls P C h1 h2 hW hS hl hr)
  · exact h.elim
def pz_iceq (t n : Nat) : pz_I := fun Q k u L S M => match S with
  | .int y :: .int x :: S => (x = y → k t u L S M) ∧ (¬ x = y → k n u L S M)
  | _ => False
theorem pz_s_icmp_eq {κ : pz_K} {pc tgt : Nat} {off : Int}  (hd : decode (pz_cc κ) pc = .ok (.if_icmp .eq off, 3)) (ht : (pc : Int) + off = (tgt : Int)) : pz_S κ pc (pz_iceq  tgt (pc + 3)) := by
  intro φ Q k u L S M h hk E p l e R s m args below meth c H locs ls P C h1 h2 hW hS hl hr
  have hx := C.1
  have hb := C.2.1
  unfold pz_iceq at h
  split at h
  · next y x S' => exact lv_icmp_eq (x := x) (y := y) hx hb hd ht (fun q => hk _ _ _ _ _ (h.1 q) E p l e R s m args below meth c H locs ls P C h1 h2 hW hS hl hr) (fun q => hk _ _ _ _ _ (h.2 q) E p l e R s m args below meth c H locs ls P C h1 h2 hW hS hl hr)
  · exact h.elim
def pz_icne (t n : Nat) : pz_I := fun Q k u L S M => match S with
  | .int y :: .int x :: S => (¬ x = y → k t u L S M) ∧ (x = y → k n u L S M)
  | _ => False
theorem pz_s_icmp_ne {κ : pz_K} {pc tgt : Nat} {off : Int}  (hd : decode (pz_cc κ) pc = .ok (.if_icmp .ne off, 3)) (ht : (pc : Int) + off = (tgt : Int)) : pz_S κ pc (pz_icne  tgt (pc + 3)) := by
  intro φ Q k u L S M h hk E p l e R s m args below meth c H locs ls P C h1 h2 hW hS hl hr
  have hx := C.1
  have hb := C.2.1
  unfold pz_icne at h
  split at h
  · next y x S' => exact lv_icmp_ne (x := x) (y := y) hx hb hd ht (fun q => hk _ _ _ _ _ (h.1 q) E p l e R s m args below meth c H locs ls P C h1 h2 hW hS hl hr) (fun q => hk _ _ _ _ _ (h.2 q) E p l e R s m args below meth c H locs ls P C h1 h2 hW hS hl hr)
  · exact h.elim
def pz_iclt (t n : Nat) : pz_I := fun Q k u L S M => match S with
  | .int y :: .int x :: S => (x < y → k t u L S M) ∧ (¬ x < y → k n u L S M)
  | _ => False
theorem pz_s_icmp_lt {κ : pz_K} {pc tgt : Nat} {off : Int}  (hd : decode (pz_cc κ) pc = .ok (.if_icmp .lt off, 3)) (ht : (pc : Int) + off = (tgt : Int)) : pz_S κ pc (pz_iclt  tgt (pc + 3)) := by
  intro φ Q k u L S M h hk E p l e R s m args below meth c H locs ls P C h1 h2 hW hS hl hr
  have hx := C.1
  have hb := C.2.1
  unfold pz_iclt at h
  split at h
  · next y x S' => exact lv_icmp_lt (x := x) (y := y) hx hb hd ht (fun q => hk _ _ _ _ _ (h.1 q) E p l e R s m args below meth c H locs ls P C h1 h2 hW hS hl hr) (fun q => hk _ _ _ _ _ (h.2 q) E p l e R s m args below meth c H locs ls P C h1 h2 hW hS hl hr)
  · exact h.elim
def pz_icge (t n : Nat) : pz_I := fun Q k u L S M => match S with
  | .int y :: .int x :: S => (y ≤ x → k t u L S M) ∧ (¬ y ≤ x → k n u L S M)
  | _ => False
theorem pz_s_icmp_ge {κ : pz_K} {pc tgt : Nat} {off : Int}  (hd : decode (pz_cc κ) pc = .ok (.if_icmp .ge off, 3)) (ht : (pc : Int) + off = (tgt : Int)) : pz_S κ pc (pz_icge  tgt (pc + 3)) := by
  intro φ Q k u L S M h hk E p l e R s m args below meth c H locs ls P C h1 h2 hW hS hl hr
  have hx := C.1
  have hb := C.2.1
  unfold pz_icge at h
  split at h
  · next y x S' => exact lv_icmp_ge (x := x) (y := y) hx hb hd ht (fun q => hk _ _ _ _ _ (h.1 q) E p l e R s m args below meth c H locs ls P C h1 h2 hW hS hl hr) (fun q => hk _ _ _ _ _ (h.2 q) E p l e R s m args below meth c H locs ls P C h1 h2 hW hS hl hr)
  · exact h.elim
def pz_icgt (t n : Nat) : pz_I := fun Q k u L S M => match S with
  | .int y :: .int x :: S => (y < x → k t u L S M) ∧ (¬ y < x → k n u L S M)
  | _ => False
theorem pz_s_icmp_gt {κ : pz_K} {pc tgt : Nat} {off : Int}  (hd : decode (pz_cc κ) pc = .ok (.if_icmp .gt off, 3)) (ht : (pc : Int) + off = (tgt : Int)) : pz_S κ pc (pz_icgt  tgt (pc + 3)) := by
  intro φ Q k u L S M h hk E p l e R s m args below meth c H locs ls P C h1 h2 hW hS hl hr
  have hx := C.1
  have hb := C.2.1
  unfold pz_icgt at h
  split at h
  · next y x S' => exact lv_icmp_gt (x := x) (y := y) hx hb hd ht (fun q => hk _ _ _ _ _ (h.1 q) E p l e R s m args below meth c H locs ls P C h1 h2 hW hS hl hr) (fun q => hk _ _ _ _ _ (h.2 q) E p l e R s m args below meth c H locs ls P C h1 h2 hW hS hl hr)
  · exact h.elim
def pz_icle (t n : Nat) : pz_I := fun Q k u L S M => match S with
  | .int y :: .int x :: S => (x ≤ y → k t u L S M) ∧ (¬ x ≤ y → k n u L S M)
  | _ => False
theorem pz_s_icmp_le {κ : pz_K} {pc tgt : Nat} {off : Int}  (hd : decode (pz_cc κ) pc = .ok (.if_icmp .le off, 3)) (ht : (pc : Int) + off = (tgt : Int)) : pz_S κ pc (pz_icle  tgt (pc + 3)) := by
  intro φ Q k u L S M h hk E p l e R s m args below meth c H locs ls P C h1 h2 hW hS hl hr
  have hx := C.1
  have hb := C.2.1
  unfold pz_icle at h
  split at h
  · next y x S' => exact lv_icmp_le (x := x) (y := y) hx hb hd ht (fun q => hk _ _ _ _ _ (h.1 q) E p l e R s m args below meth c H locs ls P C h1 h2 hW hS hl hr) (fun q => hk _ _ _ _ _ (h.2 q) E p l e R s m args below meth c H locs ls P C h1 h2 hW hS hl hr)
  · exact h.elim
def pz_ifnull (t n : Nat) : pz_I := fun Q k u L S M => match S with
  | .ref _ :: S => k n u L S M
  | .null :: S => k t u L S M
  | _ => False
theorem pz_s_ifnull {κ : pz_K} {pc tgt : Nat} {off : Int}  (hd : decode (pz_cc κ) pc = .ok (.ifnull off, 3)) (ht : (pc : Int) + off = (tgt : Int)) : pz_S κ pc (pz_ifnull  tgt (pc + 3)) := by
  intro φ Q k u L S M h hk E p l e R s m args below meth c H locs ls P C h1 h2 hW hS hl hr
  have hx := C.1
  have hb := C.2.1
  unfold pz_ifnull at h
  split at h
  · next x S' => exact lv_ifnull (x := pz_x E x) hx hb hd (hk _ _ _ _ _ h E p l e R s m args below meth c H locs ls P C h1 h2 hW hS hl hr)
  · next S' => exact lv_ifnullN hx hb hd ht (hk _ _ _ _ _ h E p l e R s m args below meth c H locs ls P C h1 h2 hW hS hl hr)
  · exact h.elim
def pz_ifnn (t n : Nat) : pz_I := fun Q k u L S M => match S with
  | .ref _ :: S => k t u L S M
  | .null :: S => k n u L S M
  | _ => False
theorem pz_s_ifnn {κ : pz_K} {pc tgt : Nat} {off : Int}  (hd : decode (pz_cc κ) pc = .ok (.ifnonnull off, 3)) (ht : (pc : Int) + off = (tgt : Int)) : pz_S κ pc (pz_ifnn  tgt (pc + 3)) := by
  intro φ Q k u L S M h hk E p l e R s m args below meth c H locs ls P C h1 h2 hW hS hl hr
  have hx := C.1
  have hb := C.2.1
  unfold pz_ifnn at h
  split at h
  · next x S' => exact lv_ifnonnull (x := pz_x E x) hx hb hd ht (hk _ _ _ _ _ h E p l e R s m args below meth c H locs ls P C h1 h2 hW hS hl hr)
  · next S' => exact lv_ifnonnullN hx hb hd (hk _ _ _ _ _ h E p l e R s m args below meth c H locs ls P C h1 h2 hW hS hl hr)
  · exact h.elim
theorem pz_s_iinc {κ : pz_K} {pc : Nat} {i : Nat} {a : Int} {z : Int32} (hd : decode (pz_cc κ) pc = .ok (.iinc i a, 3)) (hz : Int32.ofInt a = z) : pz_S κ pc (pz_inc i z (pc + 3)) := by
  intro φ Q k u L S M h hk E p l e R s m args below meth c H locs ls P C h1 h2 hW hS hl hr
  have hx := C.1
  have hb := C.2.1
  unfold pz_inc at h
  split at h
  · next x hq =>
    split at h
    · next L' hq' =>
      obtain ⟨hi', lv, hlv, hup⟩ := pz_sto_ok (v := .int (x + z)) hl rfl hq'
      intro T hT X
      obtain ⟨ls', e', hls'⟩ := lv_store1 (v := .int (x + z)) hlv hi' rfl
      have hg := hl.int hq
      obtain ⟨t, a, b⟩ := hk _ _ _ _ _ h E p l e R s m args below meth c H locs ls' P C h1 h2 hW hS (hup ls' hls') hr T hT X
      refine ⟨t, ?_, b⟩
      subst hz
      have hg : ls[i]? = some (.val (.int x)) := hg
      jvm_step X.here [X.here.top, ↓top_set X.here.top, hx, hb, hd, hg, e']
      exact a
    · exact h.elim
  · exact h.elim
def pz_ret  : pz_I := fun Q k u L S M => match S with
  | [.int x] => Q (some (.int x)) M
  | _ => False
theorem pz_s_ireturn {κ : pz_K} {pc : Nat} (hd : decode (pz_cc κ) pc = .ok (.ireturn, 1)) (ht : pz_rt κ = some .int) : pz_S κ pc pz_ret := by
  intro φ Q k u L S M h hk E p l e R s m args below meth c H locs ls P C h1 h2 hW hS hl hr
  have hx := C.1
  have hb := C.2.1
  unfold pz_ret at h
  split at h
  · next x => exact W.widen h1 h2 (hr pc H locs ls M (some (.int x)) .ireturn hd ⟨.int, ht, rfl⟩ h hW hS)
  · exact h.elim
def pz_zret  : pz_I := fun Q k u L S M => match S with
  | [.int x] => (x = 0 ∨ x = 1) ∧ Q (some (.int x)) M
  | _ => False
theorem pz_s_zreturn {κ : pz_K} {pc : Nat} (hd : decode (pz_cc κ) pc = .ok (.ireturn, 1)) (ht : pz_rt κ = some .boolean) : pz_S κ pc pz_zret := by
  intro φ Q k u L S M h hk E p l e R s m args below meth c H locs ls P C h1 h2 hW hS hl hr
  have hx := C.1
  have hb := C.2.1
  unfold pz_zret at h
  split at h
  · next x => exact W.widen h1 h2 (hr pc H locs ls M (some (.int x)) .ireturn hd ⟨.boolean, ht, by rcases h.1 with rfl | rfl <;> decide⟩ h.2 hW hS)
  · exact h.elim
def pz_nret (ty : FieldType) : pz_I := fun Q k u L S M => match S with
  | [.int x] => narrow ty (.int x) = .int x ∧ Q (some (.int x)) M
  | _ => False
theorem pz_s_nreturn {κ : pz_K} {pc : Nat} {ty : FieldType} (hd : decode (pz_cc κ) pc = .ok (.ireturn, 1)) (ht : pz_rt κ = some ty) : pz_S κ pc (pz_nret ty) := by
  intro φ Q k u L S M h hk E p l e R s m args below meth c H locs ls P C h1 h2 hW hS hl hr
  have hx := C.1
  have hb := C.2.1
  unfold pz_nret at h
  split at h
  · next x => exact W.widen h1 h2 (hr pc H locs ls M (some (.int x)) .ireturn hd ⟨ty, ht, h.1⟩ h.2 hW hS)
  · exact h.elim
def pz_aret  : pz_I := fun Q k u L S M => match S with
  | [.ref x] => Q (some (.ref x)) M
  | [.null] => Q (some .null) M
  | _ => False
theorem pz_s_areturn {κ : pz_K} {pc : Nat} (hd : decode (pz_cc κ) pc = .ok (.areturn, 1)) (ht : (∃ n, pz_rt κ = some (.object n)) ∨ ∃ t, pz_rt κ = some (.array t)) : pz_S κ pc pz_aret := by
  intro φ Q k u L S M h hk E p l e R s m args below meth c H locs ls P C h1 h2 hW hS hl hr
  have hx := C.1
  have hb := C.2.1
  unfold pz_aret at h
  split at h
  · next x => exact W.widen h1 h2 (hr pc H locs ls M (some (.ref x)) .areturn hd ht h hW hS)
  · exact W.widen h1 h2 (hr pc H locs ls M (some .null) .areturn hd ht h hW hS)
  · exact h.elim
def pz_vret  : pz_I := fun Q k u L S M => match S with
  | [] => Q none M
  | _ => False
theorem pz_s_vreturn {κ : pz_K} {pc : Nat} (hd : decode (pz_cc κ) pc = .ok (.return_, 1)) (ht : pz_rt κ = none) : pz_S κ pc pz_vret := by
  intro φ Q k u L S M h hk E p l e R s m args below meth c H locs ls P C h1 h2 hW hS hl hr
  have hx := C.1
  have hb := C.2.1
  unfold pz_vret at h
  split at h
  · exact W.widen h1 h2 (hr pc H locs ls M none .return_ hd ht h hW hS)
  · exact h.elim
