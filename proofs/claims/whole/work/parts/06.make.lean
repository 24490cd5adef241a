def pz_cat : List Value → Nat
  | [] => 0
  | v :: S => v.category + pz_cat S
theorem pz_cat_eq : ∀ S : List Value, pz_cat S = (S.map fun v => v.category).sum
  | [] => rfl
  | v :: S => by rw [pz_cat, pz_cat_eq S, List.map_cons, List.sum_cons]
theorem pz_cat_le {E : pz_V} {S : List Value} (h : Nat.ble (pz_cat S) 8 = true) : ((S.map (pz_v E)).map fun v => v.category).sum ≤ 8 := by
  rw [pz_cats, ← pz_cat_eq]; exact Nat.le_of_ble_eq_true h
theorem pz_x_out {E : pz_V} {i : Nat} (h : ¬ i < 1000000) : pz_x E i = E.2.2.2 i := if_neg h
theorem pz_W.next {E : pz_V} {M : pz_M} {H : Heap} (h : pz_W E M H) (hM : M.length < 1000000) : pz_x E M.length = H.size := by unfold pz_x; rw [if_pos hM, h.1]
def pz_new (mc ms ci N : Nat) (fs : List Value) (n : Nat) : pz_I := fun Q k u L S M => u.1 + 1 ≤ mc ∧ u.2 + N ≤ ms ∧ M.length < 1000000 ∧ k n (u.1 + 1, u.2 + N) L (.ref M.length :: S) (M ++ [.inr (.inr (ci, fs))])
theorem pz_s_new {κ : pz_K} {pc i ci : Nat} {q0 : vw_C} {fs : List Value} (hd : decode (pz_cc κ) pc = .ok (.new i, 3)) (hc0 : pz_cls[ci]? = some q0) (ty : Nat → FieldType) (hty : ∀ k, k < q0.2.2 → parseFieldDescriptor (q0.2.1 k).2.2.1 = some (ty k)) (hfs : ∀ j, j < q0.2.2 → defaultValue (ty j) = vp_V fs j) (hfv : ∀ E : pz_V, fs.map (pz_v E) = fs) (hw1 : Cond.classLink (pz_own κ) i q0.1 ∈ pz_TB) (hw2 : Cond.instantiable q0.1 q0.2.2 ∈ pz_TB) (hw3 : Cond.initialized q0.1 ∈ pz_TB) : pz_S κ pc (pz_new (pz_mc κ) (pz_ms κ) ci q0.2.2 fs (pc + 3)) := by
  intro φ Q k u L S M h hk E p l e R s m args below meth c H locs ls P C h1 h2 hW hS hl hr
  have hx := C.1
  have hb := C.2.1
  have hml := C.2.2.1
  have hown := C.2.2.2.1
  have hts := C.2.2.2.2.1
  have hfr := C.2.2.2.2.2.2.1
  have hlo := C.2.2.2.2.2.2.2.1
  have hmc := C.2.2.2.2.2.2.2.2.1
  have hms := C.2.2.2.2.2.2.2.2.2.1
  have hK := C.2.2.2.2.2.2.2.2.2.2.1
  have hG := C.2.2.2.2.2.2.2.2.2.2.2.1
  have hB := C.2.2.2.2.2.2.2.2.2.2.2.2.1
  obtain ⟨a1, a2, a3, h⟩ := h
  have hKn := hK.1 ci _ hc0
  refine W.newcK hx hb hown (hts _ hw1) (hts _ hw2) (hts _ hw3) rfl hd (by rw [hmc]; exact a1) (by rw [hms]; exact a2) hKn.2.1 rfl fun H1 kC hkC e1 z1 o1 => ?_
  have hk' := hk _ _ _ _ _ h E p l e R s m args below meth c H1 locs ls P C a1 a2 (hW.push a3 z1 o1 ?_) (pz_push (M := M) hS z1 o1) hl hr
  · rw [List.map_cons, show pz_v E (.ref M.length) = .ref H.size by show Value.ref (pz_x E M.length) = _; rw [hW.next a3]] at hk'
    exact hk'
  · refine ⟨q0, hc0, ?_⟩
    show t_OB H.size (E.1.1 ci) q0.2.2 (E.1.2 ci) H1 (vp_V (fs.map (pz_v E)))
    rw [hfv]
    exact (u_born ty hts (pz_cok_all ci q0 hc0).1 hKn hkC e1 hty).to hfs
def pz_newa (mc ms t N : Nat) (n : Nat) : pz_I := fun Q k u L S M => match S with
  | .int z :: S => z = nI N ∧ u.1 + 1 ≤ mc ∧ u.2 + N ≤ ms ∧ M.length < 1000000 ∧ k n (u.1 + 1, u.2 + N) L (.ref M.length :: S) (M ++ [.inl (t, N, fun _ => 0)])
  | _ => False
theorem pz_s_newi {κ : pz_K} {pc N : Nat} (hd : decode (pz_cc κ) pc = .ok (.newarray .int, 2)) (hN : N < 65536) (hw : Cond.arrayClass .int ∈ pz_TB) : pz_S κ pc (pz_newa (pz_mc κ) (pz_ms κ) 0 N (pc + 2)) := by
  intro φ Q k u L S M h hk E p l e R s m args below meth c H locs ls P C h1 h2 hW hS hl hr
  have hx := C.1
  have hb := C.2.1
  have hml := C.2.2.1
  have hown := C.2.2.2.1
  have hts := C.2.2.2.2.1
  have hfr := C.2.2.2.2.2.2.1
  have hlo := C.2.2.2.2.2.2.2.1
  have hmc := C.2.2.2.2.2.2.2.2.1
  have hms := C.2.2.2.2.2.2.2.2.2.1
  have hK := C.2.2.2.2.2.2.2.2.2.2.1
  have hG := C.2.2.2.2.2.2.2.2.2.2.2.1
  have hB := C.2.2.2.2.2.2.2.2.2.2.2.2.1
  unfold pz_newa at h
  split at h
  · next z S' =>
    obtain ⟨a0, a1, a2, a3, h⟩ := h
    subst a0
    refine va_newaK (atype := .int) (N := N) hx hb (hts _ hw) rfl hd rfl (nI_pos (by omega)) (nI_clamp (by omega)) (by show N * componentBytes .int ≤ _; simp only [componentBytes]; omega) (by rw [hmc]; exact a1) (by rw [hms]; exact a2) rfl fun H1 cA e1 z1 o1 hAr hNm => ?_
    have hcA : cA = E.2.1 0 := Option.some.inj (hNm.symm.trans (hK.2 0 _ rfl).2)
    subst hcA
    have hk' := hk _ _ _ _ _ h E p l e R s m args below meth c H1 locs ls P C a1 a2 (hW.push a3 z1 o1 ?_) (pz_push (M := M) hS z1 o1) hl hr
    · rw [List.map_cons, show pz_v E (.ref M.length) = .ref H.size by show Value.ref (pz_x E M.length) = _; rw [hW.next a3]] at hk'
      exact hk'
    · exact e1
  · exact h.elim
theorem pz_s_newb {κ : pz_K} {pc N : Nat} (hd : decode (pz_cc κ) pc = .ok (.newarray .byte, 2)) (hN : N < 65536) (hw : Cond.arrayClass .byte ∈ pz_TB) : pz_S κ pc (pz_newa (pz_mc κ) (pz_ms κ) 1 N (pc + 2)) := by
  intro φ Q k u L S M h hk E p l e R s m args below meth c H locs ls P C h1 h2 hW hS hl hr
  have hx := C.1
  have hb := C.2.1
  have hml := C.2.2.1
  have hown := C.2.2.2.1
  have hts := C.2.2.2.2.1
  have hfr := C.2.2.2.2.2.2.1
  have hlo := C.2.2.2.2.2.2.2.1
  have hmc := C.2.2.2.2.2.2.2.2.1
  have hms := C.2.2.2.2.2.2.2.2.2.1
  have hK := C.2.2.2.2.2.2.2.2.2.2.1
  have hG := C.2.2.2.2.2.2.2.2.2.2.2.1
  have hB := C.2.2.2.2.2.2.2.2.2.2.2.2.1
  unfold pz_newa at h
  split at h
  · next z S' =>
    obtain ⟨a0, a1, a2, a3, h⟩ := h
    subst a0
    refine va_newaK (atype := .byte) (N := N) hx hb (hts _ hw) rfl hd rfl (nI_pos (by omega)) (nI_clamp (by omega)) (by show N * componentBytes .byte ≤ _; simp only [componentBytes]; omega) (by rw [hmc]; exact a1) (by rw [hms]; exact a2) rfl fun H1 cA e1 z1 o1 hAr hNm => ?_
    have hcA : cA = E.2.1 1 := Option.some.inj (hNm.symm.trans (hK.2 1 _ rfl).2)
    subst hcA
    have hk' := hk _ _ _ _ _ h E p l e R s m args below meth c H1 locs ls P C a1 a2 (hW.push a3 z1 o1 ?_) (pz_push (M := M) hS z1 o1) hl hr
    · rw [List.map_cons, show pz_v E (.ref M.length) = .ref H.size by show Value.ref (pz_x E M.length) = _; rw [hW.next a3]] at hk'
      exact hk'
    · exact e1
  · exact h.elim
def pz_newq (mc ms t N : Nat) (n : Nat) : pz_I := fun Q k u L S M => match S with
  | .int z :: S => z = nI N ∧ u.1 + 1 ≤ mc ∧ u.2 + N ≤ ms ∧ M.length < 1000000 ∧ k n (u.1 + 1, u.2 + N) L (.ref M.length :: S) (M ++ [.inr (.inl (t, N, fun _ => none))])
  | _ => False
theorem pz_s_newq {κ : pz_K} {pc i t N : Nat} {C0 : String} (hd : decode (pz_cc κ) pc = .ok (.anewarray i, 3)) (hN : N < 65536) (ht : pz_aty t = some C0) (hw : Cond.classLink (pz_own κ) i C0 ∈ pz_TB) : pz_S κ pc (pz_newq (pz_mc κ) (pz_ms κ) t N (pc + 3)) := by
  intro φ Q k u L S M h hk E p l e R s m args below meth c H locs ls P C h1 h2 hW hS hl hr
  have hx := C.1
  have hb := C.2.1
  have hml := C.2.2.1
  have hown := C.2.2.2.1
  have hts := C.2.2.2.2.1
  have hfr := C.2.2.2.2.2.2.1
  have hlo := C.2.2.2.2.2.2.2.1
  have hmc := C.2.2.2.2.2.2.2.2.1
  have hms := C.2.2.2.2.2.2.2.2.2.1
  have hK := C.2.2.2.2.2.2.2.2.2.2.1
  have hG := C.2.2.2.2.2.2.2.2.2.2.2.1
  have hB := C.2.2.2.2.2.2.2.2.2.2.2.2.1
  unfold pz_newq at h
  split at h
  · next z S' =>
    obtain ⟨a0, a1, a2, a3, h⟩ := h
    subst a0
    have hcl : (nI N).toNatClampNeg = N := nI_clamp (by omega)
    have hAO : va_AO C0 s := by
      match t, ht with
      | 0, ht => cases ht
      | 1, ht => cases ht
      | 2, ht => cases ht; exact hG.2.2.1.1
      | 3, ht => cases ht; exact hG.2.2.1.2.1
      | 4, ht => cases ht; exact hG.2.2.1.2.2
      | n + 5, ht => cases ht
    refine W.anew hx hb hown (hts _ hw) (va_AO.use hAO) rfl hd rfl (nI_pos (by omega)) (by rw [hcl]; omega) (by rw [hmc]; exact a1) (by rw [hms, hcl]; exact a2) fun cA kA comp f1 f2 f3 f4 => ?_
    rw [hcl]
    generalize hH1 : H.push ({ cls := cA, slots := Array.replicate N .null, vm := .none } : Cell) = H1
    have z1 : H1.size = H.size + 1 := by rw [← hH1, Array.size_push]
    have e1 : H1[H.size]? = some (arrV cA N (fun _ => .null)) := by rw [← hH1, Array.getElem?_push_size, ← arrV_new]
    have o1 : ∀ q : Nat, q < H.size → H1[q]? = H[q]? := fun q hq => by rw [← hH1, Array.getElem?_push, if_neg (Nat.ne_of_lt hq)]
    have hcA : cA = E.2.1 t := by
      obtain ⟨_, _, _, _, _, g4⟩ := (hK.2 t _ (pz_aty_ok ht)).2
      exact Option.some.inj (f1.symm.trans g4)
    subst hcA
    have hk' := hk _ _ _ _ _ h E p l e R s m args below meth c H1 locs ls P C a1 a2 (hW.push a3 z1 o1 ?_) (pz_push (M := M) hS z1 o1) hl hr
    · rw [List.map_cons, show pz_v E (.ref M.length) = .ref H.size by show Value.ref (pz_x E M.length) = _; rw [hW.next a3]] at hk'
      exact hk'
    · exact e1
  · exact h.elim
def pz_gst (t n : Nat) : pz_I := fun Q k u L S M => k n u L (.ref (1000000 + t) :: S) M
theorem pz_s_gst {κ : pz_K} {pc i t : Nat} (hd : decode (pz_cc κ) pc = .ok (.getstatic i, 3)) (ht : t < 4) (hw : Cond.fieldLink (pz_own κ) i (pz_stn t).1 (pz_stn t).2.1 "[I" ∈ pz_TB) : pz_S κ pc (pz_gst t (pc + 3)) := by
  intro φ Q k u L S M h hk E p l e R s m args below meth c H locs ls P C h1 h2 hW hS hl hr
  have hx := C.1
  have hb := C.2.1
  have hml := C.2.2.1
  have hown := C.2.2.2.1
  have hts := C.2.2.2.2.1
  have hfr := C.2.2.2.2.2.2.1
  have hlo := C.2.2.2.2.2.2.2.1
  have hmc := C.2.2.2.2.2.2.2.2.1
  have hms := C.2.2.2.2.2.2.2.2.2.1
  have hK := C.2.2.2.2.2.2.2.2.2.2.1
  have hG := C.2.2.2.2.2.2.2.2.2.2.2.1
  have hB := C.2.2.2.2.2.2.2.2.2.2.2.2.1
  have hk' := (hk _ _ _ _ _ h E p l e R s m args below meth c H locs ls P C h1 h2 hW hS hl hr)
  rw [List.map_cons, show pz_v E (.ref (1000000 + t)) = .ref (E.2.2.2 (1000000 + t)) by show Value.ref (pz_x E _) = _; rw [pz_x_out (by omega)]] at hk'
  exact va_gets hx hb (hG.1 t ht).1 hS hown (hts _ hw) (fun _ h9 => h9) hd hk'
theorem pz_s_gstN {κ : pz_K} {pc i t : Nat} {host : String} (hd : decode (pz_cc κ) pc = .ok (.getstatic i, 3)) (ht : t < 4) (hw : Cond.fieldLinkNest (pz_own κ) i (pz_stn t).1 (pz_stn t).2.1 "[I" host ∈ pz_nw) : pz_S κ pc (pz_gst t (pc + 3)) := by
  intro φ Q k u L S M h hk E p l e R s m args below meth c H locs ls P C h1 h2 hW hS hl hr
  have hx := C.1
  have hb := C.2.1
  have hml := C.2.2.1
  have hown := C.2.2.2.1
  have hts := C.2.2.2.2.1
  have hfr := C.2.2.2.2.2.2.1
  have hlo := C.2.2.2.2.2.2.2.1
  have hmc := C.2.2.2.2.2.2.2.2.1
  have hms := C.2.2.2.2.2.2.2.2.2.1
  have hK := C.2.2.2.2.2.2.2.2.2.2.1
  have hG := C.2.2.2.2.2.2.2.2.2.2.2.1
  have hB := C.2.2.2.2.2.2.2.2.2.2.2.2.1
  have hk' := (hk _ _ _ _ _ h E p l e R s m args below meth c H locs ls P C h1 h2 hW hS hl hr)
  rw [List.map_cons, show pz_v E (.ref (1000000 + t)) = .ref (E.2.2.2 (1000000 + t)) by show Value.ref (pz_x E _) = _; rw [pz_x_out (by omega)]] at hk'
  exact va_getsN hx hb (hG.1 t ht).1 hS hown (va_Nw.use rfl (hG.2.1 _ hw)) (fun _ h9 => h9) hd hk'
def pz_sald (t n : Nat) : pz_I := fun Q k u L S M => match S with
  | .int i :: .ref r :: S => match Nat.beq r (1000000 + t) with
    | true => vp_in i (pz_stn t).2.2.1 ∧ k n u L (.int ((pz_stn t).2.2.2.getD i.toNatClampNeg 0) :: S) M
    | false => False
  | _ => False
theorem pz_s_sald {κ : pz_K} {pc t : Nat} (hd : decode (pz_cc κ) pc = .ok (.iaload, 1)) (ht : t < 4) : pz_S κ pc (pz_sald t (pc + 1)) := by
  intro φ Q k u L S M h hk E p l e R s m args below meth c H locs ls P C h1 h2 hW hS hl hr
  have hx := C.1
  have hb := C.2.1
  have hml := C.2.2.1
  have hown := C.2.2.2.1
  have hts := C.2.2.2.2.1
  have hfr := C.2.2.2.2.2.2.1
  have hlo := C.2.2.2.2.2.2.2.1
  have hmc := C.2.2.2.2.2.2.2.2.1
  have hms := C.2.2.2.2.2.2.2.2.2.1
  have hK := C.2.2.2.2.2.2.2.2.2.2.1
  have hG := C.2.2.2.2.2.2.2.2.2.2.2.1
  have hB := C.2.2.2.2.2.2.2.2.2.2.2.2.1
  unfold pz_sald at h
  split at h
  · next i r S' =>
    split at h
    · next hq =>
      have hq : r = 1000000 + t := Nat.eq_of_beq_eq_true hq
      subst hq
      have hk' := (hk _ _ _ _ _ h.2 E p l e R s m args below meth c H locs ls P C h1 h2 hW hS hl hr)
      have eS : List.map (pz_v E) (.int i :: .ref (1000000 + t) :: S') = .int i :: .ref (E.2.2.2 (1000000 + t)) :: List.map (pz_v E) S' := by
        rw [List.map_cons, List.map_cons, show pz_v E (.ref (1000000 + t)) = .ref (E.2.2.2 (1000000 + t)) by show Value.ref (pz_x E _) = _; rw [pz_x_out (by omega)]]
        rfl
      rw [eS]
      exact va_ti hx hb (hG.1 t ht).2 hS h.1 rfl hd hk'
    · exact h.elim
  · exact h.elim
def pz_mmin (n : Nat) : pz_I := fun Q k u L S M => match S with
  | .int y :: .int x :: S => match Nat.ble (pz_cat S) 8 with
    | true => k n u L (.int (if y < x then y else x) :: S) M
    | false => False
  | _ => False
theorem pz_s_mmin {κ : pz_K} {pc i : Nat} (hd : decode (pz_cc κ) pc = .ok (.invokestatic i, 3)) (hdp : 1 ≤ pz_d κ) (hw1 : Cond.methodLink (pz_own κ) i Lib.Math.min.name ∈ pz_TB) (hw2 : Cond.static Lib.Math.min.name ∈ pz_TB) (hw3 : Cond.initialized "java/lang/Math" ∈ pz_TB) (hw4 : Cond.code Lib.Math.min.name Lib.Math.min.code 2 (some .int) ∈ pz_TB) : pz_S κ pc (pz_mmin (pc + 3)) := by
  intro φ Q k u L S M h hk E p l e R s m args below meth c H locs ls P C h1 h2 hW hS hl hr
  have hx := C.1
  have hb := C.2.1
  have hml := C.2.2.1
  have hown := C.2.2.2.1
  have hts := C.2.2.2.2.1
  have hfr := C.2.2.2.2.2.2.1
  have hlo := C.2.2.2.2.2.2.2.1
  have hmc := C.2.2.2.2.2.2.2.2.1
  have hms := C.2.2.2.2.2.2.2.2.2.1
  have hK := C.2.2.2.2.2.2.2.2.2.2.1
  have hG := C.2.2.2.2.2.2.2.2.2.2.2.1
  have hB := C.2.2.2.2.2.2.2.2.2.2.2.2.1
  unfold pz_mmin at h
  split at h
  · next y x S' =>
    split at h
    · next hc =>
      have hk' := (hk _ _ _ _ _ h E p l e R s m args below meth c H locs ls P C h1 h2 hW hS hl hr)
      have hc' := pz_cat_le (E := E) hc
      exact va_mmin hx hb (by rw [hml]; exact hl.2.1.symm) hown (hts _ hw1) (hts _ hw2) (hts _ hw3) (hts _ hw4) (by omega) (by omega) (by rw [hmc]; exact h1) (by rw [hms]; exact h2) hd hk'
    · exact h.elim
  · exact h.elim
def pz_mmax (n : Nat) : pz_I := fun Q k u L S M => match S with
  | .int y :: .int x :: S => match Nat.ble (pz_cat S) 8 with
    | true => k n u L (.int (if x < y then y else x) :: S) M
    | false => False
  | _ => False
theorem pz_s_mmax {κ : pz_K} {pc i : Nat} (hd : decode (pz_cc κ) pc = .ok (.invokestatic i, 3)) (hdp : 1 ≤ pz_d κ) (hw1 : Cond.methodLink (pz_own κ) i Lib.Math.max.name ∈ pz_TB) (hw2 : Cond.static Lib.Math.max.name ∈ pz_TB) (hw3 : Cond.initialized "java/lang/Math" ∈ pz_TB) (hw4 : Cond.code Lib.Math.max.name Lib.Math.max.code 2 (some .int) ∈ pz_TB) : pz_S κ pc (pz_mmax (pc + 3)) := by
  intro φ Q k u L S M h hk E p l e R s m args below meth c H locs ls P C h1 h2 hW hS hl hr
  have hx := C.1
  have hb := C.2.1
  have hml := C.2.2.1
  have hown := C.2.2.2.1
  have hts := C.2.2.2.2.1
  have hfr := C.2.2.2.2.2.2.1
  have hlo := C.2.2.2.2.2.2.2.1
  have hmc := C.2.2.2.2.2.2.2.2.1
  have hms := C.2.2.2.2.2.2.2.2.2.1
  have hK := C.2.2.2.2.2.2.2.2.2.2.1
  have hG := C.2.2.2.2.2.2.2.2.2.2.2.1
  have hB := C.2.2.2.2.2.2.2.2.2.2.2.2.1
  unfold pz_mmax at h
  split at h
  · next y x S' =>
    split at h
    · next hc =>
      have hk' := (hk _ _ _ _ _ h E p l e R s m args below meth c H locs ls P C h1 h2 hW hS hl hr)
      have hc' := pz_cat_le (E := E) hc
      exact va_mmax hx hb (by rw [hml]; exact hl.2.1.symm) hown (hts _ hw1) (hts _ hw2) (hts _ hw3) (hts _ hw4) (by omega) (by omega) (by rw [hmc]; exact h1) (by rw [hms]; exact h2) hd hk'
    · exact h.elim
  · exact h.elim
def pz_mabs (n : Nat) : pz_I := fun Q k u L S M => match S with
  | .int x :: S => match Nat.ble (pz_cat S) 8 with
    | true => k n u L (.int (if 0 ≤ x then x else 0 - x) :: S) M
    | false => False
  | _ => False
theorem pz_s_mabs {κ : pz_K} {pc i : Nat} (hd : decode (pz_cc κ) pc = .ok (.invokestatic i, 3)) (hdp : 1 ≤ pz_d κ) (hw1 : Cond.methodLink (pz_own κ) i Lib.Math.abs.name ∈ pz_TB) (hw2 : Cond.static Lib.Math.abs.name ∈ pz_TB) (hw3 : Cond.initialized "java/lang/Math" ∈ pz_TB) (hw4 : Cond.code Lib.Math.abs.name Lib.Math.abs.code 1 (some .int) ∈ pz_TB) : pz_S κ pc (pz_mabs (pc + 3)) := by
  intro φ Q k u L S M h hk E p l e R s m args below meth c H locs ls P C h1 h2 hW hS hl hr
  have hx := C.1
  have hb := C.2.1
  have hml := C.2.2.1
  have hown := C.2.2.2.1
  have hts := C.2.2.2.2.1
  have hfr := C.2.2.2.2.2.2.1
  have hlo := C.2.2.2.2.2.2.2.1
  have hmc := C.2.2.2.2.2.2.2.2.1
  have hms := C.2.2.2.2.2.2.2.2.2.1
  have hK := C.2.2.2.2.2.2.2.2.2.2.1
  have hG := C.2.2.2.2.2.2.2.2.2.2.2.1
  have hB := C.2.2.2.2.2.2.2.2.2.2.2.2.1
  unfold pz_mabs at h
  split at h
  · next x S' =>
    split at h
    · next hc =>
      have hk' := (hk _ _ _ _ _ h E p l e R s m args below meth c H locs ls P C h1 h2 hW hS hl hr)
      have hc' := pz_cat_le (E := E) hc
      exact va_mabs hx hb (by rw [hml]; exact hl.2.1.symm) hown (hts _ hw1) (hts _ hw2) (hts _ hw3) (hts _ hw4) (by omega) (by omega) (by rw [hmc]; exact h1) (by rw [hms]; exact h2) hd hk'
    · exact h.elim
  · exact h.elim
def pz_oinit (n : Nat) : pz_I := fun Q k u L S M => match S with
  | .ref _ :: S => match Nat.ble (pz_cat S) 8 with
    | true => k n u L S M
    | false => False
  | _ => False
theorem pz_s_oinit {κ : pz_K} {pc i : Nat} (hd : decode (pz_cc κ) pc = .ok (.invokespecial i, 3)) (hdp : 1 ≤ pz_d κ) (hw1 : Cond.methodLink (pz_own κ) i Lib.objectInit ∈ pz_TB) (hw2 : Cond.instanceMethod Lib.objectInit ∈ pz_TB) (hw3 : Cond.code Lib.objectInit ⟨#[0xb1]⟩ 1 none ∈ pz_TB) : pz_S κ pc (pz_oinit (pc + 3)) := by
  intro φ Q k u L S M h hk E p l e R s m args below meth c H locs ls P C h1 h2 hW hS hl hr
  have hx := C.1
  have hb := C.2.1
  have hml := C.2.2.1
  have hown := C.2.2.2.1
  have hts := C.2.2.2.2.1
  have hfr := C.2.2.2.2.2.2.1
  have hlo := C.2.2.2.2.2.2.2.1
  have hmc := C.2.2.2.2.2.2.2.2.1
  have hms := C.2.2.2.2.2.2.2.2.2.1
  have hK := C.2.2.2.2.2.2.2.2.2.2.1
  have hG := C.2.2.2.2.2.2.2.2.2.2.2.1
  have hB := C.2.2.2.2.2.2.2.2.2.2.2.2.1
  unfold pz_oinit at h
  split at h
  · next r S' =>
    split at h
    · next hc =>
      have hk' := (hk _ _ _ _ _ h E p l e R s m args below meth c H locs ls P C h1 h2 hW hS hl hr)
      have hc' := pz_cat_le (E := E) hc
      exact W.objInit hx hb hown (hts _ hw1) (hts _ hw2) (hts _ hw3) rfl (by rw [hml]; exact hl.2.1) rfl hd (by omega) (by show 2 * 0 + _ + 12 ≤ _; omega) hk'
    · exact h.elim
  · exact h.elim
def pz_acopy (n : Nat) : pz_I := fun Q k u L S M => match S with
  | .int z :: .int dp :: .ref a :: .int sp :: .ref a0 :: S => match pz_nth M a0 with
    | some (.inl (0, n0, f)) => match pz_nth M a with
      | some (.inl (0, n1, g)) => match Nat.ble (pz_cat S) 8 with
        | true => (¬ sp < 0 ∧ ¬ dp < 0 ∧ ¬ z < 0 ∧ sp.toNatClampNeg + z.toNatClampNeg ≤ n0 ∧ dp.toNatClampNeg + z.toNatClampNeg ≤ n1) ∧ k n u L S (pz_set M a (.inl (0, n1, va_cpy f g sp.toNatClampNeg dp.toNatClampNeg z.toNatClampNeg)))
        | false => False
      | _ => False
    | _ => False
  | _ => False
theorem pz_s_acopy {κ : pz_K} {pc i : Nat} (hd : decode (pz_cc κ) pc = .ok (.invokestatic i, 3)) (hdp : 1 ≤ pz_d κ) (hw1 : Cond.methodLink (pz_own κ) i arraycopyName ∈ pz_TB) (hw2 : Cond.native arraycopyName ∈ pz_TB) (hw3 : Cond.static arraycopyName ∈ pz_TB) (hw4 : Cond.initialized "java/lang/System" ∈ pz_TB) : pz_S κ pc (pz_acopy (pc + 3)) := by
  intro φ Q k u L S M h hk E p l e R s m args below meth c H locs ls P C h1 h2 hW hS hl hr
  have hx := C.1
  have hb := C.2.1
  have hml := C.2.2.1
  have hown := C.2.2.2.1
  have hts := C.2.2.2.2.1
  have hfr := C.2.2.2.2.2.2.1
  have hlo := C.2.2.2.2.2.2.2.1
  have hmc := C.2.2.2.2.2.2.2.2.1
  have hms := C.2.2.2.2.2.2.2.2.2.1
  have hK := C.2.2.2.2.2.2.2.2.2.2.1
  have hG := C.2.2.2.2.2.2.2.2.2.2.2.1
  have hB := C.2.2.2.2.2.2.2.2.2.2.2.2.1
  unfold pz_acopy at h
  split at h
  · next z dp a sp a0 S' =>
    split at h
    · next n0 f hq0 =>
      split at h
      · next n1 g hq1 =>
        split at h
        · next hc =>
          obtain ⟨⟨g1, g2, g3, g4, g5⟩, h⟩ := h
          have hc' := pz_cat_le (E := E) hc
          have nn : ∀ z : Int32, ¬ z < 0 → z.toInt = (z.toNatClampNeg : Int) := by
            intro z hz
            have hz0 : (0 : Int) ≤ z.toInt := by
              have := Int32.not_lt.mp hz
              simpa using Int32.le_iff_toInt_le.mp this
            show z.toInt = ((z.toInt.toNat : Nat) : Int)
            omega
          have ha0 := hW.at hq0
          have ha1 := hW.at hq1
          have hc0 : H[E.2.2.1 + a0]? = some (arrV (E.2.1 0) n0 (fun j => .int (f j))) := ha0.1
          have hc1 : H[E.2.2.1 + a]? = some (arrV (E.2.1 0) n1 (fun j => .int (g j))) := ha1.1
          have eS : List.map (pz_v E) (.int z :: .int dp :: .ref a :: .int sp :: .ref a0 :: S') = .int z :: .int dp :: .ref (E.2.2.1 + a) :: .int sp :: .ref (E.2.2.1 + a0) :: List.map (pz_v E) S' := by rw [← ha0.2, ← ha1.2]; rfl
          rw [eS]
          intro T hT X
          obtain ⟨-, k0, hk0, cm0, hkk0⟩ := (hK.2 0 _ rfl).1 n0 (fun j => .int (f j))
          obtain ⟨-, k1, hk1, cm1, hkk1⟩ := (hK.2 0 _ rfl).1 n1 (fun j => .int (g j))
          obtain ⟨vm', X', step⟩ := X.arraycopy hx hown (hts _ hw1) (hts _ hw2) (hts _ hw3) (hts _ hw4) (src := E.2.2.1 + a0) (dst := E.2.2.1 + a) (cs := arrV (E.2.1 0) n0 (fun j => .int (f j))) (cd := arrV (E.2.1 0) n1 (fun j => .int (g j))) (srcPos := sp) (destPos := dp) (n := z) (by rw [hT]; exact hc0) (by rw [hT]; exact hc1)
            (fun _ h => by cases h) (fun _ h => by cases h) (fun h => by cases h) (fun h => by cases h) hk0 hk1 hkk0 hkk1 (by simp [refKind]) g1 g2 g3
            (by rw [nn sp g1, nn z g3, arrV_size]; omega)
            (by rw [nn dp g2, nn z g3, arrV_size]; omega)
            (fun vm₁ _ i hi => by
              have e : (arrV (E.2.1 0) n0 (fun j => .int (f j))).slots.getD (sp.toNatClampNeg + i) .null = .int (f (sp.toNatClampNeg + i)) := by
                rw [Array.getD_eq_getD_getElem?, arrV_read _ _ (by omega)]
                rfl
              refine ⟨?_, ?_⟩
              · rw [e]; rfl
              · rw [e]; exact trivial)
            (g := F0 m pc ls (.int z :: .int dp :: .ref (E.2.2.1 + a) :: .int sp :: .ref (E.2.2.1 + a0) :: List.map (pz_v E) S')) rfl (by rw [hml]; exact hl.2.1) (rest := List.map (pz_v E) S') rfl (by rw [hb]; exact hd) (by omega) (by show 2 * 0 + _ + (5 + 2 + 11) ≤ _; omega)
          have e1 : copied (arrV (E.2.1 0) n0 (fun j => .int (f j))) (arrV (E.2.1 0) n1 (fun j => .int (g j))) sp dp z = arrV (E.2.1 0) n1 (fun j => .int (va_cpy f g sp.toNatClampNeg dp.toNatClampNeg z.toNatClampNeg j)) := va_copied (fun z => .int z) (E.2.1 0) (E.2.1 0) f g g4
          rw [e1] at X' step
          have hlt : E.2.2.1 + a < H.size := (Array.getElem?_eq_some_iff.mp hc1).1
          generalize hnew : arrV (E.2.1 0) n1 (fun j => Value.int (va_cpy f g sp.toNatClampNeg dp.toNatClampNeg z.toNatClampNeg j)) = nc at X' step
          have hheap : ((T.setVm vm').setCell (E.2.2.1 + a) nc).heap = H.setIfInBounds (E.2.2.1 + a) nc := by rw [← hT]; rfl
          have oq : ∀ q : Nat, q ≠ E.2.2.1 + a → (H.setIfInBounds (E.2.2.1 + a) nc)[q]? = H[q]? := fun q hq => by simp [Array.getElem?_setIfInBounds, Ne.symm hq]
          obtain ⟨t, a1, b1⟩ := hk _ _ _ _ _ h E p l e R s m args below meth c _ _ ls P C h1 h2 (hW.set (H' := H.setIfInBounds (E.2.2.1 + a) nc) hq1 (by simp) oq (by
              show (H.setIfInBounds (E.2.2.1 + a) nc)[E.2.2.1 + a]? = some (arrV (E.2.1 0) n1 (fun j => Value.int (va_cpy f g sp.toNatClampNeg dp.toNatClampNeg z.toNatClampNeg j)))
              rw [hnew]
              simp [Array.getElem?_setIfInBounds, hlt])) ⟨by simp; exact hS.1, fun q d1 d2 => by
              rw [oq q (fun e => d2 (by rw [e]; exact Nat.le_add_right _ _))]
              exact hS.2.1 q d1 d2, fun q hq => by
              rcases List.mem_append.mp hq with h | h
              · exact hS.2.2 q h
              · obtain ⟨z, -, hz⟩ := List.mem_map.mp h
                rw [← hz]
                exact Nat.le_add_right _ _⟩ hl hr _ hheap X'
          exact ⟨t, step t a1, b1⟩
        · exact h.elim
      · exact h.elim
    · exact h.elim
  · exact h.elim
