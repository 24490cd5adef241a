theorem pz_W.at {E : pz_V} {M : pz_M} {H : Heap} (h : pz_W E M H) {r : Nat} {c : pz_E} (hr : pz_nth M r = some c) : va_at E.1 pz_cls (E.2.2.1 + r, pz_e E c) H ∧ pz_x E r = E.2.2.1 + r := by
  rw [pz_nth_eq] at hr
  refine ⟨h.2.2 r c hr, ?_⟩
  have h1 := (List.getElem?_eq_some_iff.mp hr).1
  have h2 := h.2.1
  unfold pz_x
  rw [if_pos (by omega)]
theorem pz_W.one {E : pz_V} {M : pz_M} {H : Heap} (h : pz_W E M H) {r : Nat} {c : pz_E} (hr : pz_nth M r = some c) : va_P E.1 pz_cls [(E.2.2.1 + r, pz_e E c)] H := by
  intro i q hq
  cases i with
  | zero => cases hq; exact (h.at hr).1
  | succ i => cases hq
theorem pz_W.set {E : pz_V} {M : pz_M} {H H' : Heap} (h : pz_W E M H) {r : Nat} {c c' : pz_E} (hr : pz_nth M r = some c) (hz : H'.size = H.size) (ho : ∀ q, q ≠ E.2.2.1 + r → H'[q]? = H[q]?) (hc : va_at E.1 pz_cls (E.2.2.1 + r, pz_e E c') H') : pz_W E (pz_set M r c') H' := by
  rw [pz_nth_eq] at hr
  have hlt := (List.getElem?_eq_some_iff.mp hr).1
  rw [pz_set_eq]
  refine ⟨by rw [hz, List.length_set]; exact h.1, by rw [List.length_set]; exact h.2.1, fun i x hi => ?_⟩
  by_cases hir : i = r
  · subst hir
    rw [List.getElem?_set_self hlt] at hi
    cases hi
    exact hc
  · rw [List.getElem?_set_ne (fun q => hir q.symm)] at hi
    exact (h.2.2 i x hi).kept (ho _ (by show E.2.2.1 + i ≠ _; omega))
theorem pz_W.push {E : pz_V} {M : pz_M} {H H' : Heap} (h : pz_W E M H) {c : pz_E} (hM : M.length < 1000000) (hz : H'.size = H.size + 1) (ho : ∀ q, q < H.size → H'[q]? = H[q]?) (hc : va_at E.1 pz_cls (H.size, pz_e E c) H') : pz_W E (M ++ [c]) H' := by
  refine ⟨by rw [hz, h.1, List.length_append]; rfl, by rw [List.length_append]; show M.length + 1 ≤ _; omega, fun i x hi => ?_⟩
  by_cases hlt : i < M.length
  · rw [List.getElem?_append_left hlt] at hi
    exact (h.2.2 i x hi).kept (ho _ (by rw [h.1]; show E.2.2.1 + i < _; omega))
  · rw [List.getElem?_append_right (by omega)] at hi
    have h0 : i - M.length < 1 := (List.getElem?_eq_some_iff.mp hi).1
    rw [show i - M.length = 0 by omega] at hi
    cases hi
    rw [show i = M.length by omega, ← h.1]
    exact hc
theorem pz_push {E : pz_V} {M : pz_M} {H H' : Heap} {H0 : Heap} {locs : List Loc} (hS : va_S (pz_A E) H0 H locs) (hz : H'.size = H.size + 1) (ho : ∀ q, q < H.size → H'[q]? = H[q]?) : va_S (pz_A E) H0 H' locs :=
  ⟨Nat.le_trans hS.1 (by omega), fun x h1 h2 => (ho x (Nat.lt_of_lt_of_le h1 hS.1)).trans (hS.2.1 x h1 h2), hS.2.2⟩
/-- a class's words are all there -/
def pz_cok (q : vw_C) : Prop := (∀ w ∈ u_ws q.1 q.2.1 q.2.2, w ∈ pz_TB) ∧ ∃ ty : Nat → FieldType, (∀ k, k < q.2.2 → parseFieldDescriptor (q.2.1 k).2.2.1 = some (ty k)) ∧ ∀ a, a < q.2.2 → ∀ b, b < q.2.2 → a ≠ b → (q.2.1 a).2.1 ≠ (q.2.1 b).2.1
theorem pz_cok0 : pz_cok (RX1, TX1, 2) := ⟨by
  have h : (u_ws RX1 TX1 2).all (fun w => decide (w ∈ lw_tbl) && goodWord w) = true := by decide +kernel
  exact fun w hw => pz_in (List.all_eq_true.mp h w hw), tyX1, tyX1_ok, nmX1⟩
theorem pz_cok1 : pz_cok (RX3, TX3, 8) := ⟨by
  have h : (u_ws RX3 TX3 8).all (fun w => decide (w ∈ lw_tbl) && goodWord w) = true := by decide +kernel
  exact fun w hw => pz_in (List.all_eq_true.mp h w hw), tyX3, tyX3_ok, nmX3⟩
theorem pz_cok2 : pz_cok (RX4, TX4, 3) := ⟨by
  have h : (u_ws RX4 TX4 3).all (fun w => decide (w ∈ lw_tbl) && goodWord w) = true := by decide +kernel
  exact fun w hw => pz_in (List.all_eq_true.mp h w hw), tyX4, tyX4_ok, nmX4⟩
theorem pz_cok3 : pz_cok (RX5, TX5, 5) := ⟨by
  have h : (u_ws RX5 TX5 5).all (fun w => decide (w ∈ lw_tbl) && goodWord w) = true := by decide +kernel
  exact fun w hw => pz_in (List.all_eq_true.mp h w hw), tyX5, tyX5_ok, nmX5⟩
theorem pz_cok4 : pz_cok (RX6, TX6, 4) := ⟨by
  have h : (u_ws RX6 TX6 4).all (fun w => decide (w ∈ lw_tbl) && goodWord w) = true := by decide +kernel
  exact fun w hw => pz_in (List.all_eq_true.mp h w hw), tyX6, tyX6_ok, nmX6⟩
theorem pz_cok5 : pz_cok (RX7, TX7, 14) := ⟨by
  have h : (u_ws RX7 TX7 14).all (fun w => decide (w ∈ lw_tbl) && goodWord w) = true := by decide +kernel
  exact fun w hw => pz_in (List.all_eq_true.mp h w hw), tyX7, tyX7_ok, nmX7⟩
theorem pz_cok6 : pz_cok (RX8, TX8, 2) := ⟨by
  have h : (u_ws RX8 TX8 2).all (fun w => decide (w ∈ lw_tbl) && goodWord w) = true := by decide +kernel
  exact fun w hw => pz_in (List.all_eq_true.mp h w hw), tyX8, tyX8_ok, nmX8⟩
theorem pz_cok7 : pz_cok (RX9, TX9, 12) := ⟨by
  have h : (u_ws RX9 TX9 12).all (fun w => decide (w ∈ lw_tbl) && goodWord w) = true := by decide +kernel
  exact fun w hw => pz_in (List.all_eq_true.mp h w hw), tyX9, tyX9_ok, nmX9⟩
theorem pz_cok8 : pz_cok (RX10, TX10, 33) := ⟨by
  have h : (u_ws RX10 TX10 33).all (fun w => decide (w ∈ lw_tbl) && goodWord w) = true := by decide +kernel
  exact fun w hw => pz_in (List.all_eq_true.mp h w hw), tyX10, tyX10_ok, nmX10⟩
theorem pz_cok_all : ∀ (ci : Nat) (q : vw_C), pz_cls[ci]? = some q → pz_cok q := by
  intro ci q h
  match ci, h with
  | 0, h => cases h; exact pz_cok0
  | 1, h => cases h; exact pz_cok1
  | 2, h => cases h; exact pz_cok2
  | 3, h => cases h; exact pz_cok3
  | 4, h => cases h; exact pz_cok4
  | 5, h => cases h; exact pz_cok5
  | 6, h => cases h; exact pz_cok6
  | 7, h => cases h; exact pz_cok7
  | 8, h => cases h; exact pz_cok8
  | n + 9, h => simp [pz_cls] at h
def pz_iald (n : Nat) : pz_I := fun Q k u L S M => match S with
  | .int i :: .ref r :: S => match pz_nth M r with
    | some (.inl (0, N, f)) => vp_in i N ∧ k n u L (.int (f i.toNatClampNeg) :: S) M
    | _ => False
  | _ => False
theorem pz_s_iald {κ : pz_K} {pc : Nat} (hd : decode (pz_cc κ) pc = .ok (.iaload, 1)) : pz_S κ pc (pz_iald (pc + 1)) := by
  intro φ Q k u L S M h hk E p l e R s m args below meth c H locs ls P C h1 h2 hW hS hl hr
  have hx := C.1
  have hb := C.2.1
  have hown := C.2.2.2.1
  have hts := C.2.2.2.2.1
  have hK := C.2.2.2.2.2.2.2.2.2.2.1
  have hG := C.2.2.2.2.2.2.2.2.2.2.2.1
  have hB := C.2.2.2.2.2.2.2.2.2.2.2.2.1
  unfold pz_iald at h
  split at h
  · next i r S' =>
    split at h
    · next N f hq =>
      have hG := (hk _ _ _ _ _ h.2 E p l e R s m args below meth c H locs ls P C h1 h2 hW hS hl hr)
      have ha := hW.at hq
      have hp := hW.one hq
      have eS : List.map (pz_v E) (.int i :: .ref r :: S') = .int i :: .ref (E.2.2.1 + r) :: List.map (pz_v E) S' := by rw [← ha.2]; rfl
      rw [eS]
      exact va_iald (D := E.1) (cl := pz_cls) (tys := pz_tys E) (f := f) hx hb hK hp 0 0 rfl rfl h.1 hd hG
    · exact h.elim
  · exact h.elim
def pz_bald (n : Nat) : pz_I := fun Q k u L S M => match S with
  | .int i :: .ref r :: S => match pz_nth M r with
    | some (.inl (1, N, f)) => vp_in i N ∧ k n u L (.int (f i.toNatClampNeg) :: S) M
    | _ => False
  | _ => False
theorem pz_s_bald {κ : pz_K} {pc : Nat} (hd : decode (pz_cc κ) pc = .ok (.baload, 1)) : pz_S κ pc (pz_bald (pc + 1)) := by
  intro φ Q k u L S M h hk E p l e R s m args below meth c H locs ls P C h1 h2 hW hS hl hr
  have hx := C.1
  have hb := C.2.1
  have hown := C.2.2.2.1
  have hts := C.2.2.2.2.1
  have hK := C.2.2.2.2.2.2.2.2.2.2.1
  have hG := C.2.2.2.2.2.2.2.2.2.2.2.1
  have hB := C.2.2.2.2.2.2.2.2.2.2.2.2.1
  unfold pz_bald at h
  split at h
  · next i r S' =>
    split at h
    · next N f hq =>
      have hG := (hk _ _ _ _ _ h.2 E p l e R s m args below meth c H locs ls P C h1 h2 hW hS hl hr)
      have ha := hW.at hq
      have hp := hW.one hq
      have eS : List.map (pz_v E) (.int i :: .ref r :: S') = .int i :: .ref (E.2.2.1 + r) :: List.map (pz_v E) S' := by rw [← ha.2]; rfl
      rw [eS]
      exact va_bald (D := E.1) (cl := pz_cls) (tys := pz_tys E) (f := f) hx hb hK hp 0 1 rfl rfl h.1 hd hG
    · exact h.elim
  · exact h.elim
def pz_aald (n : Nat) : pz_I := fun Q k u L S M => match S with
  | .int i :: .ref r :: S => match pz_nth M r with
    | some (.inr (.inl (t, N, f))) => vp_in i N ∧ k n u L (va_rf (f i.toNatClampNeg) :: S) M
    | _ => False
  | _ => False
theorem pz_rf (E : pz_V) (o : Option Nat) : pz_v E (va_rf o) = va_rf (o.map (pz_x E)) := by cases o <;> rfl
def pz_aty (t : Nat) : Option String := match t with
  | 2 => some RX6
  | 3 => some RX4
  | 4 => some RX5
  | _ => none
theorem pz_aty_ok {E : pz_V} {t : Nat} {C : String} (h : pz_aty t = some C) : (pz_tys E)[t]? = some (E.2.1 t, .object C) := by
  match t, h with
  | 0, h => cases h
  | 1, h => cases h
  | 2, h => cases h; rfl
  | 3, h => cases h; rfl
  | 4, h => cases h; rfl
  | n + 5, h => cases h
def pz_aald' (t0 n : Nat) : pz_I := fun Q k u L S M => match S with
  | .int i :: .ref r :: S => match pz_nth M r with
    | some (.inr (.inl (t, N, f))) => match t == t0 with
      | true => vp_in i N ∧ k n u L (va_rf (f i.toNatClampNeg) :: S) M
      | false => False
    | _ => False
  | _ => False
theorem pz_s_aald {κ : pz_K} {pc t0 : Nat} {C0 : String} (hd : decode (pz_cc κ) pc = .ok (.aaload, 1)) (ht0 : pz_aty t0 = some C0) : pz_S κ pc (pz_aald' t0 (pc + 1)) := by
  intro φ Q k u L S M h hk E p l e R s m args below meth c H locs ls P C h1 h2 hW hS hl hr
  have hx := C.1
  have hb := C.2.1
  have hown := C.2.2.2.1
  have hts := C.2.2.2.2.1
  have hK := C.2.2.2.2.2.2.2.2.2.2.1
  have hG := C.2.2.2.2.2.2.2.2.2.2.2.1
  have hB := C.2.2.2.2.2.2.2.2.2.2.2.2.1
  unfold pz_aald' at h
  split at h
  · next i r S' =>
    split at h
    · next t N f hq =>
      split at h
      · next ht =>
        have ht : t = t0 := by simpa using ht
        subst ht
        have hG := (hk _ _ _ _ _ h.2 E p l e R s m args below meth c H locs ls P C h1 h2 hW hS hl hr)
        have ha := hW.at hq
        have hp := hW.one hq
        have eS : List.map (pz_v E) (.int i :: .ref r :: S') = .int i :: .ref (E.2.2.1 + r) :: List.map (pz_v E) S' := by rw [← ha.2]; rfl
        rw [eS]
        rw [List.map_cons, pz_rf] at hG
        exact va_aldq (D := E.1) (cl := pz_cls) (tys := pz_tys E) (f := fun j => (f j).map (pz_x E)) hx hb hK hp 0 t rfl (pz_aty_ok ht0) h.1 hd hG
      · exact h.elim
    · exact h.elim
  · exact h.elim
def pz_iast (n : Nat) : pz_I := fun Q k u L S M => match S with
  | .int x :: .int i :: .ref r :: S => match pz_nth M r with
    | some (.inl (0, N, f)) => vp_in i N ∧ k n u L S (pz_set M r (.inl (0, N, upd f i.toNatClampNeg (x))))
    | _ => False
  | _ => False
theorem pz_s_iast {κ : pz_K} {pc : Nat} (hd : decode (pz_cc κ) pc = .ok (.iastore, 1)) : pz_S κ pc (pz_iast (pc + 1)) := by
  intro φ Q k u L S M h hk E p l e R s m args below meth c H locs ls P C h1 h2 hW hS hl hr
  have hx := C.1
  have hb := C.2.1
  have hown := C.2.2.2.1
  have hts := C.2.2.2.2.1
  have hK := C.2.2.2.2.2.2.2.2.2.2.1
  have hG := C.2.2.2.2.2.2.2.2.2.2.2.1
  have hB := C.2.2.2.2.2.2.2.2.2.2.2.2.1
  unfold pz_iast at h
  split at h
  · next x i r S' =>
    split at h
    · next N f hq =>
      have ha := hW.at hq
      have hc : H[E.2.2.1 + r]? = some (arrV (E.2.1 0) N (fun j => .int (f j))) := ha.1
      have eS : List.map (pz_v E) (.int x :: .int i :: .ref r :: S') = .int x :: .int i :: .ref (E.2.2.1 + r) :: List.map (pz_v E) S' := by rw [← ha.2]; rfl
      rw [eS]
      refine W.iast hx hb hc ((hK.2 0 _ rfl).1 N (fun j => .int (f j))) (fun q => by cases q) (by rw [arrV_size]; exact h.1) rfl rfl hd fun H1 e1 z1 o1 => ?_
      refine hk _ _ _ _ _ h.2 E p l e R s m args below meth c H1 _ ls P C h1 h2 (hW.set hq z1 o1 ?_) (hS.put z1 o1 (Nat.le_add_right _ _)) hl hr
      show H1[E.2.2.1 + r]? = some (arrV (E.2.1 0) N (fun j => .int (upd f i.toNatClampNeg (x) j)))
      rw [e1, arrV_store]
      congr 2
      funext q
      by_cases hq : q = i.toNatClampNeg
      · subst hq; simp [updV, upd, narrow]
      · simp [updV, upd, hq]
    · exact h.elim
  · exact h.elim
def pz_bast (n : Nat) : pz_I := fun Q k u L S M => match S with
  | .int x :: .int i :: .ref r :: S => match pz_nth M r with
    | some (.inl (1, N, f)) => vp_in i N ∧ k n u L S (pz_set M r (.inl (1, N, upd f i.toNatClampNeg (x.toInt8.toInt32))))
    | _ => False
  | _ => False
theorem pz_s_bast {κ : pz_K} {pc : Nat} (hd : decode (pz_cc κ) pc = .ok (.bastore, 1)) : pz_S κ pc (pz_bast (pc + 1)) := by
  intro φ Q k u L S M h hk E p l e R s m args below meth c H locs ls P C h1 h2 hW hS hl hr
  have hx := C.1
  have hb := C.2.1
  have hown := C.2.2.2.1
  have hts := C.2.2.2.2.1
  have hK := C.2.2.2.2.2.2.2.2.2.2.1
  have hG := C.2.2.2.2.2.2.2.2.2.2.2.1
  have hB := C.2.2.2.2.2.2.2.2.2.2.2.2.1
  unfold pz_bast at h
  split at h
  · next x i r S' =>
    split at h
    · next N f hq =>
      have ha := hW.at hq
      have hc : H[E.2.2.1 + r]? = some (arrV (E.2.1 1) N (fun j => .int (f j))) := ha.1
      have eS : List.map (pz_v E) (.int x :: .int i :: .ref r :: S') = .int x :: .int i :: .ref (E.2.2.1 + r) :: List.map (pz_v E) S' := by rw [← ha.2]; rfl
      rw [eS]
      refine W.bast hx hb hc ((hK.2 1 _ rfl).1 N (fun j => .int (f j))) (fun q => by cases q) (by rw [arrV_size]; exact h.1) rfl rfl hd fun H1 e1 z1 o1 => ?_
      refine hk _ _ _ _ _ h.2 E p l e R s m args below meth c H1 _ ls P C h1 h2 (hW.set hq z1 o1 ?_) (hS.put z1 o1 (Nat.le_add_right _ _)) hl hr
      show H1[E.2.2.1 + r]? = some (arrV (E.2.1 1) N (fun j => .int (upd f i.toNatClampNeg (x.toInt8.toInt32) j)))
      rw [e1, arrV_store]
      congr 2
      funext q
      by_cases hq : q = i.toNatClampNeg
      · subst hq; simp [updV, upd, narrow]
      · simp [updV, upd, hq]
    · exact h.elim
  · exact h.elim
def pz_aast (t0 ci n : Nat) : pz_I := fun Q k u L S M => match S with
  | .ref v :: .int i :: .ref r :: S => match pz_nth M r with
    | some (.inr (.inl (t, N, f))) => match t == t0 with
      | true => match pz_nth M v with
        | some (.inr (.inr (c, fs))) => match c == ci with
          | true => vp_in i N ∧ k n u L S (pz_set M r (.inr (.inl (t, N, va_up f i.toNatClampNeg (some v)))))
          | false => False
        | _ => False
      | false => False
    | _ => False
  | _ => False
theorem pz_s_aast {κ : pz_K} {pc t0 ci : Nat} {q0 : vw_C} (hd : decode (pz_cc κ) pc = .ok (.aastore, 1)) (ht0 : pz_aty t0 = some q0.1) (hc0 : pz_cls[ci]? = some q0) : pz_S κ pc (pz_aast t0 ci (pc + 1)) := by
  intro φ Q k u L S M h hk E p l e R s m args below meth c H locs ls P C h1 h2 hW hS hl hr
  have hx := C.1
  have hb := C.2.1
  have hown := C.2.2.2.1
  have hts := C.2.2.2.2.1
  have hK := C.2.2.2.2.2.2.2.2.2.2.1
  have hG := C.2.2.2.2.2.2.2.2.2.2.2.1
  have hB := C.2.2.2.2.2.2.2.2.2.2.2.2.1
  unfold pz_aast at h
  split at h
  · next v i r S' =>
    split at h
    · next t N f hq =>
      split at h
      · next ht =>
        have ht : t = t0 := by simpa using ht
        subst ht
        split at h
        · next c9 fs hv =>
          split at h
          · next hci =>
            have hci : c9 = ci := by simpa using hci
            subst hci
            have ha := hW.at hq
            have hav := hW.at hv
            have eS : List.map (pz_v E) (.ref v :: .int i :: .ref r :: S') = .ref (E.2.2.1 + v) :: .int i :: .ref (E.2.2.1 + r) :: List.map (pz_v E) S' := by rw [← ha.2, ← hav.2]; rfl
            rw [eS]
            have hin := h.1
            have hlt : i.toNatClampNeg < N := Nat.not_le.mp fun q => hin (Or.inr q)
            have hn0 : ¬ i < 0 := fun q => hin (Or.inl q)
            obtain ⟨r', hr', cellV, g1, g2, g3, -⟩ := hav.1
            have hcls := (hK.1 c9 q0 hc0).2
            obtain ⟨kA, comp, k1, k2, k3, -⟩ := (hK.2 t _ (pz_aty_ok ht0)).2
            have hcomp : comp = E.1.1 c9 := Option.some.inj (k3.symm.trans hcls.1)
            subst hcomp
            obtain ⟨kC, hkC, -⟩ := hcls.2
            have hc : H[E.2.2.1 + r]? = some (arrV (E.2.1 t) N (fun j => va_rf ((f j).map (pz_x E)))) := ha.1
            refine W.aast hx hb hc (fun q h => by cases h) (fun h => by cases h) k1 k2 rfl hkC ⟨hn0, by rw [arrV_size]; exact hlt⟩ g1 (fun q h => by rw [g3] at h; cases h) (by rw [g2]; exact hkC) (by rw [g2]; exact va_assign hcls) rfl rfl hd fun H1 e1 z1 o1 => ?_
            refine hk _ _ _ _ _ h.2 E p l e R s m args below meth c H1 _ ls P C h1 h2 (hW.set hq z1 o1 ?_) (hS.put z1 o1 (Nat.le_add_right _ _)) hl hr
            show H1[E.2.2.1 + r]? = some (arrV (E.2.1 t) N (fun j => va_rf ((va_up f i.toNatClampNeg (some v) j).map (pz_x E))))
            rw [e1, arrV_store]
            congr 2
            funext q
            by_cases hq : q = i.toNatClampNeg
            · subst hq; simp [updV, va_up, va_rf, hav.2]
            · simp [updV, va_up, hq]
          · exact h.elim
        · exact h.elim
      · exact h.elim
    · exact h.elim
  · exact h.elim
def pz_get (ci j n : Nat) : pz_I := fun Q k u L S M => match S with
  | .ref r :: S => match pz_nth M r with
    | some (.inr (.inr (c, fs))) => match c == ci with
      | true => match pz_nth fs j with
        | some v => k n u L (v :: S) M
        | none => False
      | false => False
    | _ => False
  | _ => False
theorem pz_s_get {κ : pz_K} {pc i ci j : Nat} {q0 : vw_C} (hd : decode (pz_cc κ) pc = .ok (.getfield i, 3)) (hc0 : pz_cls[ci]? = some q0) (hj : j < q0.2.2) (hw : Cond.fieldLink (pz_own κ) i (q0.2.1 j).1 (q0.2.1 j).2.1 (q0.2.1 j).2.2.1 ∈ pz_TB) : pz_S κ pc (pz_get ci j (pc + 3)) := by
  intro φ Q k u L S M h hk E p l e R s m args below meth c H locs ls P C h1 h2 hW hS hl hr
  have hx := C.1
  have hb := C.2.1
  have hown := C.2.2.2.1
  have hts := C.2.2.2.2.1
  have hK := C.2.2.2.2.2.2.2.2.2.2.1
  have hG := C.2.2.2.2.2.2.2.2.2.2.2.1
  have hB := C.2.2.2.2.2.2.2.2.2.2.2.2.1
  unfold pz_get at h
  split at h
  · next r S' =>
    split at h
    · next c9 fs hq =>
      split at h
      · next hci =>
        have hci : c9 = ci := by simpa using hci
        subst hci
        split at h
        · next v hv =>
          have ha := hW.at hq
          have hp := hW.one hq
          have eS : List.map (pz_v E) (.ref r :: S') = .ref (E.2.2.1 + r) :: List.map (pz_v E) S' := by rw [← ha.2]; rfl
          rw [eS]
          have hk' := (hk _ _ _ _ _ h E p l e R s m args below meth c H locs ls P C h1 h2 hW hS hl hr)
          exact va_get (D := E.1) (cl := pz_cls) (tys := pz_tys E) (C := q0.1) (T := q0.2.1) (N := q0.2.2) (fs := fs.map (pz_v E)) hx hb hts (pz_cok_all c9 q0 hc0).1 hown hK hp 0 rfl hc0 j hj (hts _ hw) (fun _ h9 => h9) (by rw [List.getElem?_map, ← pz_nth_eq, hv]; rfl) hd hk'
        · exact h.elim
      · exact h.elim
    · exact h.elim
  · exact h.elim
theorem pz_put_at {E : pz_V} {H1 : Heap} {r ci j : Nat} {fs : List Value} {v : Value} {q0 : vw_C} {cell : Cell} (hc0 : pz_cls[ci]? = some q0) (hj : j < q0.2.2) (hjf : j < fs.length) (q2 : cell.cls = E.1.1 ci) (q3 : cell.vm = .none) (q4 : ∀ k, k < q0.2.2 → cell.slots[E.1.2 ci k]? = some (vp_V (fs.map (pz_v E)) k)) (hap : ∀ x y, x < q0.2.2 → y < q0.2.2 → x ≠ y → E.1.2 ci x ≠ E.1.2 ci y) (e1 : H1[E.2.2.1 + r]? = some (cell.setSlot (E.1.2 ci j) (pz_v E v))) : va_at E.1 pz_cls (E.2.2.1 + r, pz_e E (.inr (.inr (ci, pz_set fs j v)))) H1 := by
  refine ⟨q0, hc0, t_OB.to (V := updV (vp_V (fs.map (pz_v E))) j (pz_v E v)) ⟨_, e1, q2, q3, t_set q4 hap hj (pz_v E v)⟩ (fun z _ => ?_)⟩
  rw [vp_updV_set (by rw [List.length_map]; exact hjf)]
  show vp_V _ z = vp_V ((pz_set fs j v).map (pz_v E)) z
  rw [pz_set_eq, List.map_set]
theorem pz_put_core {κ : pz_K} {pc i ci j : Nat} {q0 : vw_C} {ty : FieldType} (hd : decode (pz_cc κ) pc = .ok (.putfield i, 3)) (hc0 : pz_cls[ci]? = some q0) (hj : j < q0.2.2) (hw : Cond.fieldLink (pz_own κ) i (q0.2.1 j).1 (q0.2.1 j).2.1 (q0.2.1 j).2.2.1 ∈ pz_TB) (hfin : (q0.2.1 j).2.2.2 = false) (hdt : parseFieldDescriptor (q0.2.1 j).2.2.1 = some ty) {φ : pz_V → State → Prop} {Q : pz_Q} {k : pz_k} {u : Nat × Nat} {L : pz_L} {S : List Value} {M : pz_M} {v : Value} {r c9 : Nat} {fs : List Value} {v0 : Value} (hq : pz_nth M r = some (.inr (.inr (c9, fs)))) (hci : c9 = ci) (hv : pz_nth fs j = some v0) (hn : ∀ E : pz_V, narrow ty (pz_v E v) = pz_v E v) (hfit : ∀ E : pz_V, fits ty (pz_v E v) = true)
    (h : k (pc + 3) u L S (pz_set M r (.inr (.inr (c9, pz_set fs j v))))) (hk : ∀ (pc' : Nat) (u' : Nat × Nat) (L' : pz_L) (S' : List Value) (M' : pz_M), k pc' u' L' S' M' → pz_T φ κ Q pc' u' L' S' M') : pz_T φ κ Q pc u L (v :: .ref r :: S) M := by
  intro E p l e R s m args below meth c H locs ls P C h1 h2 hW hS hl hr
  subst hci
  have hx := C.1
  have hb := C.2.1
  have hown := C.2.2.2.1
  have hts := C.2.2.2.2.1
  have hK := C.2.2.2.2.2.2.2.2.2.2.1
  have ha := hW.at hq
  have hjf : j < fs.length := by rw [pz_nth_eq] at hv; exact (List.getElem?_eq_some_iff.mp hv).1
  obtain ⟨hin, ty0, hty, hnm⟩ := pz_cok_all c9 q0 hc0
  have hap := va_apart (own := pz_own κ) hts hin ty0 hty hnm hK hc0
  obtain ⟨r9, z1, cell, q1, q2, q3, q4⟩ := ha.1
  have hr9 : r9 = q0 := Option.some.inj (z1.symm.trans hc0)
  subst hr9
  obtain ⟨hSl, hfc, kC, hkC, hkind⟩ := hK.1 c9 _ hc0
  obtain ⟨cf, kf, fi, f, hi, hsl⟩ := hSl j hj
  have hlay := hts _ (hin _ (u_in_lay hj))
  unfold u_lay at hlay
  rw [if_neg (by rw [hfin]; decide)] at hlay
  have hst := (u_facts hfc hkC (u_lays hts hin hj) hi).1
  have eS : List.map (pz_v E) (v :: .ref r :: S) = pz_v E v :: .ref (E.2.2.1 + r) :: List.map (pz_v E) S := by rw [← ha.2]; rfl
  rw [eS]
  have h6 := u_store hfc hkC hkind hlay hi hdt (hn E) (hfit E)
  refine W.putK hx hb (f := f) ⟨hown, hts _ hw, ⟨_, _, _, hi⟩, hst⟩ (by rw [q2]; exact h6) q1 q3 (by rw [hsl]; exact k2_hasslot (q4 j hj)) rfl rfl hd fun H' e1 e2 e3 => ?_
  rw [hsl] at e1
  exact hk _ _ _ _ _ h E p l e R s m args below meth c H' _ ls P C h1 h2 (hW.set hq e2 e3 (pz_put_at hc0 hj hjf q2 q3 q4 hap e1)) (hS.put e2 e3 (Nat.le_add_right _ _)) hl hr
theorem pz_putF_core {κ : pz_K} {pc i ci j : Nat} {q0 : vw_C} {ty : FieldType} (hd : decode (pz_cc κ) pc = .ok (.putfield i, 3)) (hc0 : pz_cls[ci]? = some q0) (hj : j < q0.2.2) (hw : Cond.fieldLink (pz_own κ) i (q0.2.1 j).1 (q0.2.1 j).2.1 (q0.2.1 j).2.2.1 ∈ pz_TB) (hfin : (q0.2.1 j).2.2.2 = true) (hdt : parseFieldDescriptor (q0.2.1 j).2.2.1 = some ty) (hin2 : pz_nm κ = "<init>") (hdecl : (q0.2.1 j).1 = pz_own κ) {φ : pz_V → State → Prop} {Q : pz_Q} {k : pz_k} {u : Nat × Nat} {L : pz_L} {S : List Value} {M : pz_M} {v : Value} {r c9 : Nat} {fs : List Value} {v0 : Value} (hq : pz_nth M r = some (.inr (.inr (c9, fs)))) (hci : c9 = ci) (hv : pz_nth fs j = some v0) (hn : ∀ E : pz_V, narrow ty (pz_v E v) = pz_v E v) (hfit : ∀ E : pz_V, fits ty (pz_v E v) = true)
    (h : k (pc + 3) u L S (pz_set M r (.inr (.inr (c9, pz_set fs j v))))) (hk : ∀ (pc' : Nat) (u' : Nat × Nat) (L' : pz_L) (S' : List Value) (M' : pz_M), k pc' u' L' S' M' → pz_T φ κ Q pc' u' L' S' M') : pz_T φ κ Q pc u L (v :: .ref r :: S) M := by
  intro E p l e R s m args below meth c H locs ls P C h1 h2 hW hS hl hr
  subst hci
  have hx := C.1
  have hb := C.2.1
  have hown := C.2.2.2.1
  have hts := C.2.2.2.2.1
  have hK := C.2.2.2.2.2.2.2.2.2.2.1
  have ha := hW.at hq
  have hjf : j < fs.length := by rw [pz_nth_eq] at hv; exact (List.getElem?_eq_some_iff.mp hv).1
  obtain ⟨hin, ty0, hty, hnm⟩ := pz_cok_all c9 q0 hc0
  have hap := va_apart (own := pz_own κ) hts hin ty0 hty hnm hK hc0
  obtain ⟨r9, z1, cell, q1, q2, q3, q4⟩ := ha.1
  have hr9 : r9 = q0 := Option.some.inj (z1.symm.trans hc0)
  subst hr9
  obtain ⟨hSl, hfc, kC, hkC, hkind⟩ := hK.1 c9 _ hc0
  obtain ⟨cf, kf, fi, f, hi, hsl⟩ := hSl j hj
  have hlay := hts _ (hin _ (u_in_lay hj))
  unfold u_lay at hlay
  rw [if_pos hfin] at hlay
  have hst := (u_facts hfc hkC (u_lays hts hin hj) hi).1
  have eS : List.map (pz_v E) (v :: .ref r :: S) = pz_v E v :: .ref (E.2.2.1 + r) :: List.map (pz_v E) S := by rw [← ha.2]; rfl
  rw [eS]
  have hcf : m.cls = cf := by
    obtain ⟨_, _, c', _, _, _, -, -, hf', -, -, -, hown2, -⟩ := Cond.laysFinal_spec hlay
    have e1 : c' = cf := by have := hi.symm.trans hf'; simp at this; exact this.1.symm
    rw [hdecl] at hown2
    rw [← e1]; exact Option.some.inj (hown.symm.trans hown2)
  have h6 := u_fits hfc hkC hkind (Or.inr hlay) hi hdt (hn E) (hfit E)
  refine W.putFinK hx hb hown (hts _ hw) hi hst hcf (C.2.2.2.2.2.1.trans hin2) (by rw [q2]; exact h6) q1 q3 (by rw [hsl]; exact k2_hasslot (q4 j hj)) rfl rfl hd fun H' e1 e2 e3 => ?_
  rw [hsl] at e1
  exact hk _ _ _ _ _ h E p l e R s m args below meth c H' _ ls P C h1 h2 (hW.set hq e2 e3 (pz_put_at hc0 hj hjf q2 q3 q4 hap e1)) (hS.put e2 e3 (Nat.le_add_right _ _)) hl hr
def pz_puti (ci j n : Nat) : pz_I := fun Q k u L S M => match S with
  | .int x :: .ref r :: S => match pz_nth M r with
    | some (.inr (.inr (c, fs))) => match c == ci with
      | true => match pz_nth fs j with
        | some _ => k n u L S (pz_set M r (.inr (.inr (c, pz_set fs j (.int x)))))
        | none => False
      | false => False
    | _ => False
  | _ => False
theorem pz_s_puti {κ : pz_K} {pc i ci j : Nat} {q0 : vw_C}  (hd : decode (pz_cc κ) pc = .ok (.putfield i, 3)) (hc0 : pz_cls[ci]? = some q0) (hj : j < q0.2.2) (hw : Cond.fieldLink (pz_own κ) i (q0.2.1 j).1 (q0.2.1 j).2.1 (q0.2.1 j).2.2.1 ∈ pz_TB) (hfin : (q0.2.1 j).2.2.2 = false) (hdt : parseFieldDescriptor (q0.2.1 j).2.2.1 = some .int) : pz_S κ pc (pz_puti ci j (pc + 3)) := by
  intro φ Q k u L S M h hk
  unfold pz_puti at h
  split at h
  · split at h
    · next c9 fs hq =>
      split at h
      · next hci =>
        split at h
        · next v0 hv => exact pz_put_core (v := .int _) hd hc0 hj hw hfin hdt hq (by simpa using hci) hv (fun _ => rfl) (fun _ => rfl) h hk
        · exact h.elim
      · exact h.elim
    · exact h.elim
  · exact h.elim
def pz_putz (ci j n : Nat) : pz_I := fun Q k u L S M => match S with
  | .int x :: .ref r :: S => match pz_nth M r with
    | some (.inr (.inr (c, fs))) => match c == ci with
      | true => match pz_nth fs j with
        | some _ => (x = 0 ∨ x = 1) ∧ k n u L S (pz_set M r (.inr (.inr (c, pz_set fs j (.int x)))))
        | none => False
      | false => False
    | _ => False
  | _ => False
theorem pz_s_putz {κ : pz_K} {pc i ci j : Nat} {q0 : vw_C}  (hd : decode (pz_cc κ) pc = .ok (.putfield i, 3)) (hc0 : pz_cls[ci]? = some q0) (hj : j < q0.2.2) (hw : Cond.fieldLink (pz_own κ) i (q0.2.1 j).1 (q0.2.1 j).2.1 (q0.2.1 j).2.2.1 ∈ pz_TB) (hfin : (q0.2.1 j).2.2.2 = false) (hdt : parseFieldDescriptor (q0.2.1 j).2.2.1 = some .boolean) : pz_S κ pc (pz_putz ci j (pc + 3)) := by
  intro φ Q k u L S M h hk
  unfold pz_putz at h
  split at h
  · split at h
    · next c9 fs hq =>
      split at h
      · next hci =>
        split at h
        · next v0 hv => exact pz_put_core (v := .int _) hd hc0 hj hw hfin hdt hq (by simpa using hci) hv (fun _ => by rcases h.1 with rfl | rfl <;> rfl) (fun _ => by rcases h.1 with rfl | rfl <;> rfl) h.2 hk
        · exact h.elim
      · exact h.elim
    · exact h.elim
  · exact h.elim
def pz_puta (ci j n : Nat) : pz_I := fun Q k u L S M => match S with
  | .ref x :: .ref r :: S => match pz_nth M r with
    | some (.inr (.inr (c, fs))) => match c == ci with
      | true => match pz_nth fs j with
        | some _ => k n u L S (pz_set M r (.inr (.inr (c, pz_set fs j (.ref x)))))
        | none => False
      | false => False
    | _ => False
  | .null :: .ref r :: S => match pz_nth M r with
    | some (.inr (.inr (c, fs))) => match c == ci with
      | true => match pz_nth fs j with
        | some _ => k n u L S (pz_set M r (.inr (.inr (c, pz_set fs j .null))))
        | none => False
      | false => False
    | _ => False
  | _ => False
theorem pz_s_puta {κ : pz_K} {pc i ci j : Nat} {q0 : vw_C} {nm : String} (hd : decode (pz_cc κ) pc = .ok (.putfield i, 3)) (hc0 : pz_cls[ci]? = some q0) (hj : j < q0.2.2) (hw : Cond.fieldLink (pz_own κ) i (q0.2.1 j).1 (q0.2.1 j).2.1 (q0.2.1 j).2.2.1 ∈ pz_TB) (hfin : (q0.2.1 j).2.2.2 = false) (hdt : parseFieldDescriptor (q0.2.1 j).2.2.1 = some (.object nm)) : pz_S κ pc (pz_puta ci j (pc + 3)) := by
  intro φ Q k u L S M h hk
  unfold pz_puta at h
  split at h
  · split at h
    · next c9 fs hq =>
      split at h
      · next hci =>
        split at h
        · next v0 hv => exact pz_put_core (v := .ref _) hd hc0 hj hw hfin hdt hq (by simpa using hci) hv (fun _ => rfl) (fun _ => rfl) h hk
        · exact h.elim
      · exact h.elim
    · exact h.elim
  · split at h
    · next c9 fs hq =>
      split at h
      · next hci =>
        split at h
        · next v0 hv => exact pz_put_core (v := .null) hd hc0 hj hw hfin hdt hq (by simpa using hci) hv (fun _ => rfl) (fun _ => rfl) h hk
        · exact h.elim
      · exact h.elim
    · exact h.elim
  · exact h.elim
theorem pz_s_putaF {κ : pz_K} {pc i ci j : Nat} {q0 : vw_C} {nm : String} (hd : decode (pz_cc κ) pc = .ok (.putfield i, 3)) (hc0 : pz_cls[ci]? = some q0) (hj : j < q0.2.2) (hw : Cond.fieldLink (pz_own κ) i (q0.2.1 j).1 (q0.2.1 j).2.1 (q0.2.1 j).2.2.1 ∈ pz_TB) (hfin : (q0.2.1 j).2.2.2 = true) (hdt : parseFieldDescriptor (q0.2.1 j).2.2.1 = some (.object nm)) (hin2 : pz_nm κ = "<init>") (hdecl : (q0.2.1 j).1 = pz_own κ) : pz_S κ pc (pz_puta ci j (pc + 3)) := by
  intro φ Q k u L S M h hk
  unfold pz_puta at h
  split at h
  · split at h
    · next c9 fs hq =>
      split at h
      · next hci =>
        split at h
        · next v0 hv => exact pz_putF_core (v := .ref _) hd hc0 hj hw hfin hdt hin2 hdecl hq (by simpa using hci) hv (fun _ => rfl) (fun _ => rfl) h hk
        · exact h.elim
      · exact h.elim
    · exact h.elim
  · split at h
    · next c9 fs hq =>
      split at h
      · next hci =>
        split at h
        · next v0 hv => exact pz_putF_core (v := .null) hd hc0 hj hw hfin hdt hin2 hdecl hq (by simpa using hci) hv (fun _ => rfl) (fun _ => rfl) h hk
        · exact h.elim
      · exact h.elim
    · exact h.elim
  · exact h.elim
theorem pz_s_putaFA {κ : pz_K} {pc i ci j : Nat} {q0 : vw_C} {t9 : FieldType} (hd : decode (pz_cc κ) pc = .ok (.putfield i, 3)) (hc0 : pz_cls[ci]? = some q0) (hj : j < q0.2.2) (hw : Cond.fieldLink (pz_own κ) i (q0.2.1 j).1 (q0.2.1 j).2.1 (q0.2.1 j).2.2.1 ∈ pz_TB) (hfin : (q0.2.1 j).2.2.2 = true) (hdt : parseFieldDescriptor (q0.2.1 j).2.2.1 = some (.array t9)) (hin2 : pz_nm κ = "<init>") (hdecl : (q0.2.1 j).1 = pz_own κ) : pz_S κ pc (pz_puta ci j (pc + 3)) := by
  intro φ Q k u L S M h hk
  unfold pz_puta at h
  split at h
  · split at h
    · next c9 fs hq =>
      split at h
      · next hci =>
        split at h
        · next v0 hv => exact pz_putF_core (v := .ref _) hd hc0 hj hw hfin hdt hin2 hdecl hq (by simpa using hci) hv (fun _ => rfl) (fun _ => rfl) h hk
        · exact h.elim
      · exact h.elim
    · exact h.elim
  · split at h
    · next c9 fs hq =>
      split at h
      · next hci =>
        split at h
        · next v0 hv => exact pz_putF_core (v := .null) hd hc0 hj hw hfin hdt hin2 hdecl hq (by simpa using hci) hv (fun _ => rfl) (fun _ => rfl) h hk
        · exact h.elim
      · exact h.elim
    · exact h.elim
  · exact h.elim
