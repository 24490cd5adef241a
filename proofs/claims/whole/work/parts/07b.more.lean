/-! lengths of rows; texts outside; the script -/
def pz_alen (n : Nat) : pz_I := fun Q k u L S M => match S with
  | .ref r :: S => match pz_nth M r with
    | some (.inl (0, N, _)) => k n u L (.int (nI N) :: S) M
    | _ => False
  | _ => False
theorem pz_s_alen {κ : pz_K} {pc : Nat} (hd : decode (pz_cc κ) pc = .ok (.arraylength, 1)) : pz_S κ pc (pz_alen (pc + 1)) := by
  intro φ Q k u L S M h hk E p l e R s m args below meth c H locs ls P C h1 h2 hW hS hl hr
  have hK := C.2.2.2.2.2.2.2.2.2.2.1
  unfold pz_alen at h
  split at h
  · next r S' =>
    split at h
    · next N f hq =>
      have hk' := hk _ _ _ _ _ h E p l e R s m args below meth c H locs ls P C h1 h2 hW hS hl hr
      have ha := hW.at hq
      have hp := hW.one hq
      have eS : List.map (pz_v E) (.ref r :: S') = .ref (E.2.2.1 + r) :: List.map (pz_v E) S' := by rw [← ha.2]; rfl
      rw [eS]
      exact va_alen (D := E.1) (cl := pz_cls) (tys := pz_tys E) (x := (N, .inl f)) (ty := .int) (v := nI N) C.1 C.2.1 hK hp 0 0 rfl rfl rfl hd hk'
    · exact h.elim
  · exact h.elim
def pz_sn (r : Nat) : Option Nat := match Nat.ble 1000010 r && Nat.blt r 1000016 with
  | true => some (r - 1000010)
  | false => none
def pz_bn (r : Nat) : Option Nat := match Nat.ble 1000020 r && Nat.blt r 1000026 with
  | true => some (r - 1000020)
  | false => none
theorem pz_sn_ok {r i : Nat} (h : pz_sn r = some i) : i < 6 ∧ r = 1000010 + i := by
  unfold pz_sn at h
  split at h
  · next hb =>
    simp only [Bool.and_eq_true] at hb
    have h1 := Nat.le_of_ble_eq_true hb.1
    have h2 : r < 1000016 := Nat.le_of_ble_eq_true hb.2
    have h : r - 1000010 = i := Option.some.inj h
    omega
  · cases h
theorem pz_bn_ok {r i : Nat} (h : pz_bn r = some i) : i < 6 ∧ r = 1000020 + i := by
  unfold pz_bn at h
  split at h
  · next hb =>
    simp only [Bool.and_eq_true] at hb
    have h1 := Nat.le_of_ble_eq_true hb.1
    have h2 : r < 1000026 := Nat.le_of_ble_eq_true hb.2
    have h : r - 1000020 = i := Option.some.inj h
    omega
  · cases h
def pz_ldS (i n : Nat) : pz_I := fun Q k u L S M => k n u L (.ref (1000010 + i) :: S) M
theorem pz_vout {E : pz_V} {i : Nat} (h : 1000000 ≤ i) : pz_v E (.ref i) = .ref (E.2.2.2 i) := by
  show Value.ref (pz_x E i) = _
  rw [pz_x_out (by omega)]
theorem pz_s_ldS {κ : pz_K} {pc ix i : Nat} (hd : decode (pz_cc κ) pc = .ok (.ldc ix, 2)) (hi : i < 6) (hix : (pz_txt i).1 = ix) (ho : pz_own κ = RX3) : pz_S κ pc (pz_ldS i (pc + 2)) := by
  intro φ Q k u L S M h hk E p l e R s m args below meth c H locs ls P C h1 h2 hW hS hl hr
  have hk' := hk _ _ _ _ _ h E p l e R s m args below meth c H locs ls P C h1 h2 hW hS hl hr
  have hG := C.2.2.2.2.2.2.2.2.2.2.2.1
  have hown := C.2.2.2.1
  rw [ho] at hown
  rw [List.map_cons, pz_vout (by omega)] at hk'
  subst hix
  exact va_ldcS C.1 C.2.1 hown (hG.2.2.2.2.2.2 i hi) hd hk'
def pz_gsv (n : Nat) : pz_I := fun Q k u L S M => match S with
  | .ref r :: S => match pz_sn r with
    | some i => k n u L (.ref (1000020 + i) :: S) M
    | none => False
  | _ => False
theorem pz_s_gsv {κ : pz_K} {pc ix : Nat} (hd : decode (pz_cc κ) pc = .ok (.getfield ix, 3)) (hw : Cond.fieldLink (pz_own κ) ix "java/lang/String" "value" "[B" ∈ pz_TB) : pz_S κ pc (pz_gsv (pc + 3)) := by
  intro φ Q k u L S M h hk E p l e R s m args below meth c H locs ls P C h1 h2 hW hS hl hr
  have hG := C.2.2.2.2.2.2.2.2.2.2.2.1
  unfold pz_gsv at h
  split at h
  · next r S' =>
    split at h
    · next i hq =>
      obtain ⟨hi, rfl⟩ := pz_sn_ok hq
      have hk' := hk _ _ _ _ _ h E p l e R s m args below meth c H locs ls P C h1 h2 hW hS hl hr
      rw [List.map_cons, pz_vout (by omega)] at hk'
      rw [List.map_cons, pz_vout (by omega)]
      exact vk_getf C.1 C.2.1 (hG.2.2.2.2.2.1.1 i hi).2.2.1 hS C.2.2.2.1 (C.2.2.2.2.1 _ hw) (fun _ h => h) hd hk'
    · exact h.elim
  · exact h.elim
def pz_gsc (n : Nat) : pz_I := fun Q k u L S M => match S with
  | .ref r :: S => match pz_sn r with
    | some _ => k n u L (.int 0 :: S) M
    | none => False
  | _ => False
theorem pz_s_gsc {κ : pz_K} {pc ix : Nat} (hd : decode (pz_cc κ) pc = .ok (.getfield ix, 3)) (hw : Cond.fieldLink (pz_own κ) ix "java/lang/String" "coder" "B" ∈ pz_TB) : pz_S κ pc (pz_gsc (pc + 3)) := by
  intro φ Q k u L S M h hk E p l e R s m args below meth c H locs ls P C h1 h2 hW hS hl hr
  have hG := C.2.2.2.2.2.2.2.2.2.2.2.1
  unfold pz_gsc at h
  split at h
  · next r S' =>
    split at h
    · next i hq =>
      obtain ⟨hi, rfl⟩ := pz_sn_ok hq
      have hk' := hk _ _ _ _ _ h E p l e R s m args below meth c H locs ls P C h1 h2 hW hS hl hr
      rw [List.map_cons, pz_vout (by omega)]
      exact vk_getf C.1 C.2.1 (hG.2.2.2.2.2.1.1 i hi).2.1 hS C.2.2.2.1 (C.2.2.2.2.1 _ hw) (fun _ h => h) hd hk'
    · exact h.elim
  · exact h.elim
def pz_gcs (n : Nat) : pz_I := fun Q k u L S M => k n u L (.int 1 :: S) M
theorem pz_s_gcs {κ : pz_K} {pc ix : Nat} (hd : decode (pz_cc κ) pc = .ok (.getstatic ix, 3)) (hw : Cond.fieldLink (pz_own κ) ix "java/lang/String" "COMPACT_STRINGS" "Z" ∈ pz_TB) : pz_S κ pc (pz_gcs (pc + 3)) := by
  intro φ Q k u L S M h hk E p l e R s m args below meth c H locs ls P C h1 h2 hW hS hl hr
  have hG := C.2.2.2.2.2.2.2.2.2.2.2.1
  have hk' := hk _ _ _ _ _ h E p l e R s m args below meth c H locs ls P C h1 h2 hW hS hl hr
  exact va_gets C.1 C.2.1 hG.2.2.2.1 hS C.2.2.2.1 (C.2.2.2.2.1 _ hw) (fun _ h9 => h9) hd hk'
def pz_gsq (n : Nat) : pz_I := fun Q k u L S M => k n u L (.null :: S) M ∧ k n u L (.ref 1000040 :: S) M
theorem pz_s_gsq {κ : pz_K} {pc ix : Nat} (hd : decode (pz_cc κ) pc = .ok (.getstatic ix, 3)) (hw : Cond.fieldLink (pz_own κ) ix "jdk/internal/util/Preconditions" "SIOOBE_FORMATTER" "Ljava/util/function/BiFunction;" ∈ pz_TB) : pz_S κ pc (pz_gsq (pc + 3)) := by
  intro φ Q k u L S M h hk E p l e R s m args below meth c H locs ls P C h1 h2 hW hS hl hr
  have hG := C.2.2.2.2.2.2.2.2.2.2.2.1
  rcases hG.2.2.2.2.1 with hz | hz
  · have hk' := hk _ _ _ _ _ h.1 E p l e R s m args below meth c H locs ls P C h1 h2 hW hS hl hr
    exact va_gets C.1 C.2.1 hz hS C.2.2.2.1 (C.2.2.2.2.1 _ hw) (fun _ h9 => h9) hd hk'
  · have hk' := hk _ _ _ _ _ h.2 E p l e R s m args below meth c H locs ls P C h1 h2 hW hS hl hr
    rw [List.map_cons, pz_vout (by omega)] at hk'
    exact va_gets C.1 C.2.1 hz hS C.2.2.2.1 (C.2.2.2.2.1 _ hw) (fun _ h9 => h9) hd hk'
def pz_xlen (n : Nat) : pz_I := fun Q k u L S M => match S with
  | .ref r :: S => match pz_bn r with
    | some i => k n u L (.int (nI (pz_len.getD i 0)) :: S) M
    | none => False
  | _ => False
theorem pz_s_xlen {κ : pz_K} {pc : Nat} (hd : decode (pz_cc κ) pc = .ok (.arraylength, 1)) : pz_S κ pc (pz_xlen (pc + 1)) := by
  intro φ Q k u L S M h hk E p l e R s m args below meth c H locs ls P C h1 h2 hW hS hl hr
  have hG := C.2.2.2.2.2.2.2.2.2.2.2.1
  unfold pz_xlen at h
  split at h
  · next r S' =>
    split at h
    · next i hq =>
      obtain ⟨hi, rfl⟩ := pz_bn_ok hq
      have hk' := hk _ _ _ _ _ h E p l e R s m args below meth c H locs ls P C h1 h2 hW hS hl hr
      rw [List.map_cons, pz_vout (by omega)]
      exact va_tlen C.1 C.2.1 (hG.2.2.2.2.2.1.1 i hi).2.2.2 hS (v := nI (pz_len.getD i 0)) rfl hd hk'
    · exact h.elim
  · exact h.elim
def pz_xbald (n : Nat) : pz_I := fun Q k u L S M => match S with
  | .int j :: .ref r :: S => match pz_bn r with
    | some i => vp_in j (pz_len.getD i 0) ∧ k n u L (.int ((pz_byt.getD i []).getD j.toNatClampNeg 0) :: S) M
    | none => False
  | _ => False
theorem pz_s_xbald {κ : pz_K} {pc : Nat} (hd : decode (pz_cc κ) pc = .ok (.baload, 1)) : pz_S κ pc (pz_xbald (pc + 1)) := by
  intro φ Q k u L S M h hk E p l e R s m args below meth c H locs ls P C h1 h2 hW hS hl hr
  have hG := C.2.2.2.2.2.2.2.2.2.2.2.1
  unfold pz_xbald at h
  split at h
  · next j r S' =>
    split at h
    · next i hq =>
      obtain ⟨hi, rfl⟩ := pz_bn_ok hq
      have hk' := hk _ _ _ _ _ h.2 E p l e R s m args below meth c H locs ls P C h1 h2 hW hS hl hr
      rw [List.map_cons, List.map_cons, pz_vout (by omega)]
      exact va_tb C.1 C.2.1 (hG.2.2.2.2.2.1.1 i hi).2.2.2 hS h.1 rfl hd hk'
    · exact h.elim
  · exact h.elim
/-- a method of a text outside -/
def pz_cvS (y : MethodName) (κ' : pz_K) (na n : Nat) : pz_I := fun Q k u L S M => match pz_take na [] S with
  | some (.ref r :: av, S') => match pz_sn r with
    | some _ => match Nat.ble (pz_cat S') 8 with
      | true => pz_C y κ' (.ref r :: av) M (fun v M' => k n u L (pz_ps v S') M')
      | false => False
    | none => False
  | _ => False
theorem pz_s_cvS {κ κ' : pz_K} {pc i na : Nat} {y : MethodName} (hd : decode (pz_cc κ) pc = .ok (.invokevirtual i, 3)) (hok : pz_okV (pz_own κ) i y (pz_cc κ') (pz_nL κ') (pz_rt κ') na) (hq0 : y.cls = "java/lang/String") (hdp : pz_d κ' + 1 ≤ pz_d κ) (h0 : pz_mc κ' = 0 ∧ pz_ms κ' = 0) : pz_S κ pc (pz_cvS y κ' (na + 1) (pc + 3)) := by
  intro φ Q k u L S M h hk E p l e R s m args below meth c H locs ls P C h1 h2 hW hS hl hr
  unfold pz_cvS at h
  split at h
  · next r av S' ht =>
    split at h
    · next i9 hq =>
      obtain ⟨hi, rfl⟩ := pz_sn_ok hq
      split at h
      · next hc =>
        obtain ⟨t1, t2⟩ := pz_take_0 ht
        subst t2
        obtain ⟨hall, o1, o2, o3, o4⟩ := hok
        obtain ⟨m0, s0⟩ := h0
        have hfr := C.2.2.2.2.2.2.1
        have hlo := C.2.2.2.2.2.2.2.1
        have hmc := C.2.2.2.2.2.2.2.2.1
        have hms := C.2.2.2.2.2.2.2.2.2.1
        have hG := C.2.2.2.2.2.2.2.2.2.2.2.1
        have hGI : GoodIn pz_TB (wsV (pz_own κ) i y.cls y (Cond.code y (pz_cc κ') (pz_nL κ') (pz_rt κ') :: pz_TB)) := by
          intro w hw
          rcases List.mem_append.mp hw with hw | hw
          · refine pz_good w (hall w ?_)
            simp only [List.mem_cons, List.not_mem_nil, or_false] at hw ⊢
            rcases hw with hw | hw | hw | hw
            · exact Or.inl hw
            · exact Or.inr (Or.inl hw)
            · exact Or.inr (Or.inr (Or.inl hw))
            · exact Or.inr (Or.inr (Or.inr (Or.inl hw)))
          · exact pz_goodC (hall _ (by simp)) w hw
        have hM := h l E
        rw [m0, s0] at hM
        have hx1 : (Value.ref (1000010 + i9) :: av).map (pz_v E) = .ref (E.2.2.2 (1000010 + i9)) :: av.map (pz_v E) := by rw [List.map_cons, pz_vout (by omega)]
        have hpre := pz_pre (av := .ref (1000010 + i9) :: av) C hW hS
        have hrec := vk_recv hG.2.2.2.2.2.1 hi hS
        rw [hx1] at hpre
        rw [← hq0] at hrec
        refine pz_after (mc' := 0) (ms' := 0) C h1 h2 hS hl hr (va_runV (As := av.map (pz_v E)) (b := E.2.2.2 (1000010 + i9)) ⟨C.1, C.2.1, C.2.2.1, C.2.2.2.1, C.2.2.2.2.1⟩ hM (cwV na C.2.2.2.2.1 hGI rfl m0 s0 ⟨rfl, o1, o2, o3⟩ ⟨by show pz_d κ' + 1 ≤ _; omega, by show 8 + (pz_nL κ' + 11) + 40 * pz_d κ' ≤ _; omega⟩) ⟨hpre.1, hrec, hpre.2⟩ rfl (by rw [List.length_map]; rw [List.length_cons] at t1; omega) hl.2.1 (by
          show List.map (pz_v E) ((Value.ref (1000010 + i9) :: av).reverse ++ S') = _
          rw [List.map_append, List.map_reverse, hx1, List.reverse_cons, List.append_assoc]; rfl) (by show 2 * 0 + _ ≤ 8; have := pz_cat_le (E := E) hc; omega) hd ⟨by rw [hmc]; exact h1, by rw [hms]; exact h2⟩) hk
      · exact h.elim
    · exact h.elim
  · exact h.elim
/-- the script, in the law alone -/
def pz_scr (b N : Nat) (xs : Nat → Int32) : pz_V → State → Prop := fun E s => va_X b N xs s s.heap ∧ b < E.2.2.1 ∧ E.2.2.2 1000030 = b
def pz_sclen (N n : Nat) : pz_I := fun Q k u L S M => match S with
  | .ref r :: S => match Nat.beq r 1000030 with
    | true => k n u L (.int (nI N) :: S) M
    | false => False
  | _ => False
theorem pz_s_sclen {b N : Nat} {xs : Nat → Int32} {κ : pz_K} {pc : Nat} (hd : decode (pz_cc κ) pc = .ok (.arraylength, 1)) : pz_Sp (pz_scr b N xs) κ pc (pz_sclen N (pc + 1)) := by
  intro Q k u L S M h hk E p l e R s m args below meth c H locs ls P C h1 h2 hW hS hl hr
  have hB := C.2.2.2.2.2.2.2.2.2.2.2.2
  unfold pz_sclen at h
  split at h
  · next r S' =>
    split at h
    · next hq =>
      have hq : r = 1000030 := Nat.eq_of_beq_eq_true hq
      subst hq
      have hk' := hk _ _ _ _ _ h E p l e R s m args below meth c H locs ls P C h1 h2 hW hS hl hr
      obtain ⟨hX, hb, he⟩ := hB.2
      rw [List.map_cons, pz_vout (by omega), he]
      exact va_slen C.1 C.2.1 hX (by omega) (Nat.not_le.mpr hb) hS hd hk'
    · exact h.elim
  · exact h.elim
def pz_sld (N : Nat) (xs : Nat → Int32) (n : Nat) : pz_I := fun Q k u L S M => match S with
  | .int i :: .ref r :: S => match Nat.beq r 1000030 with
    | true => vp_in i N ∧ k n u L (.int (xs i.toNatClampNeg) :: S) M
    | false => False
  | _ => False
theorem pz_s_sld {b N : Nat} {xs : Nat → Int32} {κ : pz_K} {pc : Nat} (hd : decode (pz_cc κ) pc = .ok (.iaload, 1)) : pz_Sp (pz_scr b N xs) κ pc (pz_sld N xs (pc + 1)) := by
  intro Q k u L S M h hk E p l e R s m args below meth c H locs ls P C h1 h2 hW hS hl hr
  have hB := C.2.2.2.2.2.2.2.2.2.2.2.2
  unfold pz_sld at h
  split at h
  · next i r S' =>
    split at h
    · next hq =>
      have hq : r = 1000030 := Nat.eq_of_beq_eq_true hq
      subst hq
      have hk' := hk _ _ _ _ _ h.2 E p l e R s m args below meth c H locs ls P C h1 h2 hW hS hl hr
      obtain ⟨hX, hb, he⟩ := hB.2
      rw [List.map_cons, List.map_cons, pz_vout (by omega), he]
      exact va_sld C.1 C.2.1 hX (by omega) (Nat.not_le.mpr hb) hS h.1 hd hk'
    · exact h.elim
  · exact h.elim
