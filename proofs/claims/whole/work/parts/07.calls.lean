/-! switches -/
def pz_swc (k : pz_k) (u : Nat × Nat) (L : pz_L) (S : List Value) (M : pz_M) (x : Int32) : List (Int32 × Nat) → Nat → Prop
  | [], d => k d u L S M
  | (a, t) :: r, d => (x = a → k t u L S M) ∧ (¬ x = a → pz_swc k u L S M x r d)
def pz_tgt (x : Int32) : List (Int32 × Nat) → Nat → Nat
  | [], d => d
  | (a, t) :: r, d => if x = a then t else pz_tgt x r d
theorem pz_swc_tgt {k : pz_k} {u : Nat × Nat} {L : pz_L} {S : List Value} {M : pz_M} {x : Int32} : ∀ {cs : List (Int32 × Nat)} {d : Nat}, pz_swc k u L S M x cs d → k (pz_tgt x cs d) u L S M
  | [], _, h => h
  | (a, t) :: r, d, h => by
    unfold pz_tgt
    by_cases hx : x = a
    · rw [if_pos hx]; exact h.1 hx
    · rw [if_neg hx]; exact pz_swc_tgt (h.2 hx)
def pz_sw (cs : List (Int32 × Nat)) (d : Nat) : pz_I := fun Q k u L S M => match S with
  | .int x :: S => pz_swc k u L S M x cs d
  | _ => False
theorem pz_off {x : Int32} {pc d : Nat} {dflt : Int} (hdf : (pc : Int) + dflt = (d : Int)) : ∀ cs : List (Int32 × Nat), (pc : Int) + Op.lookupswitch.offset (cs.map (fun q => (q.1.toInt, (q.2 : Int) - (pc : Int)))) dflt x.toInt = ((pz_tgt x cs d : Nat) : Int)
  | [] => by rw [List.map_nil, Op.lookupswitch.offset_nil]; exact hdf
  | (a, t) :: r => by
    rw [List.map_cons, Op.lookupswitch.offset_cons]
    unfold pz_tgt
    by_cases hx : x = a
    · rw [if_pos (by rw [hx]), if_pos hx]; omega
    · rw [if_neg (fun q => hx (Int32.toInt_inj.mp q.symm)), if_neg hx]; exact pz_off hdf r
theorem pz_s_lookup {κ : pz_K} {pc d len : Nat} {dflt : Int} {ps : Array (Int × Int)} {cs : List (Int32 × Nat)} (hd : decode (pz_cc κ) pc = .ok (.lookupswitch dflt ps, len)) (hp : (ps.toList.zip (ps.toList.drop 1)).all (fun (a, next) => a.1 < next.1) = true) (hps : ps.toList = cs.map (fun q => (q.1.toInt, (q.2 : Int) - (pc : Int)))) (hdf : (pc : Int) + dflt = (d : Int)) : pz_S κ pc (pz_sw cs d) := by
  intro φ Q k u L S M h hk E p l e R s m args below meth c H locs ls P C h1 h2 hW hS hl hr
  have hx := C.1
  have hb := C.2.1
  unfold pz_sw at h
  split at h
  · next x S' =>
    exact lv_lookup (x := x) hx hb hd hp rfl (by rw [hps]; exact pz_off hdf cs) (hk _ _ _ _ _ (pz_swc_tgt h) E p l e R s m args below meth c H locs ls P C h1 h2 hW hS hl hr)
  · exact h.elim
def pz_con : Int → List (Int32 × Nat) → Bool
  | _, [] => true
  | lo, (a, _) :: r => decide (a.toInt = lo) && pz_con (lo + 1) r
theorem pz_con_out {x : Int32} {d : Nat} : ∀ (cs : List (Int32 × Nat)) (lo : Int), pz_con lo cs = true → (x.toInt < lo ∨ lo + cs.length ≤ x.toInt) → pz_tgt x cs d = d
  | [], _, _, _ => rfl
  | (a, t) :: r, lo, h, hx => by
    simp only [pz_con, Bool.and_eq_true, decide_eq_true_eq] at h
    simp only [List.length_cons, Int.natCast_add, Int.natCast_one] at hx
    unfold pz_tgt
    rw [if_neg (fun q => by rw [q] at hx; omega)]
    exact pz_con_out r (lo + 1) h.2 (by omega)
theorem pz_con_in {x : Int32} {d : Nat} : ∀ (cs : List (Int32 × Nat)) (lo : Int), pz_con lo cs = true → ¬ x.toInt < lo → ¬ lo + cs.length ≤ x.toInt → ∃ a, cs[(x.toInt - lo).toNat]? = some (a, pz_tgt x cs d)
  | [], lo, _, h1, h2 => by simp only [List.length_nil] at h2; omega
  | (a, t) :: r, lo, h, h1, h2 => by
    simp only [pz_con, Bool.and_eq_true, decide_eq_true_eq] at h
    simp only [List.length_cons, Int.natCast_add, Int.natCast_one] at h2
    unfold pz_tgt
    by_cases hx : x = a
    · refine ⟨a, ?_⟩
      rw [if_pos hx, show (x.toInt - lo).toNat = 0 by rw [hx]; omega]
      rfl
    · have hne : x.toInt ≠ lo := fun q => hx (Int32.toInt_inj.mp (by rw [q, h.1]))
      obtain ⟨b, hb⟩ := pz_con_in (x := x) (d := d) r (lo + 1) h.2 (by omega) (by omega)
      refine ⟨b, ?_⟩
      rw [if_neg hx, show (x.toInt - lo).toNat = (x.toInt - (lo + 1)).toNat + 1 by omega, List.getElem?_cons_succ]
      exact hb
theorem pz_s_table {κ : pz_K} {pc d len : Nat} {dflt lo hi : Int} {offs : Array Int} {cs : List (Int32 × Nat)} (hd : decode (pz_cc κ) pc = .ok (.tableswitch dflt lo hi offs, len)) (hc : pz_con lo cs = true) (ho : offs.toList = cs.map (fun q => (q.2 : Int) - (pc : Int))) (hh : hi = lo + cs.length - 1) (hdf : (pc : Int) + dflt = (d : Int)) : pz_S κ pc (pz_sw cs d) := by
  intro φ Q k u L S M h hk E p l e R s m args below meth c H locs ls P C h1 h2 hW hS hl hr
  have hx := C.1
  have hb := C.2.1
  unfold pz_sw at h
  split at h
  · next x S' =>
    have hk' := hk _ _ _ _ _ (pz_swc_tgt h) E p l e R s m args below meth c H locs ls P C h1 h2 hW hS hl hr
    by_cases hin : x.toInt < lo ∨ hi < x.toInt
    · rw [pz_con_out cs lo hc (by omega)] at hk'
      exact lv_tableOut (x := x) hx hb hd hin hdf hk'
    · obtain ⟨a, ha⟩ := pz_con_in (x := x) (d := d) cs lo hc (by omega) (by omega)
      refine lv_tableIn (x := x) (off := ((pz_tgt x cs d : Nat) : Int) - (pc : Int)) hx hb hd (by omega) (by omega) ?_ (by omega) hk'
      rw [← Array.getElem?_toList, ho, List.getElem?_map, ha]
      rfl
  · exact h.elim
/-! calls -/
def pz_take : Nat → List Value → List Value → Option (List Value × List Value)
  | 0, acc, S => some (acc, S)
  | n + 1, acc, v :: S => pz_take n (v :: acc) S
  | _ + 1, _, [] => none
theorem pz_take_eq : ∀ (n : Nat) (acc S av S' : List Value), pz_take n acc S = some (av, S') → ∃ as : List Value, as.length = n ∧ av = as ++ acc ∧ S = as.reverse ++ S'
  | 0, acc, S, av, S', h => by cases h; exact ⟨[], rfl, rfl, rfl⟩
  | n + 1, acc, v :: S, av, S', h => by
    obtain ⟨as, a1, a2, a3⟩ := pz_take_eq n (v :: acc) S av S' h
    exact ⟨as ++ [v], by simp [a1], by simp [a2], by simp [a3]⟩
  | n + 1, acc, [], av, S', h => by cases h
theorem pz_take_0 {n : Nat} {S av S' : List Value} (h : pz_take n [] S = some (av, S')) : av.length = n ∧ S = av.reverse ++ S' := by
  obtain ⟨as, a1, a2, a3⟩ := pz_take_eq n [] S av S' h
  rw [List.append_nil] at a2
  subst a2
  exact ⟨a1, a3⟩
def pz_ps (v : Option Value) (S : List Value) : List Value := match v with
  | none => S
  | some x => x :: S
def pz_okS (own : String) (i : Nat) (y : MethodName) (cc : ByteArray) (nL : Nat) (rt : Option FieldType) (n : Nat) : Prop := (∀ w ∈ ([.methodLink own i y, .static y, .initialized y.cls, .code y cc nL rt] : List Cond), w ∈ pz_TB) ∧ (y.cls ≠ "java/lang/invoke/MethodHandle" ∧ y.cls ≠ "java/lang/invoke/VarHandle" ∧ (parseMethodDescriptor y.desc).map (fun d => d.parameters.length) = some n ∧ nL ≤ 21)
def pz_okV (own : String) (i : Nat) (y : MethodName) (cc : ByteArray) (nL : Nat) (rt : Option FieldType) (n : Nat) : Prop := (∀ w ∈ ([.methodLink own i y, .instanceMethod y, .selects y.cls y y, .initialized y.cls, .code y cc nL rt] : List Cond), w ∈ pz_TB) ∧ (y.cls ≠ "java/lang/invoke/MethodHandle" ∧ y.cls ≠ "java/lang/invoke/VarHandle" ∧ (parseMethodDescriptor y.desc).map (fun d => d.parameters.length) = some n ∧ nL ≤ 21)
def pz_okI (own : String) (i : Nat) (y : MethodName) (cc : ByteArray) (nL : Nat) (n : Nat) : Prop := (∀ w ∈ ([.methodLink own i y, .instanceMethod y, .initialized y.cls, .code y cc nL none] : List Cond), w ∈ pz_TB) ∧ (y.cls ≠ "java/lang/invoke/MethodHandle" ∧ y.cls ≠ "java/lang/invoke/VarHandle" ∧ (parseMethodDescriptor y.desc).map (fun d => d.parameters.length) = some n ∧ nL ≤ 21) ∧ y.name = "<init>"
/-- the same over a nest mate's private member -/
def pz_okSN (own : String) (i : Nat) (y : MethodName) (cc : ByteArray) (nL : Nat) (rt : Option FieldType) (n : Nat) (host : String) : Prop := (∀ w ∈ ([.static y, .initialized y.cls, .code y cc nL rt] : List Cond), w ∈ pz_TB) ∧ (y.cls ≠ "java/lang/invoke/MethodHandle" ∧ y.cls ≠ "java/lang/invoke/VarHandle" ∧ (parseMethodDescriptor y.desc).map (fun d => d.parameters.length) = some n ∧ nL ≤ 21) ∧ Cond.methodLinkNest own i y host ∈ lw_tbl
def pz_okIN (own : String) (i : Nat) (y : MethodName) (cc : ByteArray) (nL : Nat) (n : Nat) (host : String) : Prop := (∀ w ∈ ([.instanceMethod y, .initialized y.cls, .code y cc nL none] : List Cond), w ∈ pz_TB) ∧ (y.cls ≠ "java/lang/invoke/MethodHandle" ∧ y.cls ≠ "java/lang/invoke/VarHandle" ∧ (parseMethodDescriptor y.desc).map (fun d => d.parameters.length) = some n ∧ nL ≤ 21) ∧ y.name = "<init>" ∧ Cond.methodLinkNest own i y host ∈ lw_tbl
theorem pz_all {ws : List Cond} (h : ws.all (fun w => decide (w ∈ lw_tbl) && goodWord w) = true) : ∀ w ∈ ws, w ∈ pz_TB := fun w hw => pz_in (List.all_eq_true.mp h w hw)
theorem pz_after {φ : pz_V → State → Prop} {κ : pz_K} {Q : pz_Q} {k : pz_k} {u : Nat × Nat} {L : pz_L} {S' : List Value} {E : pz_V} {p : Program} {l : Launch} {e : Env} {R : Room} {s : State} {m : MethodId} {args : Array Value} {below : List Frame} {meth : Method} {c : Code} {H : Heap} {locs : List Loc} {ls : Array Slot} {P : State → Prop} {pc mc' ms' : Nat} {a : Array Value} {st0 : List Value}
    (C : pz_Cx φ κ E p R s m args meth c) (h1 : u.1 + mc' ≤ pz_mc κ) (h2 : u.2 + ms' ≤ pz_ms κ) (hS : va_S (pz_A E) s.heap H locs) (hl : pz_ls E L (pz_nL κ) ls)
    (hr : ∀ (pc' : Nat) (H' : Heap) (locs' : List Loc) (ls' : Array Slot) (M' : pz_M) (v : Option Value) (ins : Instr), decode (pz_cc κ) pc' = .ok (ins, 1) → pz_rv (pz_rt κ) ins v → Q v M' → pz_W E M' H' → va_S (pz_A E) s.heap H' locs' → W p l e R s m args below meth c H' locs' (pz_mc κ) (pz_ms κ) P (F0 m pc' ls' ((v.map (pz_v E)).toList)))
    (hrun : va_Run p l e R s m args below meth c H locs u.1 u.2 mc' ms' (F0 m pc ls st0) (S'.map (pz_v E)) (pz_Qc E (fun v M' => k (pc + 3) (u.1 + mc', u.2 + ms') L (pz_ps v S') M') a) (pz_A E))
    (hk : ∀ (pc' : Nat) (u' : Nat × Nat) (L' : pz_L) (S' : List Value) (M' : pz_M), k pc' u' L' S' M' → pz_T φ κ Q pc' u' L' S' M') : W p l e R s m args below meth c H locs u.1 u.2 P (F0 m pc ls st0) := by
  intro T hT X
  obtain ⟨v, st₀, t, T', Lc, h0, X', hL, e1, e2, ⟨v0, M', hv, hq, hW', hz, hkeep⟩, st⟩ := hrun T hT X
  have hB := C.2.2.2.2.2.2.2.2.2.2.2.2.1
  rw [h0] at hz hkeep
  obtain ⟨t2, a1, b1⟩ := hk _ _ _ _ _ hq E p l e R s m args below meth c T'.heap (locs ++ Lc) ls P C h1 h2 (by rw [e1]; exact hW') ⟨Nat.le_trans hS.1 (by rw [e1]; exact hz), fun q d1 d2 => by
      rw [e1, hkeep q (Nat.not_le.mp d2)]
      exact hS.2.1 q d1 d2, fun q hq => by
      rcases List.mem_append.mp hq with h | h
      · exact hS.2.2 q h
      · exact hL q h⟩ hl hr T' rfl X'
  refine ⟨t2, st t2 ?_, b1⟩
  have hv : v = v0.map (pz_v E) := Outcome.returned.inj hv
  subst hv
  cases v0 with
  | none => exact a1
  | some x => exact a1
theorem pz_pre {φ : pz_V → State → Prop} {κ : pz_K} {E : pz_V} {p : Program} {R : Room} {s : State} {m : MethodId} {args : Array Value} {meth : Method} {c : Code} {H : Heap} {locs : List Loc} {M : pz_M} {av : List Value} (C : pz_Cx φ κ E p R s m args meth c) (hW : pz_W E M H) (hS : va_S (pz_A E) s.heap H locs) : PreS s H (pz_Pc E av M) (av.map (pz_v E)) := by
  have hK := C.2.2.2.2.2.2.2.2.2.2.1
  have hG := C.2.2.2.2.2.2.2.2.2.2.2.1
  have hB := C.2.2.2.2.2.2.2.2.2.2.2.2.1
  refine ⟨pz_blind E av M, fun U hU hWm => ⟨rfl, by rw [hU]; exact hW, va_K.moved hWm.alike hK, ?_⟩⟩
  rw [hU]
  exact (hG.warm hWm).kept (fun q hq => hS.2.1 q (by omega) (Nat.not_le.mpr hq))
/-- a static method that makes nothing -/
def pz_cs (y : MethodName) (κ' : pz_K) (na n : Nat) : pz_I := fun Q k u L S M => match pz_take na [] S with
  | some (av, S') => match Nat.ble (pz_cat S') 8 with
    | true => pz_C y κ' av M (fun v M' => k n u L (pz_ps v S') M')
    | false => False
  | none => False
theorem pz_s_cs {κ κ' : pz_K} {pc i na : Nat} {y : MethodName} (hd : decode (pz_cc κ) pc = .ok (.invokestatic i, 3)) (hok : pz_okS (pz_own κ) i y (pz_cc κ') (pz_nL κ') (pz_rt κ') na) (hdp : pz_d κ' + 1 ≤ pz_d κ) (h0 : pz_mc κ' = 0 ∧ pz_ms κ' = 0) : pz_S κ pc (pz_cs y κ' na (pc + 3)) := by
  intro φ Q k u L S M h hk E p l e R s m args below meth c H locs ls P C h1 h2 hW hS hl hr
  unfold pz_cs at h
  split at h
  · next av S' ht =>
    split at h
    · next hc =>
      obtain ⟨t1, t2⟩ := pz_take_0 ht
      subst t2
      obtain ⟨hall, o1, o2, o3, o4⟩ := hok
      obtain ⟨m0, s0⟩ := h0
      have hfr := C.2.2.2.2.2.2.1
      have hlo := C.2.2.2.2.2.2.2.1
      have hmc := C.2.2.2.2.2.2.2.2.1
      have hms := C.2.2.2.2.2.2.2.2.2.1
      have hGI : GoodIn pz_TB (va_wsS (pz_own κ) i y (Cond.code y (pz_cc κ') (pz_nL κ') (pz_rt κ') :: pz_TB)) := by
        intro w hw
        rcases List.mem_append.mp hw with hw | hw
        · refine pz_good w (hall w ?_)
          simp only [List.mem_cons, List.not_mem_nil, or_false] at hw ⊢
          rcases hw with hw | hw | hw
          · exact Or.inl hw
          · exact Or.inr (Or.inl hw)
          · exact Or.inr (Or.inr (Or.inl hw))
        · exact pz_goodC (hall _ (by simp)) w hw
      have hM := h l E
      rw [m0, s0] at hM
      refine pz_after (mc' := 0) (ms' := 0) C h1 h2 hS hl hr (va_runS (As := av.map (pz_v E)) ⟨C.1, C.2.1, C.2.2.1, C.2.2.2.1, C.2.2.2.2.1⟩ hM (va_cwS na C.2.2.2.2.1 hGI rfl m0 s0 ⟨o1, o2, o3⟩ ⟨by show pz_d κ' + 1 ≤ _; omega, by show 8 + (pz_nL κ' + 11) + 40 * pz_d κ' ≤ _; omega⟩) (pz_pre C hW hS) rfl (by rw [List.length_map]; exact t1) hl.2.1 (by rw [List.map_append, List.map_reverse]) (by show 2 * 0 + _ ≤ 8; have := pz_cat_le (E := E) hc; omega) hd ⟨by rw [hmc]; exact h1, by rw [hms]; exact h2⟩) hk
    · exact h.elim
  · exact h.elim
theorem pz_s_csN {κ κ' : pz_K} {pc i na : Nat} {y : MethodName} {host : String} (hd : decode (pz_cc κ) pc = .ok (.invokestatic i, 3)) (hok : pz_okSN (pz_own κ) i y (pz_cc κ') (pz_nL κ') (pz_rt κ') na host) (hdp : pz_d κ' + 1 ≤ pz_d κ) (h0 : pz_mc κ' = 0 ∧ pz_ms κ' = 0) : pz_S κ pc (pz_cs y κ' na (pc + 3)) := by
  intro φ Q k u L S M h hk E p l e R s m args below meth c H locs ls P C h1 h2 hW hS hl hr
  unfold pz_cs at h
  split at h
  · next av S' ht =>
    split at h
    · next hc =>
      obtain ⟨t1, t2⟩ := pz_take_0 ht
      subst t2
      obtain ⟨hall, ⟨o1, o2, o3, o4⟩, o5⟩ := hok
      obtain ⟨m0, s0⟩ := h0
      have hfr := C.2.2.2.2.2.2.1
      have hlo := C.2.2.2.2.2.2.2.1
      have hmc := C.2.2.2.2.2.2.2.2.1
      have hms := C.2.2.2.2.2.2.2.2.2.1
      have hts := C.2.2.2.2.1
      have hM := h l E
      rw [m0, s0] at hM
      have hN := C.2.2.2.2.2.2.2.2.2.2.2.1.2.1 _ (List.mem_filter.mpr ⟨o5, rfl⟩)
      refine pz_after (mc' := 0) (ms' := 0) C h1 h2 hS hl hr (va_runSN (As := av.map (pz_v E)) ⟨C.1, C.2.1, C.2.2.1, C.2.2.2.1, C.2.2.2.2.1⟩ hM ⟨va_cnB na hts (pz_goodC (hall _ (by simp))) rfl m0 s0 hN (hts _ (hall _ (by simp))) ⟨o1, o2, o3⟩ ⟨by show pz_d κ' + 1 ≤ _; omega, by show 8 + (pz_nL κ' + 11) + 40 * pz_d κ' ≤ _; omega⟩, hts _ (hall _ (by simp)), trivial⟩ (pz_pre C hW hS) rfl (by rw [List.length_map]; exact t1) hl.2.1 (by rw [List.map_append, List.map_reverse]) (by show 2 * 0 + _ ≤ 8; have := pz_cat_le (E := E) hc; omega) hd ⟨by rw [hmc]; exact h1, by rw [hms]; exact h2⟩) hk
    · exact h.elim
  · exact h.elim
/-- an object's method; it may make cells -/
def pz_cv (mc ms : Nat) (y : MethodName) (κ' : pz_K) (ci na n : Nat) : pz_I := fun Q k u L S M => match pz_take na [] S with
  | some (.ref r :: av, S') => match pz_nth M r with
    | some (.inr (.inr (c, _))) => match c == ci with
      | true => match Nat.ble (pz_cat S') 8 with
        | true => (u.1 + pz_mc κ' ≤ mc ∧ u.2 + pz_ms κ' ≤ ms) ∧ pz_C y κ' (.ref r :: av) M (fun v M' => k n (u.1 + pz_mc κ', u.2 + pz_ms κ') L (pz_ps v S') M')
        | false => False
      | false => False
    | _ => False
  | _ => False
/-- an object's method that makes nothing -/
def pz_cv0 (y : MethodName) (κ' : pz_K) (ci na n : Nat) : pz_I := fun Q k u L S M => match pz_take na [] S with
  | some (.ref r :: av, S') => match pz_nth M r with
    | some (.inr (.inr (c, _))) => match c == ci with
      | true => match Nat.ble (pz_cat S') 8 with
        | true => pz_C y κ' (.ref r :: av) M (fun v M' => k n u L (pz_ps v S') M')
        | false => False
      | false => False
    | _ => False
  | _ => False
theorem pz_s_cv {κ κ' : pz_K} {pc i ci na : Nat} {y : MethodName} {q0 : vw_C} (hd : decode (pz_cc κ) pc = .ok (.invokevirtual i, 3)) (hok : pz_okV (pz_own κ) i y (pz_cc κ') (pz_nL κ') (pz_rt κ') na) (hc0 : pz_cls[ci]? = some q0) (hq0 : q0.1 = y.cls) (hdp : pz_d κ' + 1 ≤ pz_d κ) : pz_S κ pc (pz_cv (pz_mc κ) (pz_ms κ) y κ' ci (na + 1) (pc + 3)) := by
  intro φ Q k u L S M h hk E p l e R s m args below meth c H locs ls P C h1 h2 hW hS hl hr
  unfold pz_cv at h
  split at h
  · next r av S' ht =>
    split at h
    · next c9 fs hq =>
      split at h
      · next hci =>
        have hci : c9 = ci := by simpa using hci
        subst hci
        split at h
        · next hc =>
          obtain ⟨⟨b1, b2⟩, h⟩ := h
          obtain ⟨t1, t2⟩ := pz_take_0 ht
          subst t2
          obtain ⟨hall, o1, o2, o3, o4⟩ := hok
          have hfr := C.2.2.2.2.2.2.1
          have hlo := C.2.2.2.2.2.2.2.1
          have hmc := C.2.2.2.2.2.2.2.2.1
          have hms := C.2.2.2.2.2.2.2.2.2.1
          have hK := C.2.2.2.2.2.2.2.2.2.2.1
          have hGI : GoodIn pz_TB (wsV (pz_own κ) i y.cls y (Cond.code y (pz_cc κ') (pz_nL κ') (pz_rt κ') :: pz_TB)) := by
            intro w hw
            rcases List.mem_append.mp hw with hw | hw
            · refine pz_good w (hall w ?_)
              simp only [List.mem_cons, List.not_mem_nil, or_false] at hw ⊢
              rcases hw with hw | hw | hw | hw
              · exact Or.inl hw
              · exact Or.inr (Or.inl hw)
              · exact Or.inr (Or.inr (Or.inl hw))
              · exact Or.inr (Or.inr (Or.inr (Or.inl hw)))
            · exact pz_goodC (hall _ (by simp)) w hw
          have hM := h l E
          have ha := hW.at hq
          have hx1 : (Value.ref r :: av).map (pz_v E) = .ref (E.2.2.1 + r) :: av.map (pz_v E) := by rw [← ha.2]; rfl
          have hpre := pz_pre (av := .ref r :: av) C hW hS
          have hrec := va_recv hK (hW.one hq) hc0 (q0 := 0) (ci := c9) rfl
          rw [hx1] at hpre
          rw [hq0] at hrec
          refine pz_after C b1 b2 hS hl hr (va_runV (As := av.map (pz_v E)) (b := E.2.2.1 + r) ⟨C.1, C.2.1, C.2.2.1, C.2.2.2.1, C.2.2.2.2.1⟩ hM (cwV na C.2.2.2.2.1 hGI rfl rfl rfl ⟨rfl, o1, o2, o3⟩ ⟨by show pz_d κ' + 1 ≤ _; omega, by show 8 + (pz_nL κ' + 11) + 40 * pz_d κ' ≤ _; omega⟩) ⟨hpre.1, hrec, hpre.2⟩ rfl (by rw [List.length_map]; rw [List.length_cons] at t1; omega) hl.2.1 (by
            show List.map (pz_v E) ((Value.ref r :: av).reverse ++ S') = _
            rw [List.map_append, List.map_reverse, hx1, List.reverse_cons, List.append_assoc]; rfl) (by show 2 * 0 + _ ≤ 8; have := pz_cat_le (E := E) hc; omega) hd ⟨by rw [hmc]; exact b1, by rw [hms]; exact b2⟩) hk
        · exact h.elim
      · exact h.elim
    · exact h.elim
  · exact h.elim
theorem pz_s_cv0 {κ κ' : pz_K} {pc i ci na : Nat} {y : MethodName} {q0 : vw_C} (hd : decode (pz_cc κ) pc = .ok (.invokevirtual i, 3)) (hok : pz_okV (pz_own κ) i y (pz_cc κ') (pz_nL κ') (pz_rt κ') na) (hc0 : pz_cls[ci]? = some q0) (hq0 : q0.1 = y.cls) (hdp : pz_d κ' + 1 ≤ pz_d κ) (h0 : pz_mc κ' = 0 ∧ pz_ms κ' = 0) : pz_S κ pc (pz_cv0 y κ' ci (na + 1) (pc + 3)) := by
  intro φ Q k u L S M h hk E p l e R s m args below meth c H locs ls P C h1 h2 hW hS hl hr
  refine pz_s_cv hd hok hc0 hq0 hdp φ Q k u L S M ?_ hk E p l e R s m args below meth c H locs ls P C h1 h2 hW hS hl hr
  unfold pz_cv0 at h
  unfold pz_cv
  split at h
  · next r av S' ht =>
    split at h
    · next c9 fs hq =>
      split at h
      · next hci =>
        split at h
        · next hc =>
          rw [h0.1, h0.2]
          exact ⟨⟨h1, h2⟩, h⟩
        · exact h.elim
      · exact h.elim
    · exact h.elim
  · exact h.elim
/-- a constructor -/
def pz_ci (mc ms : Nat) (y : MethodName) (κ' : pz_K) (na n : Nat) : pz_I := fun Q k u L S M => match pz_take na [] S with
  | some (.ref r :: av, S') => match Nat.blt r 1000000 with
    | true => match Nat.ble (pz_cat S') 8 with
      | true => (u.1 + pz_mc κ' ≤ mc ∧ u.2 + pz_ms κ' ≤ ms) ∧ pz_C y κ' (.ref r :: av) M (fun v M' => k n (u.1 + pz_mc κ', u.2 + pz_ms κ') L (pz_ps v S') M')
      | false => False
    | false => False
  | _ => False
theorem pz_s_ci {κ κ' : pz_K} {pc i na : Nat} {y : MethodName} (hd : decode (pz_cc κ) pc = .ok (.invokespecial i, 3)) (hrt : pz_rt κ' = none) (hok : pz_okI (pz_own κ) i y (pz_cc κ') (pz_nL κ') na) (hdp : pz_d κ' + 1 ≤ pz_d κ) : pz_S κ pc (pz_ci (pz_mc κ) (pz_ms κ) y κ' (na + 1) (pc + 3)) := by
  intro φ Q k u L S M h hk E p l e R s m args below meth c H locs ls P C h1 h2 hW hS hl hr
  unfold pz_ci at h
  split at h
  · next r av S' ht =>
    split at h
    · next hblt =>
      split at h
      · next hc =>
        obtain ⟨⟨b1, b2⟩, h⟩ := h
        obtain ⟨t1, t2⟩ := pz_take_0 ht
        subst t2
        obtain ⟨hall, ⟨o1, o2, o3, o4⟩, o5⟩ := hok
        have hfr := C.2.2.2.2.2.2.1
        have hlo := C.2.2.2.2.2.2.2.1
        have hmc := C.2.2.2.2.2.2.2.2.1
        have hms := C.2.2.2.2.2.2.2.2.2.1
        have hts := C.2.2.2.2.1
        have hM := h l E
        rw [hrt] at hM
        have hpre := pz_pre (av := .ref r :: av) C hW hS
        refine pz_after C b1 b2 hS hl hr (va_runI (As := av.map (pz_v E)) (b := pz_x E r) ⟨C.1, C.2.1, C.2.2.1, C.2.2.2.1, C.2.2.2.2.1⟩ hM (cwI na hts (pz_goodC (hall _ (by simp))) rfl rfl rfl (hts _ (hall _ (by simp))) (hts _ (hall _ (by simp))) (hts _ (hall _ (by simp))) o5 ⟨o1, o2, o3⟩ ⟨by show pz_d κ' + 1 ≤ _; omega, by show 8 + (pz_nL κ' + 11) + 40 * pz_d κ' ≤ _; omega⟩) hpre rfl (by rw [List.length_map]; rw [List.length_cons] at t1; omega) hl.2.1 (by
          show List.map (pz_v E) ((Value.ref r :: av).reverse ++ S') = _
          rw [List.map_append, List.map_reverse, List.map_cons, List.reverse_cons, List.append_assoc]; rfl) (by show 2 * 0 + _ ≤ 8; have := pz_cat_le (E := E) hc; omega) hd ⟨by rw [hmc]; exact b1, by rw [hms]; exact b2⟩) hk
      · exact h.elim
    · exact h.elim
  · exact h.elim
theorem pz_s_ciN {κ κ' : pz_K} {pc i na : Nat} {y : MethodName} {host : String} (hd : decode (pz_cc κ) pc = .ok (.invokespecial i, 3)) (hrt : pz_rt κ' = none) (hok : pz_okIN (pz_own κ) i y (pz_cc κ') (pz_nL κ') na host) (hdp : pz_d κ' + 1 ≤ pz_d κ) : pz_S κ pc (pz_ci (pz_mc κ) (pz_ms κ) y κ' (na + 1) (pc + 3)) := by
  intro φ Q k u L S M h hk E p l e R s m args below meth c H locs ls P C h1 h2 hW hS hl hr
  unfold pz_ci at h
  split at h
  · next r av S' ht =>
    split at h
    · next hblt =>
      split at h
      · next hc =>
        obtain ⟨⟨b1, b2⟩, h⟩ := h
        obtain ⟨t1, t2⟩ := pz_take_0 ht
        subst t2
        obtain ⟨hall, ⟨o1, o2, o3, o4⟩, o5, o6⟩ := hok
        have hfr := C.2.2.2.2.2.2.1
        have hlo := C.2.2.2.2.2.2.2.1
        have hmc := C.2.2.2.2.2.2.2.2.1
        have hms := C.2.2.2.2.2.2.2.2.2.1
        have hts := C.2.2.2.2.1
        have hM := h l E
        rw [hrt] at hM
        have hpre := pz_pre (av := .ref r :: av) C hW hS
        have hN := C.2.2.2.2.2.2.2.2.2.2.2.1.2.1 _ (List.mem_filter.mpr ⟨o6, rfl⟩)
        refine pz_after C b1 b2 hS hl hr (va_runIN (As := av.map (pz_v E)) (b := pz_x E r) ⟨C.1, C.2.1, C.2.2.1, C.2.2.2.1, C.2.2.2.2.1⟩ hM ⟨va_cnB na hts (pz_goodC (hall _ (by simp))) rfl rfl rfl hN (hts _ (hall _ (by simp))) ⟨o1, o2, o3⟩ ⟨by show pz_d κ' + 1 ≤ _; omega, by show 8 + (pz_nL κ' + 11) + 40 * pz_d κ' ≤ _; omega⟩, o5, hts _ (hall _ (by simp))⟩ hpre rfl (by rw [List.length_map]; rw [List.length_cons] at t1; omega) hl.2.1 (by
          show List.map (pz_v E) ((Value.ref r :: av).reverse ++ S') = _
          rw [List.map_append, List.map_reverse, List.map_cons, List.reverse_cons, List.append_assoc]; rfl) (by show 2 * 0 + _ ≤ 8; have := pz_cat_le (E := E) hc; omega) hd ⟨by rw [hmc]; exact b1, by rw [hms]; exact b2⟩) hk
      · exact h.elim
    · exact h.elim
  · exact h.elim
/-! the chain -/
def pz_look : List (Nat × pz_I) → Nat → pz_I
  | [], _ => fun _ _ _ _ _ _ => False
  | (q, x) :: r, pc => match Nat.beq q pc with
    | true => x
    | false => pz_look r pc
def pz_mem (pc : Nat) : List Nat → Bool
  | [] => false
  | q :: r => match Nat.beq q pc with
    | true => true
    | false => pz_mem pc r
def pz_wp (I : List (Nat × pz_I)) (φ : pz_V → State → Prop) (κ : pz_K) (cs : List Nat) (Q : pz_Q) : Nat → Nat → Nat × Nat → pz_L → List Value → pz_M → Prop
  | 0, pc, u, L, S, M => pz_T φ κ Q pc u L S M
  | n + 1, pc, u, L, S, M => pz_look I pc Q (fun pc' u' L' S' M' => match pz_mem pc' cs with
    | true => pz_T φ κ Q pc' u' L' S' M'
    | false => pz_wp I φ κ cs Q n pc' u' L' S' M') u L S M
def pz_Sp (φ : pz_V → State → Prop) (κ : pz_K) (pc : Nat) (x : pz_I) : Prop := ∀ (Q : pz_Q) (k : pz_k) (u : Nat × Nat) (L : pz_L) (S : List Value) (M : pz_M), x Q k u L S M → (∀ (pc' : Nat) (u' : Nat × Nat) (L' : pz_L) (S' : List Value) (M' : pz_M), k pc' u' L' S' M' → pz_T φ κ Q pc' u' L' S' M') → pz_T φ κ Q pc u L S M
theorem pz_look_ok {φ : pz_V → State → Prop} {κ : pz_K} : ∀ {I : List (Nat × pz_I)}, (∀ q ∈ I, pz_Sp φ κ q.1 q.2) → ∀ pc, pz_Sp φ κ pc (pz_look I pc)
  | [], _, pc => fun _ _ _ _ _ _ h => h.elim
  | (q, x) :: r, h, pc => by
    unfold pz_look
    split
    · next hq =>
      have hq : q = pc := Nat.eq_of_beq_eq_true hq
      subst hq
      exact h (q, x) List.mem_cons_self
    · exact pz_look_ok (fun z hz => h z (List.mem_cons_of_mem _ hz)) pc
theorem pz_wp_okp {φ : pz_V → State → Prop} {I : List (Nat × pz_I)} {κ : pz_K} (hI : ∀ q ∈ I, pz_Sp φ κ q.1 q.2) (cs : List Nat) {Q : pz_Q} : ∀ (n : Nat) {pc : Nat} {u : Nat × Nat} {L : pz_L} {S : List Value} {M : pz_M}, pz_wp I φ κ cs Q n pc u L S M → pz_T φ κ Q pc u L S M
  | 0, _, _, _, _, _, h => h
  | n + 1, pc, u, L, S, M, h => by
    refine pz_look_ok hI pc Q _ u L S M h (fun pc' u' L' S' M' hk => ?_)
    split at hk
    · exact hk
    · exact pz_wp_okp hI cs n hk
theorem pz_wp_ok {φ : pz_V → State → Prop} {I : List (Nat × pz_I)} {κ : pz_K} (hI : ∀ q ∈ I, pz_S κ q.1 q.2) (cs : List Nat) {Q : pz_Q} (n : Nat) {pc : Nat} {u : Nat × Nat} {L : pz_L} {S : List Value} {M : pz_M} (h : pz_wp I φ κ cs Q n pc u L S M) : pz_T φ κ Q pc u L S M := pz_wp_okp (fun q hq => hI q hq φ) cs n h
/-- rows of numbers that agree as far as they go are one row -/
def pz_eq1 (a b : pz_E) : Prop := match a, b with
  | .inl x, .inl y => x.1 = y.1 ∧ x.2.1 = y.2.1 ∧ ∀ j, j < x.2.1 → x.2.2 j = y.2.2 j
  | a, b => a = b
def pz_eqv : pz_M → pz_M → Prop
  | [], [] => True
  | a :: l, b :: r => pz_eq1 a b ∧ pz_eqv l r
  | _, _ => False
theorem pz_eq1_at {E : pz_V} {a b : pz_E} {r : Nat} {H : Heap} (h : pz_eq1 a b) (hv : va_at E.1 pz_cls (r, pz_e E a) H) : va_at E.1 pz_cls (r, pz_e E b) H := by
  unfold pz_eq1 at h
  split at h
  · next x y =>
    obtain ⟨t, n, f⟩ := x
    obtain ⟨t', n', f'⟩ := y
    obtain ⟨e1, e2, e3⟩ := h
    dsimp only at e1 e2 e3
    subst e1; subst e2
    have hv : H[r]? = some (arrV (E.2.1 t) n (fun j => .int (f j))) := hv
    show H[r]? = some (arrV (E.2.1 t) n (fun j => .int (f' j)))
    rw [hv]
    have : (Array.ofFn (n := n) fun j => Value.int (f j.val)) = Array.ofFn (n := n) fun j => Value.int (f' j.val) := by
      congr 1
      funext j
      rw [e3 j.val j.isLt]
    unfold arrV
    rw [this]
  · rw [← h]; exact hv
theorem pz_eqv_len : ∀ {M M' : pz_M}, pz_eqv M M' → M.length = M'.length
  | [], [], _ => rfl
  | _ :: _, _ :: _, h => by simp [pz_eqv_len h.2]
theorem pz_eqv_get : ∀ {M M' : pz_M}, pz_eqv M M' → ∀ (i : Nat) (c : pz_E), M'[i]? = some c → ∃ c', M[i]? = some c' ∧ pz_eq1 c' c
  | [], [], _, i, c, hi => by simp at hi
  | a :: l, b :: r, h, 0, c, hi => by
    cases hi
    exact ⟨a, rfl, h.1⟩
  | a :: l, b :: r, h, i + 1, c, hi => by
    rw [List.getElem?_cons_succ] at hi
    obtain ⟨c', h1, h2⟩ := pz_eqv_get h.2 i c hi
    exact ⟨c', by rw [List.getElem?_cons_succ]; exact h1, h2⟩
theorem pz_W_eqv {E : pz_V} {M M' : pz_M} {H : Heap} (he : pz_eqv M M') (h : pz_W E M H) : pz_W E M' H := by
  have hl := pz_eqv_len he
  refine ⟨by rw [← hl]; exact h.1, by rw [← hl]; exact h.2.1, fun i c hi => ?_⟩
  obtain ⟨c', h1, h2⟩ := pz_eqv_get he i c hi
  exact pz_eq1_at h2 (h.2.2 i c' h1)
theorem pz_T_eqv {φ : pz_V → State → Prop} {κ : pz_K} {Q : pz_Q} {pc : Nat} {u : Nat × Nat} {L : pz_L} {S : List Value} {M M' : pz_M} (he : pz_eqv M M') (h : pz_T φ κ Q pc u L S M') : pz_T φ κ Q pc u L S M := by
  intro E p l e R s m args below meth c H locs ls P C h1 h2 hW hS hl hr
  exact h E p l e R s m args below meth c H locs ls P C h1 h2 (pz_W_eqv he hW) hS hl hr
