theorem pz_v_cat (E : pz_V) (v : Value) : (pz_v E v).category = v.category := by cases v <;> rfl
theorem pz_cats (E : pz_V) (S : List Value) : ((S.map (pz_v E)).map fun v => v.category) = S.map fun v => v.category := by
  rw [List.map_map]
  exact List.map_congr_left fun v _ => pz_v_cat E v
theorem pz_slen (E : pz_V) : ∀ av : List Value, (lg_sl (av.map (pz_v E))).length = (lg_sl av).length
  | [] => rfl
  | v :: av => by
    have ih := pz_slen E av
    simp only [lg_sl, List.map_cons, List.flatMap_cons, List.length_append] at ih ⊢
    rw [ih, pz_v_cat]
    by_cases h : v.category = 2 <;> simp [h]
theorem pz_L0_len : ∀ (av : List Value) (n : Nat), (pz_L0 av n).length = n
  | _, 0 => by cases ‹List Value› <;> rfl
  | [], n + 1 => by simp [pz_L0, pz_L0_len [] n]
  | v :: vs, n + 1 => by
    cases v with
    | long x =>
      cases n with
      | zero => rfl
      | succ k => simp [pz_L0, pz_L0_len vs k]
    | double x => simp [pz_L0, pz_L0_len [] n]
    | _ => simp [pz_L0, pz_L0_len vs n]
theorem pz_L0_at (E : pz_V) : ∀ (n o : Nat) (av : List Value) (i : Nat) (v : Value), (pz_L0 av n)[i]? = some (some v) → (o + i, pz_v E v) ∈ lv_args o (av.map (pz_v E)) := by
  intro n
  induction n using Nat.strongRecOn with
  | _ n ih =>
    intro o av i v h
    match n, av, h with
    | 0, av, h => cases av <;> simp [pz_L0] at h
    | n + 1, [], h =>
      exfalso
      cases i with
      | zero => simp [pz_L0] at h
      | succ i =>
        simp only [pz_L0, List.getElem?_cons_succ] at h
        have := ih n (by omega) 0 [] i v h
        simp [lv_args] at this
    | n + 1, w :: vs, h =>
      cases w with
      | long x =>
        cases i with
        | zero =>
          have h : some (Value.long x) = some v := by
            cases n <;> simpa [pz_L0] using h
          cases h
          simp [lv_args, pz_v]
        | succ i =>
          cases n with
          | zero => simp [pz_L0] at h
          | succ k =>
            cases i with
            | zero => simp [pz_L0] at h
            | succ i =>
              have h : (pz_L0 vs k)[i]? = some (some v) := by simpa [pz_L0] using h
              have := ih k (by omega) (o + 2) vs i v h
              rw [show o + (i + 1 + 1) = o + 2 + i by omega]
              simp only [List.map_cons, lv_args]
              exact List.mem_cons_of_mem _ this
      | double x =>
        exfalso
        cases i with
        | zero => simp [pz_L0] at h
        | succ i =>
          have h : (pz_L0 [] n)[i]? = some (some v) := by simpa [pz_L0] using h
          have := ih n (by omega) 0 [] i v h
          simp [lv_args] at this
      | _ =>
        cases i with
        | zero =>
          simp only [pz_L0, List.getElem?_cons_zero, Option.some.injEq] at h
          subst h
          simp [lv_args, pz_v]
        | succ i =>
          simp only [pz_L0, List.getElem?_cons_succ] at h
          have := ih n (by omega) (o + 1) vs i v h
          rw [show o + (i + 1) = o + 1 + i by omega]
          simp only [List.map_cons, lv_args]
          exact List.mem_cons_of_mem _ this
theorem pz_entry (E : pz_V) (av : List Value) (n : Nat) (h : (lg_sl av).length ≤ n) : pz_ls E (pz_L0 av n) n ((lg_sl (av.map (pz_v E)) ++ List.replicate (n - (lg_sl (av.map (pz_v E))).length) Slot.unset).toArray) := by
  have hl := lv_entry (av.map (pz_v E)) (n := n) (by rw [pz_slen]; exact h)
  refine ⟨pz_L0_len av n, hl.1, hl.2.1, fun i v hv => ?_⟩
  have := pz_L0_at E n 0 av i v hv
  rw [Nat.zero_add] at this
  exact hl.2.2 _ this
theorem pz_C_of {y : MethodName} {κ : pz_K} {av : List Value} {M : pz_M} {Q : pz_Q} (hy : plainName y.cls = true) (ho : y.cls = pz_own κ) (hn : y.name = pz_nm κ) (hlen : (lg_sl av).length ≤ pz_nL κ)
    (h : pz_T (fun _ _ => True) κ Q 0 (0, 0) (pz_L0 av (pz_nL κ)) [] M) : pz_C y κ av M Q := by
  intro l E
  refine Met.ofW (cc := pz_cc κ) (maxL := pz_nL κ) (ret := pz_rt κ) hy rfl ?_
  intro p e s m args below meth c s₁ B hml hv
  obtain ⟨rfl, hW, hK, hG⟩ := hv
  have hx := B.exec
  have hb := B.bytes
  have hr := B.returns
  have hts := atoms_spec (ws := .code y (pz_cc κ) (pz_nL κ) (pz_rt κ) :: pz_TB) B.pre
  have hown : s.vm.findClass (pz_own κ) = some m.cls := by rw [← ho]; exact findClass_of_methodNamed B.named
  have hlocks := B.notSynchronized
  have hin : meth.name = pz_nm κ := by rw [← hn]; exact (name_of_methodNamed B.named B.method).1
  rw [lg_entry_eq]
  refine h E p l e _ s m _ below meth c s.heap [] _ _ ⟨hx, hb, hml, hown, fun w hw => hts w (List.mem_cons_of_mem _ hw), hin, Nat.le_refl _, Nat.le_refl _, rfl, rfl, hK, hG, by rw [hW.1]; omega, trivial⟩ (Nat.zero_le _) (Nat.zero_le _) hW va_S.rf (pz_entry E av _ hlen) ?_
  intro pc' H' locs' ls' M' v ins hd hrv hq hW' hS'
  have hkeep : ∀ q, q < E.2.2.1 → H'[q]? = s.heap[q]? := fun q hq => hS'.2.1 q (by rw [hW.1]; omega) (Nat.not_le.mpr hq)
  have hQ : ∀ t : State, t.heap = H' → s.WarmedH t.vm → pz_Qc E Q (List.map (pz_v E) av).toArray s (.returned (v.map (pz_v E))) t := fun t ht _ => ⟨v, M', rfl, hq, by rw [ht]; exact hW', by rw [ht]; exact hS'.1, fun q hq => by rw [ht]; exact hkeep q hq⟩
  unfold pz_rv at hrv
  split at hrv
  · obtain ⟨ty, e1, e2⟩ := hrv
    exact W.zret hx hb (hr.trans e1) e2 hQ hS'.2.2 hd
  · rcases hrv with ⟨n, e1⟩ | ⟨t, e1⟩
    · exact W.aret hx hb (hr.trans e1) (Or.inl ⟨n, rfl⟩) (Or.inr ⟨_, rfl⟩) hQ hS'.2.2 hd
    · exact W.aret hx hb (hr.trans e1) (Or.inr ⟨t, rfl⟩) (Or.inr ⟨_, rfl⟩) hQ hS'.2.2 hd
  · rcases hrv with ⟨n, e1⟩ | ⟨t, e1⟩
    · exact W.aret hx hb (hr.trans e1) (Or.inl ⟨n, rfl⟩) (Or.inl rfl) hQ hS'.2.2 hd
    · exact W.aret hx hb (hr.trans e1) (Or.inr ⟨t, rfl⟩) (Or.inl rfl) hQ hS'.2.2 hd
  · exact W.vret hx hb (hr.trans hrv) hQ hS'.2.2 hd
  · exact hrv.elim
