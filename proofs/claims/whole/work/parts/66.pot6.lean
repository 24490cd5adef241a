/-! Laws: what a text gives -/
theorem i_neg33 {v : Int32} (h : -v = -33) : v = 33 := by
  have := congrArg (fun x : Int32 => -x) h
  simpa using this
theorem sg_neg {v : Int32} (h : v = 33 ∨ v ∈ k_sgs) : -v < 0 := by
  unfold k_sgs at h
  simp only [List.mem_cons, List.not_mem_nil, or_false] at h
  rcases h with e | e | e | e | e | e | e | e | e | e <;> subst e <;> decide
theorem sg_33 {v : Int32} (h : v ∈ k_sgs) : ¬ v = 33 := fun e => by subst e; revert h; decide
section POT
variable {A A1 : qA} {F : qF} {X : qX} {Q : pz_Q} {M : pz_M}
set_option maxRecDepth 8000 in
theorem tL_given {t nm : Nat → Int32} {k i m key : Nat} {a b c : Int32} (hr : rTx X t k i) (hk : k < 14) (hm : f_m t k = m) (hkey : (t (142 + 200 * k)).toNatClampNeg = key) (hok : okText t (142 + 200 * k) m) (hnm : ∀ v : Int32, alw key v → nm v.toNatClampNeg = if nmx key v = 0 then a else if nmx key v = 1 then b else c) (h : ∀ p : Nat → Int32, Q (some (.int (f_val t nm (142 + 200 * k) m))) (mem (va_up A 4 p) F X)) : ∀ (d j : Nat), j + d = m → ∀ (st : List Int32), f_run t nm (142 + 200 * k) j = some st → ∀ (p : Nat → Int32), pileR p st → ∀ x7 : Option Value, pz_T z0 KX1_given Q 6 (0, 0) [some (.ref 1), some (.ref (xr i)), some (.int a), some (.int b), some (.int c), some (.int (nI st.length)), some (.int (nI j)), x7] [] (mem (va_up A 4 p) F X) := by
  obtain ⟨o1, o2, o3, o4, o5⟩ := hok
  obtain ⟨r1, r2, r3, r4, r5, r6⟩ := hr
  rw [hm, hkey] at r6
  rw [o1] at r3
  intro d
  induction d with
  | zero =>
    intro j hj st hst p hp x7
    have hj : j = m := by omega
    subst hj
    refine pz_wp_ok (pz_Is_ok SX1_given) [9] 100 ?_
    refine pz_T_get (r := xr i) (pz_Is_ok SX1_given (9, pz_get 4 1 12) (List.mem_of_getElem? (i := 6) rfl)) (mem_xo r1) rfl ?_
    refine pz_wp_ok (pz_Is_ok SX1_given) [6, 16] 100 ?_
    refine br1 (fun z => z ?_) ?_
    · show X.2.2.2.2 i 0 ≤ nI j
      rw [r3]
      exact nI_le (Nat.le_refl _) (by omega)
    refine ⟨qin 0 rfl (by omega) (by omega), ?_⟩
    have hne : st ≠ [] := fun e => o5 nm (by rw [hst, e])
    have e0 : p 0 = f_val t nm (142 + 200 * k) j := by
      unfold f_val
      rw [hst]
      exact pileR_0 hne hp
    have h' := h p
    rw [← e0] at h'
    exact h'
  | succ d ih =>
    intro j hj st hst p hp x7
    have cj := qcl (x := nI j) j rfl (by omega)
    have ej : nI j + 1 = nI (j + 1) := nI_1 j
    obtain ⟨st', hst', hl'⟩ := o4 nm (j + 1) (by omega)
    obtain ⟨st0, hst0, hl0⟩ := o4 nm j (by omega)
    have : st0 = st := Option.some.inj (hst0.symm.trans hst)
    subst this
    have hstp := hst'
    rw [f_run, hst] at hstp
    dsimp only at hstp
    obtain ⟨q1, q2⟩ := r6 j (by omega)
    have cl : (nI st0.length).toNatClampNeg = st0.length := qcl st0.length rfl (by omega)
    refine pz_wp_ok (pz_Is_ok SX1_given) [9] 100 ?_
    refine pz_T_get (r := xr i) (pz_Is_ok SX1_given (9, pz_get 4 1 12) (List.mem_of_getElem? (i := 6) rfl)) (mem_xo r1) rfl ?_
    refine pz_wp_ok (pz_Is_ok SX1_given) [6, 16] 100 ?_
    refine br2 (fun z => ?_) ?_
    · have z : X.2.2.2.2 i 0 ≤ nI j := z
      rw [r3] at z
      exact n_ge (by omega) (by omega) (by omega) z
    refine pz_T_get (r := xr i) (pz_Is_ok SX1_given (16, pz_get 4 0 19) (List.mem_of_getElem? (i := 9) rfl)) (mem_xo r1) rfl ?_
    refine pz_wp_ok (pz_Is_ok SX1_given) [21] 100 ?_
    refine pz_T_iald (r := xc i) (pz_Is_ok SX1_given (21, pz_iald 22) (List.mem_of_getElem? (i := 11) rfl)) (mem_xc r1) (qin j rfl (by omega) (by omega)) ?_
    rw [cj, q1]
    generalize t (142 + 200 * k + 4 + 2 * j) = w at hstp q2
    generalize t (142 + 200 * k + 4 + 2 * j + 1) = v at hstp q2
    unfold f_stp at hstp
    unfold encS
    refine pz_wp_ok (pz_Is_ok SX1_given) [6] 100 ?_
    rcases q2 with ⟨w0, y, hy, hv⟩ | ⟨w1, hv⟩ | ⟨w2, hv⟩
    · subst w0
      rw [if_pos rfl]
      rw [if_neg (by decide), if_pos rfl] at hstp
      have hst'' : st' = v :: st0 := (Option.some.inj hstp).symm
      subst hst''
      rw [List.length_cons] at hl'
      refine br2 (by rw [hv]; exact i_nlt.mpr (nI_pos' (by omega))) ?_
      refine br2 (n_ge (b := 96) (by omega) (by omega) (by omega)) ?_
      refine br2 (fun z => ?_) ?_
      · have z : (10000 : Int32) ≤ v := z
        rw [hv] at z
        have z : nI 10000 ≤ nI y := z
        have := (nI_leI (by omega) (by omega)).mp z
        omega
      refine ⟨qin st0.length rfl (by omega) (by omega), ?_⟩
      rw [cl]
      have ih' := ih (j + 1) (by omega) _ hst' (upd p st0.length v) ⟨upd_at _ _ _, pileR_upd (Nat.le_refl _) hp⟩ (some (.int v))
      exact qT ih' (by rw [← ej, List.length_cons, ← nI_1 st0.length]; rfl) rfl rfl
    · subst w1
      rw [if_neg (by decide), if_pos rfl]
      rw [if_neg (by decide), if_neg (by decide)] at hstp
      have hst'' : st' = nm v.toNatClampNeg :: st0 := (Option.some.inj hstp).symm
      rw [hnm v hv] at hst''
      have hx : nmx key v ≤ 2 := by
        unfold nmx
        repeat' split
        all_goals omega
      generalize nmx key v = x at hst'' hx ⊢
      subst hst''
      rw [List.length_cons] at hl'
      refine br2 (i_nlt.mpr (nI_pos' (by omega))) ?_
      refine br2 (n_ge (b := 96) (by omega) (by omega) (by omega)) ?_
      refine br1 (fun z => z (nI_le (a := 10000) (by omega) (by omega))) ?_
      have hx : x = 0 ∨ x = 1 ∨ x = 2 := by omega
      rcases hx with e | e | e <;> subst e
      · refine br2 (by decide) ?_
        rw [if_pos rfl] at hst'
        refine ⟨qin st0.length rfl (by omega) (by omega), ?_⟩
        rw [cl]
        have ih' := ih (j + 1) (by omega) _ hst' (upd p st0.length a) ⟨upd_at _ _ _, pileR_upd (Nat.le_refl _) hp⟩ (some (.int (nI 10000)))
        exact qT ih' (by rw [← ej, List.length_cons, ← nI_1 st0.length]; rfl) rfl rfl
      · refine br1 (by decide) ?_
        refine br2 (by decide) ?_
        rw [if_neg (by decide), if_pos rfl] at hst'
        refine ⟨qin st0.length rfl (by omega) (by omega), ?_⟩
        rw [cl]
        have ih' := ih (j + 1) (by omega) _ hst' (upd p st0.length b) ⟨upd_at _ _ _, pileR_upd (Nat.le_refl _) hp⟩ (some (.int (nI 10001)))
        exact qT ih' (by rw [← ej, List.length_cons, ← nI_1 st0.length]; rfl) rfl rfl
      · refine br1 (by decide) ?_
        refine br1 (by decide) ?_
        rw [if_neg (by decide), if_neg (by decide)] at hst'
        refine ⟨qin st0.length rfl (by omega) (by omega), ?_⟩
        rw [cl]
        have ih' := ih (j + 1) (by omega) _ hst' (upd p st0.length c) ⟨upd_at _ _ _, pileR_upd (Nat.le_refl _) hp⟩ (some (.int (nI 10002)))
        exact qT ih' (by rw [← ej, List.length_cons, ← nI_1 st0.length]; rfl) rfl rfl
    · subst w2
      rw [if_neg (by decide), if_neg (by decide)]
      rw [if_pos rfl] at hstp
      refine br1 (fun z => z (sg_neg hv)) ?_
      by_cases g2 : v = 33
      · rw [if_pos g2] at hstp
        refine br2 (fun z => z (by rw [g2])) ?_
        match st0, hst, hp, hl0, hstp, cl with
        | x :: r, hst, hp, hl0, hstp, cl =>
          have hr : r.length < 96 := by simp only [List.length_cons] at hl0; omega
          have en : nI (x :: r).length - 1 = nI r.length := nI_sub1 (a := r.length + 1) (b := 1) (by omega)
          have cn := qcl r.length en (by omega)
          refine br2 (fun z => ?_) ?_
          · have z : nI (r.length + 1) < 1 := z
            rw [i_lt, nIi (by omega), show (1 : Int32).toInt = 1 from rfl] at z
            omega
          refine ⟨qin r.length en (by omega) (by omega), ?_⟩
          rw [cn]
          have hx1 : va_up A 4 p 4 r.length = x := hp.1
          rw [hx1]
          have hst'' : st' = (if x = 0 then 1 else 0) :: r := (Option.some.inj hstp).symm
          refine ⟨fun g3 => ?_, fun g3 => ?_⟩
          · refine ⟨qin r.length en (by omega) (by omega), ?_⟩
            rw [cn]
            rw [if_neg g3] at hst''
            subst hst''
            have ih' := ih (j + 1) (by omega) _ hst' (upd p r.length 0) ⟨upd_at _ _ _, pileR_upd (Nat.le_refl _) hp.2⟩ (some (.int (-v)))
            exact qT ih' (by rw [← ej]; rfl) rfl rfl
          · refine ⟨qin r.length en (by omega) (by omega), ?_⟩
            rw [cn]
            rw [if_pos g3] at hst''
            subst hst''
            have ih' := ih (j + 1) (by omega) _ hst' (upd p r.length 1) ⟨upd_at _ _ _, pileR_upd (Nat.le_refl _) hp.2⟩ (some (.int (-v)))
            exact qT ih' (by rw [← ej]; rfl) rfl rfl
        | [], _, _, _, hstp, _ => cases hstp
      · rw [if_neg g2] at hstp
        have hv : v ∈ k_sgs := hv.elim (fun z => absurd z g2) id
        refine br1 (fun z => g2 (i_neg33 z)) ?_
        match st0, hst, hp, hl0, hstp, cl with
        | y :: x :: r, hst, hp, hl0, hstp, cl =>
          have hr : r.length < 95 := by simp only [List.length_cons] at hl0; omega
          have en : nI (y :: x :: r).length + -1 = nI (r.length + 1) := pk_m1 (r.length + 1)
          have en1 : nI (y :: x :: r).length + -1 - 1 = nI r.length := by rw [en]; exact nI_sub1 (a := r.length + 1) (b := 1) (by omega)
          have cn := qcl (r.length + 1) en (by omega)
          have cn1 := qcl r.length en1 (by omega)
          refine br2 (fun z => ?_) ?_
          · have z : nI (r.length + 1 + 1) < 2 := z
            rw [i_lt, nIi (by omega), show (2 : Int32).toInt = 2 from rfl] at z
            omega
          refine ⟨qin r.length en1 (by omega) (by omega), ?_⟩
          refine ⟨qin (r.length + 1) en (by omega) (by omega), ?_⟩
          rw [cn, cn1]
          have hx1 : va_up A 4 p 4 r.length = x := hp.2.1
          have hy1 : va_up A 4 p 4 (r.length + 1) = y := hp.1
          rw [hx1, hy1, Int32.neg_neg]
          refine cL_joined hv ?_
          refine ⟨qin r.length en1 (by omega) (by omega), ?_⟩
          rw [cn1]
          have hst'' : st' = f_join v x y :: r := (Option.some.inj hstp).symm
          subst hst''
          have ih' := ih (j + 1) (by omega) _ hst' (upd p r.length (f_join v x y)) ⟨upd_at _ _ _, pileR_upd (Nat.le_refl _) hp.2.2⟩ (some (.int (-v)))
          exact qT ih' (by rw [← ej, show nI (f_join v x y :: r).length = nI (y :: x :: r).length + -1 from en.symm]; rfl) rfl rfl
        | [x], _, _, _, hstp, _ => cases hstp
        | [], _, _, _, hstp, _ => cases hstp
theorem cL_given {t nm : Nat → Int32} {k i m key : Nat} {a b c : Int32} (hr : rTx X t k i) (hk : k < 14) (hm : f_m t k = m) (hkey : (t (142 + 200 * k)).toNatClampNeg = key) (hok : okText t (142 + 200 * k) m) (hnm : ∀ v : Int32, alw key v → nm v.toNatClampNeg = if nmx key v = 0 then a else if nmx key v = 1 then b else c) (h : ∀ p : Nat → Int32, Q (some (.int (f_val t nm (142 + 200 * k) m))) (mem (va_up A 4 p) F X)) : pz_C yX1_given KX1_given [.ref 1, .ref (xr i), .int a, .int b, .int c] (mem A F X) Q := by
  refine pz_C_of rfl rfl rfl (Nat.le_of_ble_eq_true rfl) (pz_wp_ok (pz_Is_ok SX1_given) [6] 100 ?_)
  have h' := tL_given hr hk hm hkey hok hnm h m 0 (by omega) [] rfl (A 4) trivial none
  rw [vu_s] at h'
  exact h'
end POT
