/-! the reference: fee, fine -/
section MOD
variable {A A1 : qA} {F : qF} {X : qX} {Q : pz_Q} {M : pz_M}
set_option maxRecDepth 8000 in
theorem cM_fee (hok : okS (A 20)) (h : ∀ A' : qA, qag [35, 36] A A' → Q (some (.int (s_fee (A 20)))) (mem A' F X)) : pz_C yX10_fee KX10_fee [.ref 69] (mem A F X) Q := by
  refine pz_C_of rfl rfl rfl (Nat.le_of_ble_eq_true rfl) (pz_wp_ok (pz_Is_ok SX10_fee) [] 100 ?_)
  obtain ⟨n1, n2, n3⟩ := hok.nt
  obtain ⟨p1, p2⟩ := hok.n
  refine cM_counts n2 n1 ?_
  unfold s_fee at h
  cases hc : f_cnt (A 20) 1 (f_nt (A 20)) with
  | none =>
    rw [hc] at h
    refine br2 (by decide) ?_
    exact cM_allAte p2 p1 (h A (qag.refl _ A))
  | some i =>
    rw [hc] at h
    dsimp only at h
    obtain ⟨hi, hkey⟩ := f_cnt_lt _ _ _ _ hc
    refine br1 (fun z => z (nI_pos' (by omega))) ?_
    refine cM_allAte p2 p1 ?_
    refine ⟨qin 97 rfl (by omega) (by omega), ?_⟩
    refine qC (cM_allParts (A := va_up A 35 (upd (A 35) 97 (f_sa (A 20) (f_n (A 20))))) (F := F) (X := X) ?_) rfl rfl
    refine ⟨qin 112 rfl (by omega) (by omega), ?_⟩
    obtain ⟨o1, key, o2, o3, o4⟩ := okTx_m (n3 i hi)
    have hk0 : key = 1 := by
      have : nI key = nI 1 := o3.symm.trans hkey
      exact (nI_eq (by omega) (by omega)).mp this
    refine qC (cM_worked (A := va_up A 35 (upd (upd (A 35) 97 (f_sa (A 20) (f_n (A 20)))) 112 (f_sp (A 20) 36))) (F := F) (X := X) (i := i) (m := f_m (A 20) i) rfl (by omega) o1 (fun p => ?_)) rfl rfl
    have hv : f_val (A 20) (upd (upd (A 35) 97 (f_sa (A 20) (f_n (A 20)))) 112 (f_sp (A 20) 36)) (142 + 200 * i) (f_m (A 20) i) = f_val (A 20) (f_feen (A 20)) (142 + 200 * i) (f_m (A 20) i) := by
      refine f_val_nm o1 o4 (fun v hv => ?_)
      subst hk0
      rcases hv with ⟨hv, -⟩ | ⟨-, hv | hv⟩ | ⟨hv, -⟩
      · omega
      · subst hv; rfl
      · subst hv; rfl
      · omega
    have h' := h (va_up (va_up A 35 (upd (upd (A 35) 97 (f_sa (A 20) (f_n (A 20)))) 112 (f_sp (A 20) 36))) 36 p) ((qag.up (by simp)).trans (qag.up (by simp)))
    rw [← hv] at h'
    exact h'
set_option maxRecDepth 8000 in
theorem cM_fine {e : Int32} (hok : okS (A 20)) (h : ∀ A' : qA, qag [35, 36] A A' → Q (some (.int (s_fine (A 20) e))) (mem A' F X)) : pz_C yX10_fine KX10_fine [.ref 69, .int e] (mem A F X) Q := by
  refine pz_C_of rfl rfl rfl (Nat.le_of_ble_eq_true rfl) (pz_wp_ok (pz_Is_ok SX10_fine) [] 100 ?_)
  obtain ⟨n1, n2, n3⟩ := hok.nt
  obtain ⟨p1, p2⟩ := hok.n
  unfold s_fine at h
  refine cM_isEater p2 (by omega) (fun g1 => ?_) (fun g1 => ?_)
  · refine br1 (by decide) ?_
    rw [if_pos g1] at h
    obtain ⟨a1, a2, a3⟩ := qI (m := 8) g1 (by omega)
    generalize e.toNatClampNeg = en at a1 a2 a3 h
    refine cM_counts n2 n1 ?_
    cases hc : f_cnt (A 20) 2 (f_nt (A 20)) with
    | none =>
      rw [hc] at h
      refine br2 (by decide) ?_
      exact cM_of (w := 2) a1 rfl a2 (by omega) (h A (qag.refl _ A))
    | some i =>
      rw [hc] at h
      dsimp only at h
      obtain ⟨hi, hkey⟩ := f_cnt_lt _ _ _ _ hc
      refine br1 (fun z => z (nI_pos' (by omega))) ?_
      refine cM_of (w := 2) a1 rfl a2 (by omega) ?_
      refine ⟨qin 97 rfl (by omega) (by omega), ?_⟩
      refine qC (cM_of (A := va_up A 35 (upd (A 35) 97 (A 20 (118 + 3 * en + 2)))) (F := F) (X := X) (w := 1) a1 rfl a2 (by omega) ?_) rfl rfl
      refine ⟨qin 99 rfl (by omega) (by omega), ?_⟩
      obtain ⟨o1, key, o2, o3, o4⟩ := okTx_m (n3 i hi)
      have hk0 : key = 2 := by
        have : nI key = nI 2 := o3.symm.trans hkey
        exact (nI_eq (by omega) (by omega)).mp this
      refine qC (cM_worked (A := va_up A 35 (upd (upd (A 35) 97 (A 20 (118 + 3 * en + 2))) 99 (A 20 (118 + 3 * en + 1)))) (F := F) (X := X) (i := i) (m := f_m (A 20) i) rfl (by omega) o1 (fun p => ?_)) rfl rfl
      have hv : f_val (A 20) (upd (upd (A 35) 97 (A 20 (118 + 3 * en + 2))) 99 (A 20 (118 + 3 * en + 1))) (142 + 200 * i) (f_m (A 20) i) = f_val (A 20) (f_finen (A 20) en) (142 + 200 * i) (f_m (A 20) i) := by
        refine f_val_nm o1 o4 (fun v hv => ?_)
        subst hk0
        rcases hv with ⟨hv, -⟩ | ⟨hv, -⟩ | ⟨-, hv | hv⟩
        · omega
        · omega
        · subst hv; rfl
        · subst hv; rfl
      have h' := h (va_up (va_up A 35 (upd (upd (A 35) 97 (A 20 (118 + 3 * en + 2))) 99 (A 20 (118 + 3 * en + 1)))) 36 p) ((qag.up (by simp)).trans (qag.up (by simp)))
      rw [← hv] at h'
      exact h'
  · refine br2 (fun z => z rfl) ?_
    rw [if_neg g1] at h
    exact h A (qag.refl _ A)
end MOD
