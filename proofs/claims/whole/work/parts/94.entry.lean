/-! the law's entry: the two constructors, then the loop -/
theorem f_sI_z {t : Nat → Int32} (h : ∀ j, 82 ≤ j → t j = 0) : ∀ n, f_sI t n = 0
  | 0 => rfl
  | n + 1 => by rw [f_sI, f_sI_z h n, h _ (by omega)]; rfl
theorem gT_0 : gT 0 t_0 := by
  have z : ∀ j, (j < 5 ∨ 7 < j) → t_0 j = 0 := fun j h => t_0_0 h
  have q : ∀ hi : Int, 0 ≤ hi → qIn 0 hi (0 : Int32) := fun hi h => ⟨by decide, h⟩
  refine ⟨⟨⟨0, by omega, z 0 (by omega)⟩, ⟨0, by omega, z 1 (by omega), fun i hi => by omega⟩, ⟨0, by omega, z 3 (by omega)⟩, Or.inl (z 4 (by omega)), ⟨0, by omega, z 8 (by omega)⟩, fun k hk => ⟨0, by omega, z _ (by omega)⟩⟩, ⟨fun c hc => ?_, ?_, ?_, fun k hk => ?_, ?_⟩, ?_⟩
  · rw [z _ (by omega), z _ (by omega), z _ (by omega)]
    exact ⟨q 20 (by omega), q 20 (by omega), by decide⟩
  · rw [f_sI_z (fun j hj => z j (by omega))]; omega
  · exact ⟨by decide, by decide⟩
  · rw [z _ (by omega)]; exact q 5 (by omega)
  · exact ⟨by decide, by decide⟩
  · rw [z 2 (by omega)]; exact q 9999 (by omega)
theorem z0row : qIn (-99999) 99999 (0 : Int32) := ⟨by decide, by decide⟩
theorem inv_0 : Inv 0 A_0 F_0 X_0 := by
  refine ⟨by omega, ⟨rfl, gT_0, fun k hk => ?_, rfl, fun g => absurd rfl g⟩, ⟨0, by omega, rfl, rfl, fun j hj => by omega⟩, ⟨0, by omega, rfl, rfl, fun j hj => by omega, fun j hj => by omega⟩, ⟨fun k hk => ?_, fun k hk => ?_⟩, fun j hj => ?_, ⟨0, Nat.le_refl _, rfl, Nat.le_refl _, fun k r h => ?_, fun k k' r h => ?_⟩⟩
  · have e : f_nt (A_0 20) = 0 := qcl 0 (t_0_0 (j := 1) (by omega)) (by omega)
    rw [e] at hk
    omega
  · refine ⟨Or.inl ?_, 0, by omega, rfl⟩
    rcases (show k = 0 ∨ k = 1 ∨ k = 2 ∨ k = 3 by omega) with rfl | rfl | rfl | rfl <;> rfl
  · rcases (show k = 0 ∨ k = 1 ∨ k = 2 ∨ k = 3 by omega) with rfl | rfl | rfl | rfl <;> exact ⟨rfl, rfl, fun j hj => rfl, fun j hj => Or.inr z0row⟩
  · rcases (show j = 0 ∨ j = 1 ∨ j = 2 ∨ j = 3 ∨ j = 4 by omega) with rfl | rfl | rfl | rfl | rfl <;> exact ⟨rfl, fun z => absurd z (show ¬ (0 : Int32) = 1 by decide), fun z => absurd z (show ¬ (0 : Int32) = 2 by decide), fun z => absurd z (show ¬ (0 : Int32) = 3 by decide)⟩
  · cases h
  · cases h
set_option maxRecDepth 8000 in
theorem cI10' {Q : pz_Q} (h : Q none (mem A_0 F_0 X_0)) : pz_C yX10_init KX10_init [.ref 69] (P_0 ++ [.inr (.inr (8, nf_8))]) Q :=
  cI10 (M0 := P_0) (r := 69) rfl (by omega) (qQ h rfl mem_0)
set_option maxRecDepth 8000 in
theorem tL_start {b sN : Nat} {xs : Nat → Int32} {Q : pz_Q} (hN : sN ≤ 3072) (hQ : ∀ M : pz_M, Q (some (.int 1)) M) : pz_T (pz_scr b sN xs) KL_law Q 0 (0, 0) [some (.ref 1000030), none, none, none] [] [] := by
  refine pz_wp_okp (pz_Ip_ok (SL_0 b sN xs)) [18] 100 ?_
  refine ⟨Nat.le_of_ble_eq_true rfl, Nat.le_of_ble_eq_true rfl, Nat.le_of_ble_eq_true rfl, ?_⟩
  refine ⟨⟨Nat.le_of_ble_eq_true rfl, Nat.le_of_ble_eq_true rfl⟩, ?_⟩
  refine qC (cI9 ?_) rfl rfl
  refine ⟨Nat.le_of_ble_eq_true rfl, Nat.le_of_ble_eq_true rfl, Nat.le_of_ble_eq_true rfl, ?_⟩
  refine ⟨⟨Nat.le_of_ble_eq_true rfl, Nat.le_of_ble_eq_true rfl⟩, ?_⟩
  refine qC (cI10' ?_) rfl rfl
  exact qT (tL_loop hN hQ 512 0 rfl A_0 F_0 X_0 _ inv_0 (Nat.le_of_ble_eq_true rfl) (Nat.le_of_ble_eq_true rfl)) rfl rfl rfl
