/-! the towns: simple methods -/
section POT
variable {A A1 : qA} {F : qF} {X : qX} {Q : pz_Q} {M : pz_M}
theorem cT0_level {c : Nat} {x : Int32} (hx : x = nI c) (hc : c < 36) (h : Q (some (.int (f_lev (A 0) c))) (mem A F X)) : pz_C yX7_level KX7_level [.ref 4, .int x] (mem A F X) Q := by
  refine pz_C_of rfl rfl rfl (Nat.le_of_ble_eq_true rfl) (pz_wp_ok (pz_Is_ok SX7_level) [] 100 ?_)
  have cx := qcl _ hx (by omega)
  refine ⟨qin _ hx hc (by omega), ?_⟩
  refine ⟨qin _ hx hc (by omega), ?_⟩
  refine ⟨qin _ hx hc (by omega), ?_⟩
  unfold f_lev at h
  have q1 := qm_1 (n := 36) (o := 10) (t := A 0) hc
  have q2 := qm_1 (n := 36) (o := 46) (t := A 0) hc
  have q3 := qm_1 (n := 36) (o := 82) (t := A 0) hc
  rw [cx, q1, q2, q3]
  exact h
theorem tT0_allParts (h : Q (some (.int (f_sp (A 0) 36))) (mem A F X)) : ∀ (d c : Nat), c + d = 36 → pz_T z0 KX7_allParts Q 4 (0, 0) [some (.ref 4), some (.int (f_sp (A 0) c)), some (.int (nI c))] [] (mem A F X) := by
  intro d
  induction d with
  | zero =>
    intro c hc
    have hc : c = 36 := by omega
    subst hc
    refine pz_wp_ok (pz_Is_ok SX7_allParts) [4] 100 ?_
    refine br1 (fun z => z (nI_le (Nat.le_refl _) (by omega))) ?_
    exact h
  | succ d ih =>
    intro c hc
    refine pz_wp_ok (pz_Is_ok SX7_allParts) [4] 100 ?_
    refine br2 (n_ge (b := 36) (by omega) (by omega) (by omega)) ?_
    refine ⟨qin c rfl (by omega) (by omega), ?_⟩
    have cc := qcl (x := nI c) c rfl (by omega)
    refine qT (ih (c + 1) (by omega)) ?_ rfl rfl
    rw [← nI_1 c, f_sp, ← qm_1 (n := 36) (o := 82) (t := A 0) (i := c) (by omega)]
    rw [cc]
    rfl
theorem cT0_allParts (h : Q (some (.int (f_sp (A 0) 36))) (mem A F X)) : pz_C yX7_allParts KX7_allParts [.ref 4] (mem A F X) Q := by
  refine pz_C_of rfl rfl rfl (Nat.le_of_ble_eq_true rfl) (pz_wp_ok (pz_Is_ok SX7_allParts) [4] 100 ?_)
  exact tT0_allParts h 36 0 rfl
theorem tT0_allAte {n : Nat} (hn : A 0 0 = nI n) (hb : n ≤ 8) (h : Q (some (.int (f_sa (A 0) n))) (mem A F X)) : ∀ (d c : Nat), c + d = n → pz_T z0 KX7_allAte Q 4 (0, 0) [some (.ref 4), some (.int (f_sa (A 0) c)), some (.int (nI c))] [] (mem A F X) := by
  intro d
  induction d with
  | zero =>
    intro c hc
    have hc : c = n := by omega
    subst hc
    refine pz_wp_ok (pz_Is_ok SX7_allAte) [4] 100 ?_
    refine br1 (fun z => z ?_) h
    show A 0 0 ≤ nI c
    rw [hn]; exact nI_le (Nat.le_refl _) (by omega)
  | succ d ih =>
    intro c hc
    refine pz_wp_ok (pz_Is_ok SX7_allAte) [4] 100 ?_
    refine br2 (fun z => ?_) ?_
    · have z : A 0 0 ≤ nI c := z
      rw [hn] at z
      exact n_ge (by omega) (by omega) (by omega) z
    refine ⟨qin c rfl (by omega) (by omega), ?_⟩
    have cc := qcl (x := nI c) c rfl (by omega)
    refine qT (ih (c + 1) (by omega)) ?_ rfl rfl
    rw [← nI_1 c, f_sa, ← qm_a (t := A 0) (i := c) (by omega)]
    rw [cc]
    rfl
theorem cT0_allAte {n : Nat} (hn : A 0 0 = nI n) (hb : n ≤ 8) (h : Q (some (.int (f_sa (A 0) n))) (mem A F X)) : pz_C yX7_allAte KX7_allAte [.ref 4] (mem A F X) Q := by
  refine pz_C_of rfl rfl rfl (Nat.le_of_ble_eq_true rfl) (pz_wp_ok (pz_Is_ok SX7_allAte) [4] 100 ?_)
  exact tT0_allAte hn hb h n 0 (by omega)
theorem cT0_draw (h : ∀ z : Int32, z = f_z (A 0 5) → Q (some (.int (f_g z))) (mem (va_up A 0 (upd (A 0) 5 z)) F X)) : pz_C yX7_draw KX7_draw [.ref 4] (mem A F X) Q := by
  refine pz_C_of rfl rfl rfl (Nat.le_of_ble_eq_true rfl) (pz_wp_ok (pz_Is_ok SX7_draw) [] 100 ?_)
  have h := h _ rfl
  rw [← mf_z0] at h
  exact h
theorem cT2_level {c : Nat} {x : Int32} (hx : x = nI c) (hc : c < 36) (h : Q (some (.int (f_lev (A 2) c))) (mem A F X)) : pz_C yX7_level KX7_level [.ref 20, .int x] (mem A F X) Q := by
  refine pz_C_of rfl rfl rfl (Nat.le_of_ble_eq_true rfl) (pz_wp_ok (pz_Is_ok SX7_level) [] 100 ?_)
  have cx := qcl _ hx (by omega)
  refine ⟨qin _ hx hc (by omega), ?_⟩
  refine ⟨qin _ hx hc (by omega), ?_⟩
  refine ⟨qin _ hx hc (by omega), ?_⟩
  unfold f_lev at h
  have q1 := qm_1 (n := 36) (o := 10) (t := A 2) hc
  have q2 := qm_1 (n := 36) (o := 46) (t := A 2) hc
  have q3 := qm_1 (n := 36) (o := 82) (t := A 2) hc
  rw [cx, q1, q2, q3]
  exact h
theorem tT2_allParts (h : Q (some (.int (f_sp (A 2) 36))) (mem A F X)) : ∀ (d c : Nat), c + d = 36 → pz_T z0 KX7_allParts Q 4 (0, 0) [some (.ref 20), some (.int (f_sp (A 2) c)), some (.int (nI c))] [] (mem A F X) := by
  intro d
  induction d with
  | zero =>
    intro c hc
    have hc : c = 36 := by omega
    subst hc
    refine pz_wp_ok (pz_Is_ok SX7_allParts) [4] 100 ?_
    refine br1 (fun z => z (nI_le (Nat.le_refl _) (by omega))) ?_
    exact h
  | succ d ih =>
    intro c hc
    refine pz_wp_ok (pz_Is_ok SX7_allParts) [4] 100 ?_
    refine br2 (n_ge (b := 36) (by omega) (by omega) (by omega)) ?_
    refine ⟨qin c rfl (by omega) (by omega), ?_⟩
    have cc := qcl (x := nI c) c rfl (by omega)
    refine qT (ih (c + 1) (by omega)) ?_ rfl rfl
    rw [← nI_1 c, f_sp, ← qm_1 (n := 36) (o := 82) (t := A 2) (i := c) (by omega)]
    rw [cc]
    rfl
theorem cT2_allParts (h : Q (some (.int (f_sp (A 2) 36))) (mem A F X)) : pz_C yX7_allParts KX7_allParts [.ref 20] (mem A F X) Q := by
  refine pz_C_of rfl rfl rfl (Nat.le_of_ble_eq_true rfl) (pz_wp_ok (pz_Is_ok SX7_allParts) [4] 100 ?_)
  exact tT2_allParts h 36 0 rfl
theorem tT2_allAte {n : Nat} (hn : A 2 0 = nI n) (hb : n ≤ 8) (h : Q (some (.int (f_sa (A 2) n))) (mem A F X)) : ∀ (d c : Nat), c + d = n → pz_T z0 KX7_allAte Q 4 (0, 0) [some (.ref 20), some (.int (f_sa (A 2) c)), some (.int (nI c))] [] (mem A F X) := by
  intro d
  induction d with
  | zero =>
    intro c hc
    have hc : c = n := by omega
    subst hc
    refine pz_wp_ok (pz_Is_ok SX7_allAte) [4] 100 ?_
    refine br1 (fun z => z ?_) h
    show A 2 0 ≤ nI c
    rw [hn]; exact nI_le (Nat.le_refl _) (by omega)
  | succ d ih =>
    intro c hc
    refine pz_wp_ok (pz_Is_ok SX7_allAte) [4] 100 ?_
    refine br2 (fun z => ?_) ?_
    · have z : A 2 0 ≤ nI c := z
      rw [hn] at z
      exact n_ge (by omega) (by omega) (by omega) z
    refine ⟨qin c rfl (by omega) (by omega), ?_⟩
    have cc := qcl (x := nI c) c rfl (by omega)
    refine qT (ih (c + 1) (by omega)) ?_ rfl rfl
    rw [← nI_1 c, f_sa, ← qm_a (t := A 2) (i := c) (by omega)]
    rw [cc]
    rfl
theorem cT2_allAte {n : Nat} (hn : A 2 0 = nI n) (hb : n ≤ 8) (h : Q (some (.int (f_sa (A 2) n))) (mem A F X)) : pz_C yX7_allAte KX7_allAte [.ref 20] (mem A F X) Q := by
  refine pz_C_of rfl rfl rfl (Nat.le_of_ble_eq_true rfl) (pz_wp_ok (pz_Is_ok SX7_allAte) [4] 100 ?_)
  exact tT2_allAte hn hb h n 0 (by omega)
theorem cT2_draw (h : ∀ z : Int32, z = f_z (A 2 5) → Q (some (.int (f_g z))) (mem (va_up A 2 (upd (A 2) 5 z)) F X)) : pz_C yX7_draw KX7_draw [.ref 20] (mem A F X) Q := by
  refine pz_C_of rfl rfl rfl (Nat.le_of_ble_eq_true rfl) (pz_wp_ok (pz_Is_ok SX7_draw) [] 100 ?_)
  have h := h _ rfl
  rw [← mf_z2] at h
  exact h
theorem cT3_level {c : Nat} {x : Int32} (hx : x = nI c) (hc : c < 36) (h : Q (some (.int (f_lev (A 3) c))) (mem A F X)) : pz_C yX7_level KX7_level [.ref 28, .int x] (mem A F X) Q := by
  refine pz_C_of rfl rfl rfl (Nat.le_of_ble_eq_true rfl) (pz_wp_ok (pz_Is_ok SX7_level) [] 100 ?_)
  have cx := qcl _ hx (by omega)
  refine ⟨qin _ hx hc (by omega), ?_⟩
  refine ⟨qin _ hx hc (by omega), ?_⟩
  refine ⟨qin _ hx hc (by omega), ?_⟩
  unfold f_lev at h
  have q1 := qm_1 (n := 36) (o := 10) (t := A 3) hc
  have q2 := qm_1 (n := 36) (o := 46) (t := A 3) hc
  have q3 := qm_1 (n := 36) (o := 82) (t := A 3) hc
  rw [cx, q1, q2, q3]
  exact h
theorem tT3_allParts (h : Q (some (.int (f_sp (A 3) 36))) (mem A F X)) : ∀ (d c : Nat), c + d = 36 → pz_T z0 KX7_allParts Q 4 (0, 0) [some (.ref 28), some (.int (f_sp (A 3) c)), some (.int (nI c))] [] (mem A F X) := by
  intro d
  induction d with
  | zero =>
    intro c hc
    have hc : c = 36 := by omega
    subst hc
    refine pz_wp_ok (pz_Is_ok SX7_allParts) [4] 100 ?_
    refine br1 (fun z => z (nI_le (Nat.le_refl _) (by omega))) ?_
    exact h
  | succ d ih =>
    intro c hc
    refine pz_wp_ok (pz_Is_ok SX7_allParts) [4] 100 ?_
    refine br2 (n_ge (b := 36) (by omega) (by omega) (by omega)) ?_
    refine ⟨qin c rfl (by omega) (by omega), ?_⟩
    have cc := qcl (x := nI c) c rfl (by omega)
    refine qT (ih (c + 1) (by omega)) ?_ rfl rfl
    rw [← nI_1 c, f_sp, ← qm_1 (n := 36) (o := 82) (t := A 3) (i := c) (by omega)]
    rw [cc]
    rfl
theorem cT3_allParts (h : Q (some (.int (f_sp (A 3) 36))) (mem A F X)) : pz_C yX7_allParts KX7_allParts [.ref 28] (mem A F X) Q := by
  refine pz_C_of rfl rfl rfl (Nat.le_of_ble_eq_true rfl) (pz_wp_ok (pz_Is_ok SX7_allParts) [4] 100 ?_)
  exact tT3_allParts h 36 0 rfl
theorem tT3_allAte {n : Nat} (hn : A 3 0 = nI n) (hb : n ≤ 8) (h : Q (some (.int (f_sa (A 3) n))) (mem A F X)) : ∀ (d c : Nat), c + d = n → pz_T z0 KX7_allAte Q 4 (0, 0) [some (.ref 28), some (.int (f_sa (A 3) c)), some (.int (nI c))] [] (mem A F X) := by
  intro d
  induction d with
  | zero =>
    intro c hc
    have hc : c = n := by omega
    subst hc
    refine pz_wp_ok (pz_Is_ok SX7_allAte) [4] 100 ?_
    refine br1 (fun z => z ?_) h
    show A 3 0 ≤ nI c
    rw [hn]; exact nI_le (Nat.le_refl _) (by omega)
  | succ d ih =>
    intro c hc
    refine pz_wp_ok (pz_Is_ok SX7_allAte) [4] 100 ?_
    refine br2 (fun z => ?_) ?_
    · have z : A 3 0 ≤ nI c := z
      rw [hn] at z
      exact n_ge (by omega) (by omega) (by omega) z
    refine ⟨qin c rfl (by omega) (by omega), ?_⟩
    have cc := qcl (x := nI c) c rfl (by omega)
    refine qT (ih (c + 1) (by omega)) ?_ rfl rfl
    rw [← nI_1 c, f_sa, ← qm_a (t := A 3) (i := c) (by omega)]
    rw [cc]
    rfl
theorem cT3_allAte {n : Nat} (hn : A 3 0 = nI n) (hb : n ≤ 8) (h : Q (some (.int (f_sa (A 3) n))) (mem A F X)) : pz_C yX7_allAte KX7_allAte [.ref 28] (mem A F X) Q := by
  refine pz_C_of rfl rfl rfl (Nat.le_of_ble_eq_true rfl) (pz_wp_ok (pz_Is_ok SX7_allAte) [4] 100 ?_)
  exact tT3_allAte hn hb h n 0 (by omega)
theorem cT3_draw (h : ∀ z : Int32, z = f_z (A 3 5) → Q (some (.int (f_g z))) (mem (va_up A 3 (upd (A 3) 5 z)) F X)) : pz_C yX7_draw KX7_draw [.ref 28] (mem A F X) Q := by
  refine pz_C_of rfl rfl rfl (Nat.le_of_ble_eq_true rfl) (pz_wp_ok (pz_Is_ok SX7_draw) [] 100 ?_)
  have h := h _ rfl
  rw [← mf_z3] at h
  exact h
set_option maxRecDepth 8000 in
theorem cT0_becomes1 {t : Nat → Int32} (ht : ∀ j, j < 142 → t j = A 1 j) (hc : A 1 4 = 0 ∨ A 1 4 = 1) (h : Q none (mem (va_up A 0 t) F X)) : pz_C yX7_becomes KX7_becomes [.ref 4, .ref 12] (mem A F X) Q := by
  have e1 : (.inl (0, 36, va_cpy (qm 36 10 1 (A 1)) (qm 36 10 1 (A 0)) 0 0 36) : pz_E) = qt_h t := by
    rw [qm_cpy (t' := t) (fun i hi => ht _ (by omega))]
    rfl
  have e2 : (.inl (0, 36, va_cpy (qm 36 46 1 (A 1)) (qm 36 46 1 (A 0)) 0 0 36) : pz_E) = qt_w t := by
    rw [qm_cpy (t' := t) (fun i hi => ht _ (by omega))]
    rfl
  have e3 : (.inl (0, 36, va_cpy (qm 36 82 1 (A 1)) (qm 36 82 1 (A 0)) 0 0 36) : pz_E) = qt_p t := by
    rw [qm_cpy (t' := t) (fun i hi => ht _ (by omega))]
    rfl
  have e4 : (.inl (0, 8, va_cpy (qm 8 118 3 (A 1)) (qm 8 118 3 (A 0)) 0 0 8) : pz_E) = qt_k t := by
    rw [qm_cpy (t' := t) (fun i hi => ht _ (by omega))]
    rfl
  have e5 : (.inl (0, 8, va_cpy (qm 8 119 3 (A 1)) (qm 8 119 3 (A 0)) 0 0 8) : pz_E) = qt_l t := by
    rw [qm_cpy (t' := t) (fun i hi => ht _ (by omega))]
    rfl
  have e6 : (.inl (0, 8, va_cpy (qm 8 120 3 (A 1)) (qm 8 120 3 (A 0)) 0 0 8) : pz_E) = qt_a t := by
    rw [qm_cpy (t' := t) (fun i hi => ht _ (by omega))]
    rfl
  have e7 : (.inl (0, 4, va_cpy (qm 4 6 1 (A 1)) (qm 4 6 1 (A 0)) 0 0 4) : pz_E) = qt_r t := by
    rw [qm_cpy (t' := t) (fun i hi => ht _ (by omega))]
    rfl
  have t156 : pz_T z0 KX7_becomes Q 156 (0, 0) [some (.ref 4), some (.ref 12)] [] (memx0 A F X (.inr (.inr (5, [.ref 5, .ref 6, .ref 7, .ref 8, .ref 9, .ref 10, .ref 11, .int (t 0), .int (t 3), .int (t 4), .int (t 2), .int (t 5), .int (t 1), .ref 1]))) (qt_h t) (qt_w t) (qt_p t) (qt_k t) (qt_l t) (qt_a t) (qt_r t)) := by
    refine pz_wp_ok (pz_Is_ok SX7_becomes) [] 100 ?_
    exact h
  have t148 : pz_T z0 KX7_becomes Q 148 (0, 0) [some (.ref 4), some (.ref 12)] [] (memx0 A F X (.inr (.inr (5, [.ref 5, .ref 6, .ref 7, .ref 8, .ref 9, .ref 10, .ref 11, .int (t 0), .int (t 3), .int (t 4), .int (t 2), .int (t 5), .int (A 0 1), .ref 1]))) (qt_h t) (qt_w t) (qt_p t) (qt_k t) (qt_l t) (qt_a t) (qt_r t)) := by
    refine pz_wp_ok (pz_Is_ok SX7_becomes) [156] 100 ?_
    rw [ht 1 (by omega)] at t156
    exact t156
  have t140 : pz_T z0 KX7_becomes Q 140 (0, 0) [some (.ref 4), some (.ref 12)] [] (memx0 A F X (.inr (.inr (5, [.ref 5, .ref 6, .ref 7, .ref 8, .ref 9, .ref 10, .ref 11, .int (t 0), .int (t 3), .int (t 4), .int (t 2), .int (A 0 5), .int (A 0 1), .ref 1]))) (qt_h t) (qt_w t) (qt_p t) (qt_k t) (qt_l t) (qt_a t) (qt_r t)) := by
    refine pz_wp_ok (pz_Is_ok SX7_becomes) [148] 100 ?_
    rw [ht 5 (by omega)] at t148
    exact t148
  have t132 : pz_T z0 KX7_becomes Q 132 (0, 0) [some (.ref 4), some (.ref 12)] [] (memx0 A F X (.inr (.inr (5, [.ref 5, .ref 6, .ref 7, .ref 8, .ref 9, .ref 10, .ref 11, .int (t 0), .int (t 3), .int (t 4), .int (A 0 2), .int (A 0 5), .int (A 0 1), .ref 1]))) (qt_h t) (qt_w t) (qt_p t) (qt_k t) (qt_l t) (qt_a t) (qt_r t)) := by
    refine pz_wp_ok (pz_Is_ok SX7_becomes) [140] 100 ?_
    rw [ht 2 (by omega)] at t140
    exact t140
  have t124 : pz_T z0 KX7_becomes Q 124 (0, 0) [some (.ref 4), some (.ref 12)] [] (memx0 A F X (.inr (.inr (5, [.ref 5, .ref 6, .ref 7, .ref 8, .ref 9, .ref 10, .ref 11, .int (t 0), .int (t 3), .int (A 0 4), .int (A 0 2), .int (A 0 5), .int (A 0 1), .ref 1]))) (qt_h t) (qt_w t) (qt_p t) (qt_k t) (qt_l t) (qt_a t) (qt_r t)) := by
    refine pz_wp_ok (pz_Is_ok SX7_becomes) [132] 100 ?_
    refine ⟨hc, ?_⟩
    rw [ht 4 (by omega)] at t132
    exact t132
  have t116 : pz_T z0 KX7_becomes Q 116 (0, 0) [some (.ref 4), some (.ref 12)] [] (memx0 A F X (.inr (.inr (5, [.ref 5, .ref 6, .ref 7, .ref 8, .ref 9, .ref 10, .ref 11, .int (t 0), .int (A 0 3), .int (A 0 4), .int (A 0 2), .int (A 0 5), .int (A 0 1), .ref 1]))) (qt_h t) (qt_w t) (qt_p t) (qt_k t) (qt_l t) (qt_a t) (qt_r t)) := by
    refine pz_wp_ok (pz_Is_ok SX7_becomes) [124] 100 ?_
    rw [ht 3 (by omega)] at t124
    exact t124
  have t108 : pz_T z0 KX7_becomes Q 108 (0, 0) [some (.ref 4), some (.ref 12)] [] (memx0 A F X (.inr (.inr (5, [.ref 5, .ref 6, .ref 7, .ref 8, .ref 9, .ref 10, .ref 11, .int (A 0 0), .int (A 0 3), .int (A 0 4), .int (A 0 2), .int (A 0 5), .int (A 0 1), .ref 1]))) (qt_h t) (qt_w t) (qt_p t) (qt_k t) (qt_l t) (qt_a t) (qt_r t)) := by
    refine pz_wp_ok (pz_Is_ok SX7_becomes) [116] 100 ?_
    rw [ht 0 (by omega)] at t116
    exact t116
  have t90 : pz_T z0 KX7_becomes Q 90 (0, 0) [some (.ref 4), some (.ref 12)] [] (memx0 A F X (.inr (.inr (5, [.ref 5, .ref 6, .ref 7, .ref 8, .ref 9, .ref 10, .ref 11, .int (A 0 0), .int (A 0 3), .int (A 0 4), .int (A 0 2), .int (A 0 5), .int (A 0 1), .ref 1]))) (qt_h t) (qt_w t) (qt_p t) (qt_k t) (qt_l t) (qt_a t) (qt_r (A 0))) := by
    refine pz_wp_ok (pz_Is_ok SX7_becomes) [108] 100 ?_
    refine ⟨⟨by decide, by decide, by decide, by decide, by decide⟩, ?_⟩
    rw [← e7] at t108
    exact t108
  have t75 : pz_T z0 KX7_becomes Q 75 (0, 0) [some (.ref 4), some (.ref 12)] [] (memx0 A F X (.inr (.inr (5, [.ref 5, .ref 6, .ref 7, .ref 8, .ref 9, .ref 10, .ref 11, .int (A 0 0), .int (A 0 3), .int (A 0 4), .int (A 0 2), .int (A 0 5), .int (A 0 1), .ref 1]))) (qt_h t) (qt_w t) (qt_p t) (qt_k t) (qt_l t) (qt_a (A 0)) (qt_r (A 0))) := by
    refine pz_wp_ok (pz_Is_ok SX7_becomes) [90] 100 ?_
    refine ⟨⟨by decide, by decide, by decide, by decide, by decide⟩, ?_⟩
    rw [← e6] at t90
    exact t90
  have t60 : pz_T z0 KX7_becomes Q 60 (0, 0) [some (.ref 4), some (.ref 12)] [] (memx0 A F X (.inr (.inr (5, [.ref 5, .ref 6, .ref 7, .ref 8, .ref 9, .ref 10, .ref 11, .int (A 0 0), .int (A 0 3), .int (A 0 4), .int (A 0 2), .int (A 0 5), .int (A 0 1), .ref 1]))) (qt_h t) (qt_w t) (qt_p t) (qt_k t) (qt_l (A 0)) (qt_a (A 0)) (qt_r (A 0))) := by
    refine pz_wp_ok (pz_Is_ok SX7_becomes) [75] 100 ?_
    refine ⟨⟨by decide, by decide, by decide, by decide, by decide⟩, ?_⟩
    rw [← e5] at t75
    exact t75
  have t45 : pz_T z0 KX7_becomes Q 45 (0, 0) [some (.ref 4), some (.ref 12)] [] (memx0 A F X (.inr (.inr (5, [.ref 5, .ref 6, .ref 7, .ref 8, .ref 9, .ref 10, .ref 11, .int (A 0 0), .int (A 0 3), .int (A 0 4), .int (A 0 2), .int (A 0 5), .int (A 0 1), .ref 1]))) (qt_h t) (qt_w t) (qt_p t) (qt_k (A 0)) (qt_l (A 0)) (qt_a (A 0)) (qt_r (A 0))) := by
    refine pz_wp_ok (pz_Is_ok SX7_becomes) [60] 100 ?_
    refine ⟨⟨by decide, by decide, by decide, by decide, by decide⟩, ?_⟩
    rw [← e4] at t60
    exact t60
  have t30 : pz_T z0 KX7_becomes Q 30 (0, 0) [some (.ref 4), some (.ref 12)] [] (memx0 A F X (.inr (.inr (5, [.ref 5, .ref 6, .ref 7, .ref 8, .ref 9, .ref 10, .ref 11, .int (A 0 0), .int (A 0 3), .int (A 0 4), .int (A 0 2), .int (A 0 5), .int (A 0 1), .ref 1]))) (qt_h t) (qt_w t) (qt_p (A 0)) (qt_k (A 0)) (qt_l (A 0)) (qt_a (A 0)) (qt_r (A 0))) := by
    refine pz_wp_ok (pz_Is_ok SX7_becomes) [45] 100 ?_
    refine ⟨⟨by decide, by decide, by decide, by decide, by decide⟩, ?_⟩
    rw [← e3] at t45
    exact t45
  have t15 : pz_T z0 KX7_becomes Q 15 (0, 0) [some (.ref 4), some (.ref 12)] [] (memx0 A F X (.inr (.inr (5, [.ref 5, .ref 6, .ref 7, .ref 8, .ref 9, .ref 10, .ref 11, .int (A 0 0), .int (A 0 3), .int (A 0 4), .int (A 0 2), .int (A 0 5), .int (A 0 1), .ref 1]))) (qt_h t) (qt_w (A 0)) (qt_p (A 0)) (qt_k (A 0)) (qt_l (A 0)) (qt_a (A 0)) (qt_r (A 0))) := by
    refine pz_wp_ok (pz_Is_ok SX7_becomes) [30] 100 ?_
    refine ⟨⟨by decide, by decide, by decide, by decide, by decide⟩, ?_⟩
    rw [← e2] at t30
    exact t30
  have t0 : pz_T z0 KX7_becomes Q 0 (0, 0) [some (.ref 4), some (.ref 12)] [] (memx0 A F X (.inr (.inr (5, [.ref 5, .ref 6, .ref 7, .ref 8, .ref 9, .ref 10, .ref 11, .int (A 0 0), .int (A 0 3), .int (A 0 4), .int (A 0 2), .int (A 0 5), .int (A 0 1), .ref 1]))) (qt_h (A 0)) (qt_w (A 0)) (qt_p (A 0)) (qt_k (A 0)) (qt_l (A 0)) (qt_a (A 0)) (qt_r (A 0))) := by
    refine pz_wp_ok (pz_Is_ok SX7_becomes) [15] 100 ?_
    refine ⟨⟨by decide, by decide, by decide, by decide, by decide⟩, ?_⟩
    rw [← e1] at t15
    exact t15
  exact pz_C_of rfl rfl rfl (Nat.le_of_ble_eq_true rfl) t0
set_option maxRecDepth 8000 in
theorem cT1_becomes0 {t : Nat → Int32} (ht : ∀ j, j < 142 → t j = A 0 j) (hc : A 0 4 = 0 ∨ A 0 4 = 1) (h : Q none (mem (va_up A 1 t) F X)) : pz_C yX7_becomes KX7_becomes [.ref 12, .ref 4] (mem A F X) Q := by
  have e1 : (.inl (0, 36, va_cpy (qm 36 10 1 (A 0)) (qm 36 10 1 (A 1)) 0 0 36) : pz_E) = qt_h t := by
    rw [qm_cpy (t' := t) (fun i hi => ht _ (by omega))]
    rfl
  have e2 : (.inl (0, 36, va_cpy (qm 36 46 1 (A 0)) (qm 36 46 1 (A 1)) 0 0 36) : pz_E) = qt_w t := by
    rw [qm_cpy (t' := t) (fun i hi => ht _ (by omega))]
    rfl
  have e3 : (.inl (0, 36, va_cpy (qm 36 82 1 (A 0)) (qm 36 82 1 (A 1)) 0 0 36) : pz_E) = qt_p t := by
    rw [qm_cpy (t' := t) (fun i hi => ht _ (by omega))]
    rfl
  have e4 : (.inl (0, 8, va_cpy (qm 8 118 3 (A 0)) (qm 8 118 3 (A 1)) 0 0 8) : pz_E) = qt_k t := by
    rw [qm_cpy (t' := t) (fun i hi => ht _ (by omega))]
    rfl
  have e5 : (.inl (0, 8, va_cpy (qm 8 119 3 (A 0)) (qm 8 119 3 (A 1)) 0 0 8) : pz_E) = qt_l t := by
    rw [qm_cpy (t' := t) (fun i hi => ht _ (by omega))]
    rfl
  have e6 : (.inl (0, 8, va_cpy (qm 8 120 3 (A 0)) (qm 8 120 3 (A 1)) 0 0 8) : pz_E) = qt_a t := by
    rw [qm_cpy (t' := t) (fun i hi => ht _ (by omega))]
    rfl
  have e7 : (.inl (0, 4, va_cpy (qm 4 6 1 (A 0)) (qm 4 6 1 (A 1)) 0 0 4) : pz_E) = qt_r t := by
    rw [qm_cpy (t' := t) (fun i hi => ht _ (by omega))]
    rfl
  have t156 : pz_T z0 KX7_becomes Q 156 (0, 0) [some (.ref 12), some (.ref 4)] [] (memx1 A F X (.inr (.inr (5, [.ref 13, .ref 14, .ref 15, .ref 16, .ref 17, .ref 18, .ref 19, .int (t 0), .int (t 3), .int (t 4), .int (t 2), .int (t 5), .int (t 1), .ref 1]))) (qt_h t) (qt_w t) (qt_p t) (qt_k t) (qt_l t) (qt_a t) (qt_r t)) := by
    refine pz_wp_ok (pz_Is_ok SX7_becomes) [] 100 ?_
    exact h
  have t148 : pz_T z0 KX7_becomes Q 148 (0, 0) [some (.ref 12), some (.ref 4)] [] (memx1 A F X (.inr (.inr (5, [.ref 13, .ref 14, .ref 15, .ref 16, .ref 17, .ref 18, .ref 19, .int (t 0), .int (t 3), .int (t 4), .int (t 2), .int (t 5), .int (A 1 1), .ref 1]))) (qt_h t) (qt_w t) (qt_p t) (qt_k t) (qt_l t) (qt_a t) (qt_r t)) := by
    refine pz_wp_ok (pz_Is_ok SX7_becomes) [156] 100 ?_
    rw [ht 1 (by omega)] at t156
    exact t156
  have t140 : pz_T z0 KX7_becomes Q 140 (0, 0) [some (.ref 12), some (.ref 4)] [] (memx1 A F X (.inr (.inr (5, [.ref 13, .ref 14, .ref 15, .ref 16, .ref 17, .ref 18, .ref 19, .int (t 0), .int (t 3), .int (t 4), .int (t 2), .int (A 1 5), .int (A 1 1), .ref 1]))) (qt_h t) (qt_w t) (qt_p t) (qt_k t) (qt_l t) (qt_a t) (qt_r t)) := by
    refine pz_wp_ok (pz_Is_ok SX7_becomes) [148] 100 ?_
    rw [ht 5 (by omega)] at t148
    exact t148
  have t132 : pz_T z0 KX7_becomes Q 132 (0, 0) [some (.ref 12), some (.ref 4)] [] (memx1 A F X (.inr (.inr (5, [.ref 13, .ref 14, .ref 15, .ref 16, .ref 17, .ref 18, .ref 19, .int (t 0), .int (t 3), .int (t 4), .int (A 1 2), .int (A 1 5), .int (A 1 1), .ref 1]))) (qt_h t) (qt_w t) (qt_p t) (qt_k t) (qt_l t) (qt_a t) (qt_r t)) := by
    refine pz_wp_ok (pz_Is_ok SX7_becomes) [140] 100 ?_
    rw [ht 2 (by omega)] at t140
    exact t140
  have t124 : pz_T z0 KX7_becomes Q 124 (0, 0) [some (.ref 12), some (.ref 4)] [] (memx1 A F X (.inr (.inr (5, [.ref 13, .ref 14, .ref 15, .ref 16, .ref 17, .ref 18, .ref 19, .int (t 0), .int (t 3), .int (A 1 4), .int (A 1 2), .int (A 1 5), .int (A 1 1), .ref 1]))) (qt_h t) (qt_w t) (qt_p t) (qt_k t) (qt_l t) (qt_a t) (qt_r t)) := by
    refine pz_wp_ok (pz_Is_ok SX7_becomes) [132] 100 ?_
    refine ⟨hc, ?_⟩
    rw [ht 4 (by omega)] at t132
    exact t132
  have t116 : pz_T z0 KX7_becomes Q 116 (0, 0) [some (.ref 12), some (.ref 4)] [] (memx1 A F X (.inr (.inr (5, [.ref 13, .ref 14, .ref 15, .ref 16, .ref 17, .ref 18, .ref 19, .int (t 0), .int (A 1 3), .int (A 1 4), .int (A 1 2), .int (A 1 5), .int (A 1 1), .ref 1]))) (qt_h t) (qt_w t) (qt_p t) (qt_k t) (qt_l t) (qt_a t) (qt_r t)) := by
    refine pz_wp_ok (pz_Is_ok SX7_becomes) [124] 100 ?_
    rw [ht 3 (by omega)] at t124
    exact t124
  have t108 : pz_T z0 KX7_becomes Q 108 (0, 0) [some (.ref 12), some (.ref 4)] [] (memx1 A F X (.inr (.inr (5, [.ref 13, .ref 14, .ref 15, .ref 16, .ref 17, .ref 18, .ref 19, .int (A 1 0), .int (A 1 3), .int (A 1 4), .int (A 1 2), .int (A 1 5), .int (A 1 1), .ref 1]))) (qt_h t) (qt_w t) (qt_p t) (qt_k t) (qt_l t) (qt_a t) (qt_r t)) := by
    refine pz_wp_ok (pz_Is_ok SX7_becomes) [116] 100 ?_
    rw [ht 0 (by omega)] at t116
    exact t116
  have t90 : pz_T z0 KX7_becomes Q 90 (0, 0) [some (.ref 12), some (.ref 4)] [] (memx1 A F X (.inr (.inr (5, [.ref 13, .ref 14, .ref 15, .ref 16, .ref 17, .ref 18, .ref 19, .int (A 1 0), .int (A 1 3), .int (A 1 4), .int (A 1 2), .int (A 1 5), .int (A 1 1), .ref 1]))) (qt_h t) (qt_w t) (qt_p t) (qt_k t) (qt_l t) (qt_a t) (qt_r (A 1))) := by
    refine pz_wp_ok (pz_Is_ok SX7_becomes) [108] 100 ?_
    refine ⟨⟨by decide, by decide, by decide, by decide, by decide⟩, ?_⟩
    rw [← e7] at t108
    exact t108
  have t75 : pz_T z0 KX7_becomes Q 75 (0, 0) [some (.ref 12), some (.ref 4)] [] (memx1 A F X (.inr (.inr (5, [.ref 13, .ref 14, .ref 15, .ref 16, .ref 17, .ref 18, .ref 19, .int (A 1 0), .int (A 1 3), .int (A 1 4), .int (A 1 2), .int (A 1 5), .int (A 1 1), .ref 1]))) (qt_h t) (qt_w t) (qt_p t) (qt_k t) (qt_l t) (qt_a (A 1)) (qt_r (A 1))) := by
    refine pz_wp_ok (pz_Is_ok SX7_becomes) [90] 100 ?_
    refine ⟨⟨by decide, by decide, by decide, by decide, by decide⟩, ?_⟩
    rw [← e6] at t90
    exact t90
  have t60 : pz_T z0 KX7_becomes Q 60 (0, 0) [some (.ref 12), some (.ref 4)] [] (memx1 A F X (.inr (.inr (5, [.ref 13, .ref 14, .ref 15, .ref 16, .ref 17, .ref 18, .ref 19, .int (A 1 0), .int (A 1 3), .int (A 1 4), .int (A 1 2), .int (A 1 5), .int (A 1 1), .ref 1]))) (qt_h t) (qt_w t) (qt_p t) (qt_k t) (qt_l (A 1)) (qt_a (A 1)) (qt_r (A 1))) := by
    refine pz_wp_ok (pz_Is_ok SX7_becomes) [75] 100 ?_
    refine ⟨⟨by decide, by decide, by decide, by decide, by decide⟩, ?_⟩
    rw [← e5] at t75
    exact t75
  have t45 : pz_T z0 KX7_becomes Q 45 (0, 0) [some (.ref 12), some (.ref 4)] [] (memx1 A F X (.inr (.inr (5, [.ref 13, .ref 14, .ref 15, .ref 16, .ref 17, .ref 18, .ref 19, .int (A 1 0), .int (A 1 3), .int (A 1 4), .int (A 1 2), .int (A 1 5), .int (A 1 1), .ref 1]))) (qt_h t) (qt_w t) (qt_p t) (qt_k (A 1)) (qt_l (A 1)) (qt_a (A 1)) (qt_r (A 1))) := by
    refine pz_wp_ok (pz_Is_ok SX7_becomes) [60] 100 ?_
    refine ⟨⟨by decide, by decide, by decide, by decide, by decide⟩, ?_⟩
    rw [← e4] at t60
    exact t60
  have t30 : pz_T z0 KX7_becomes Q 30 (0, 0) [some (.ref 12), some (.ref 4)] [] (memx1 A F X (.inr (.inr (5, [.ref 13, .ref 14, .ref 15, .ref 16, .ref 17, .ref 18, .ref 19, .int (A 1 0), .int (A 1 3), .int (A 1 4), .int (A 1 2), .int (A 1 5), .int (A 1 1), .ref 1]))) (qt_h t) (qt_w t) (qt_p (A 1)) (qt_k (A 1)) (qt_l (A 1)) (qt_a (A 1)) (qt_r (A 1))) := by
    refine pz_wp_ok (pz_Is_ok SX7_becomes) [45] 100 ?_
    refine ⟨⟨by decide, by decide, by decide, by decide, by decide⟩, ?_⟩
    rw [← e3] at t45
    exact t45
  have t15 : pz_T z0 KX7_becomes Q 15 (0, 0) [some (.ref 12), some (.ref 4)] [] (memx1 A F X (.inr (.inr (5, [.ref 13, .ref 14, .ref 15, .ref 16, .ref 17, .ref 18, .ref 19, .int (A 1 0), .int (A 1 3), .int (A 1 4), .int (A 1 2), .int (A 1 5), .int (A 1 1), .ref 1]))) (qt_h t) (qt_w (A 1)) (qt_p (A 1)) (qt_k (A 1)) (qt_l (A 1)) (qt_a (A 1)) (qt_r (A 1))) := by
    refine pz_wp_ok (pz_Is_ok SX7_becomes) [30] 100 ?_
    refine ⟨⟨by decide, by decide, by decide, by decide, by decide⟩, ?_⟩
    rw [← e2] at t30
    exact t30
  have t0 : pz_T z0 KX7_becomes Q 0 (0, 0) [some (.ref 12), some (.ref 4)] [] (memx1 A F X (.inr (.inr (5, [.ref 13, .ref 14, .ref 15, .ref 16, .ref 17, .ref 18, .ref 19, .int (A 1 0), .int (A 1 3), .int (A 1 4), .int (A 1 2), .int (A 1 5), .int (A 1 1), .ref 1]))) (qt_h (A 1)) (qt_w (A 1)) (qt_p (A 1)) (qt_k (A 1)) (qt_l (A 1)) (qt_a (A 1)) (qt_r (A 1))) := by
    refine pz_wp_ok (pz_Is_ok SX7_becomes) [15] 100 ?_
    refine ⟨⟨by decide, by decide, by decide, by decide, by decide⟩, ?_⟩
    rw [← e1] at t15
    exact t15
  exact pz_C_of rfl rfl rfl (Nat.le_of_ble_eq_true rfl) t0
set_option maxRecDepth 8000 in
theorem cT2_becomes0 {t : Nat → Int32} (ht : ∀ j, j < 142 → t j = A 0 j) (hc : A 0 4 = 0 ∨ A 0 4 = 1) (h : Q none (mem (va_up A 2 t) F X)) : pz_C yX7_becomes KX7_becomes [.ref 20, .ref 4] (mem A F X) Q := by
  have e1 : (.inl (0, 36, va_cpy (qm 36 10 1 (A 0)) (qm 36 10 1 (A 2)) 0 0 36) : pz_E) = qt_h t := by
    rw [qm_cpy (t' := t) (fun i hi => ht _ (by omega))]
    rfl
  have e2 : (.inl (0, 36, va_cpy (qm 36 46 1 (A 0)) (qm 36 46 1 (A 2)) 0 0 36) : pz_E) = qt_w t := by
    rw [qm_cpy (t' := t) (fun i hi => ht _ (by omega))]
    rfl
  have e3 : (.inl (0, 36, va_cpy (qm 36 82 1 (A 0)) (qm 36 82 1 (A 2)) 0 0 36) : pz_E) = qt_p t := by
    rw [qm_cpy (t' := t) (fun i hi => ht _ (by omega))]
    rfl
  have e4 : (.inl (0, 8, va_cpy (qm 8 118 3 (A 0)) (qm 8 118 3 (A 2)) 0 0 8) : pz_E) = qt_k t := by
    rw [qm_cpy (t' := t) (fun i hi => ht _ (by omega))]
    rfl
  have e5 : (.inl (0, 8, va_cpy (qm 8 119 3 (A 0)) (qm 8 119 3 (A 2)) 0 0 8) : pz_E) = qt_l t := by
    rw [qm_cpy (t' := t) (fun i hi => ht _ (by omega))]
    rfl
  have e6 : (.inl (0, 8, va_cpy (qm 8 120 3 (A 0)) (qm 8 120 3 (A 2)) 0 0 8) : pz_E) = qt_a t := by
    rw [qm_cpy (t' := t) (fun i hi => ht _ (by omega))]
    rfl
  have e7 : (.inl (0, 4, va_cpy (qm 4 6 1 (A 0)) (qm 4 6 1 (A 2)) 0 0 4) : pz_E) = qt_r t := by
    rw [qm_cpy (t' := t) (fun i hi => ht _ (by omega))]
    rfl
  have t156 : pz_T z0 KX7_becomes Q 156 (0, 0) [some (.ref 20), some (.ref 4)] [] (memx2 A F X (.inr (.inr (5, [.ref 21, .ref 22, .ref 23, .ref 24, .ref 25, .ref 26, .ref 27, .int (t 0), .int (t 3), .int (t 4), .int (t 2), .int (t 5), .int (t 1), .ref 1]))) (qt_h t) (qt_w t) (qt_p t) (qt_k t) (qt_l t) (qt_a t) (qt_r t)) := by
    refine pz_wp_ok (pz_Is_ok SX7_becomes) [] 100 ?_
    exact h
  have t148 : pz_T z0 KX7_becomes Q 148 (0, 0) [some (.ref 20), some (.ref 4)] [] (memx2 A F X (.inr (.inr (5, [.ref 21, .ref 22, .ref 23, .ref 24, .ref 25, .ref 26, .ref 27, .int (t 0), .int (t 3), .int (t 4), .int (t 2), .int (t 5), .int (A 2 1), .ref 1]))) (qt_h t) (qt_w t) (qt_p t) (qt_k t) (qt_l t) (qt_a t) (qt_r t)) := by
    refine pz_wp_ok (pz_Is_ok SX7_becomes) [156] 100 ?_
    rw [ht 1 (by omega)] at t156
    exact t156
  have t140 : pz_T z0 KX7_becomes Q 140 (0, 0) [some (.ref 20), some (.ref 4)] [] (memx2 A F X (.inr (.inr (5, [.ref 21, .ref 22, .ref 23, .ref 24, .ref 25, .ref 26, .ref 27, .int (t 0), .int (t 3), .int (t 4), .int (t 2), .int (A 2 5), .int (A 2 1), .ref 1]))) (qt_h t) (qt_w t) (qt_p t) (qt_k t) (qt_l t) (qt_a t) (qt_r t)) := by
    refine pz_wp_ok (pz_Is_ok SX7_becomes) [148] 100 ?_
    rw [ht 5 (by omega)] at t148
    exact t148
  have t132 : pz_T z0 KX7_becomes Q 132 (0, 0) [some (.ref 20), some (.ref 4)] [] (memx2 A F X (.inr (.inr (5, [.ref 21, .ref 22, .ref 23, .ref 24, .ref 25, .ref 26, .ref 27, .int (t 0), .int (t 3), .int (t 4), .int (A 2 2), .int (A 2 5), .int (A 2 1), .ref 1]))) (qt_h t) (qt_w t) (qt_p t) (qt_k t) (qt_l t) (qt_a t) (qt_r t)) := by
    refine pz_wp_ok (pz_Is_ok SX7_becomes) [140] 100 ?_
    rw [ht 2 (by omega)] at t140
    exact t140
  have t124 : pz_T z0 KX7_becomes Q 124 (0, 0) [some (.ref 20), some (.ref 4)] [] (memx2 A F X (.inr (.inr (5, [.ref 21, .ref 22, .ref 23, .ref 24, .ref 25, .ref 26, .ref 27, .int (t 0), .int (t 3), .int (A 2 4), .int (A 2 2), .int (A 2 5), .int (A 2 1), .ref 1]))) (qt_h t) (qt_w t) (qt_p t) (qt_k t) (qt_l t) (qt_a t) (qt_r t)) := by
    refine pz_wp_ok (pz_Is_ok SX7_becomes) [132] 100 ?_
    refine ⟨hc, ?_⟩
    rw [ht 4 (by omega)] at t132
    exact t132
  have t116 : pz_T z0 KX7_becomes Q 116 (0, 0) [some (.ref 20), some (.ref 4)] [] (memx2 A F X (.inr (.inr (5, [.ref 21, .ref 22, .ref 23, .ref 24, .ref 25, .ref 26, .ref 27, .int (t 0), .int (A 2 3), .int (A 2 4), .int (A 2 2), .int (A 2 5), .int (A 2 1), .ref 1]))) (qt_h t) (qt_w t) (qt_p t) (qt_k t) (qt_l t) (qt_a t) (qt_r t)) := by
    refine pz_wp_ok (pz_Is_ok SX7_becomes) [124] 100 ?_
    rw [ht 3 (by omega)] at t124
    exact t124
  have t108 : pz_T z0 KX7_becomes Q 108 (0, 0) [some (.ref 20), some (.ref 4)] [] (memx2 A F X (.inr (.inr (5, [.ref 21, .ref 22, .ref 23, .ref 24, .ref 25, .ref 26, .ref 27, .int (A 2 0), .int (A 2 3), .int (A 2 4), .int (A 2 2), .int (A 2 5), .int (A 2 1), .ref 1]))) (qt_h t) (qt_w t) (qt_p t) (qt_k t) (qt_l t) (qt_a t) (qt_r t)) := by
    refine pz_wp_ok (pz_Is_ok SX7_becomes) [116] 100 ?_
    rw [ht 0 (by omega)] at t116
    exact t116
  have t90 : pz_T z0 KX7_becomes Q 90 (0, 0) [some (.ref 20), some (.ref 4)] [] (memx2 A F X (.inr (.inr (5, [.ref 21, .ref 22, .ref 23, .ref 24, .ref 25, .ref 26, .ref 27, .int (A 2 0), .int (A 2 3), .int (A 2 4), .int (A 2 2), .int (A 2 5), .int (A 2 1), .ref 1]))) (qt_h t) (qt_w t) (qt_p t) (qt_k t) (qt_l t) (qt_a t) (qt_r (A 2))) := by
    refine pz_wp_ok (pz_Is_ok SX7_becomes) [108] 100 ?_
    refine ⟨⟨by decide, by decide, by decide, by decide, by decide⟩, ?_⟩
    rw [← e7] at t108
    exact t108
  have t75 : pz_T z0 KX7_becomes Q 75 (0, 0) [some (.ref 20), some (.ref 4)] [] (memx2 A F X (.inr (.inr (5, [.ref 21, .ref 22, .ref 23, .ref 24, .ref 25, .ref 26, .ref 27, .int (A 2 0), .int (A 2 3), .int (A 2 4), .int (A 2 2), .int (A 2 5), .int (A 2 1), .ref 1]))) (qt_h t) (qt_w t) (qt_p t) (qt_k t) (qt_l t) (qt_a (A 2)) (qt_r (A 2))) := by
    refine pz_wp_ok (pz_Is_ok SX7_becomes) [90] 100 ?_
    refine ⟨⟨by decide, by decide, by decide, by decide, by decide⟩, ?_⟩
    rw [← e6] at t90
    exact t90
  have t60 : pz_T z0 KX7_becomes Q 60 (0, 0) [some (.ref 20), some (.ref 4)] [] (memx2 A F X (.inr (.inr (5, [.ref 21, .ref 22, .ref 23, .ref 24, .ref 25, .ref 26, .ref 27, .int (A 2 0), .int (A 2 3), .int (A 2 4), .int (A 2 2), .int (A 2 5), .int (A 2 1), .ref 1]))) (qt_h t) (qt_w t) (qt_p t) (qt_k t) (qt_l (A 2)) (qt_a (A 2)) (qt_r (A 2))) := by
    refine pz_wp_ok (pz_Is_ok SX7_becomes) [75] 100 ?_
    refine ⟨⟨by decide, by decide, by decide, by decide, by decide⟩, ?_⟩
    rw [← e5] at t75
    exact t75
  have t45 : pz_T z0 KX7_becomes Q 45 (0, 0) [some (.ref 20), some (.ref 4)] [] (memx2 A F X (.inr (.inr (5, [.ref 21, .ref 22, .ref 23, .ref 24, .ref 25, .ref 26, .ref 27, .int (A 2 0), .int (A 2 3), .int (A 2 4), .int (A 2 2), .int (A 2 5), .int (A 2 1), .ref 1]))) (qt_h t) (qt_w t) (qt_p t) (qt_k (A 2)) (qt_l (A 2)) (qt_a (A 2)) (qt_r (A 2))) := by
    refine pz_wp_ok (pz_Is_ok SX7_becomes) [60] 100 ?_
    refine ⟨⟨by decide, by decide, by decide, by decide, by decide⟩, ?_⟩
    rw [← e4] at t60
    exact t60
  have t30 : pz_T z0 KX7_becomes Q 30 (0, 0) [some (.ref 20), some (.ref 4)] [] (memx2 A F X (.inr (.inr (5, [.ref 21, .ref 22, .ref 23, .ref 24, .ref 25, .ref 26, .ref 27, .int (A 2 0), .int (A 2 3), .int (A 2 4), .int (A 2 2), .int (A 2 5), .int (A 2 1), .ref 1]))) (qt_h t) (qt_w t) (qt_p (A 2)) (qt_k (A 2)) (qt_l (A 2)) (qt_a (A 2)) (qt_r (A 2))) := by
    refine pz_wp_ok (pz_Is_ok SX7_becomes) [45] 100 ?_
    refine ⟨⟨by decide, by decide, by decide, by decide, by decide⟩, ?_⟩
    rw [← e3] at t45
    exact t45
  have t15 : pz_T z0 KX7_becomes Q 15 (0, 0) [some (.ref 20), some (.ref 4)] [] (memx2 A F X (.inr (.inr (5, [.ref 21, .ref 22, .ref 23, .ref 24, .ref 25, .ref 26, .ref 27, .int (A 2 0), .int (A 2 3), .int (A 2 4), .int (A 2 2), .int (A 2 5), .int (A 2 1), .ref 1]))) (qt_h t) (qt_w (A 2)) (qt_p (A 2)) (qt_k (A 2)) (qt_l (A 2)) (qt_a (A 2)) (qt_r (A 2))) := by
    refine pz_wp_ok (pz_Is_ok SX7_becomes) [30] 100 ?_
    refine ⟨⟨by decide, by decide, by decide, by decide, by decide⟩, ?_⟩
    rw [← e2] at t30
    exact t30
  have t0 : pz_T z0 KX7_becomes Q 0 (0, 0) [some (.ref 20), some (.ref 4)] [] (memx2 A F X (.inr (.inr (5, [.ref 21, .ref 22, .ref 23, .ref 24, .ref 25, .ref 26, .ref 27, .int (A 2 0), .int (A 2 3), .int (A 2 4), .int (A 2 2), .int (A 2 5), .int (A 2 1), .ref 1]))) (qt_h (A 2)) (qt_w (A 2)) (qt_p (A 2)) (qt_k (A 2)) (qt_l (A 2)) (qt_a (A 2)) (qt_r (A 2))) := by
    refine pz_wp_ok (pz_Is_ok SX7_becomes) [15] 100 ?_
    refine ⟨⟨by decide, by decide, by decide, by decide, by decide⟩, ?_⟩
    rw [← e1] at t15
    exact t15
  exact pz_C_of rfl rfl rfl (Nat.le_of_ble_eq_true rfl) t0
set_option maxRecDepth 8000 in
theorem cT2_becomes1 {t : Nat → Int32} (ht : ∀ j, j < 142 → t j = A 1 j) (hc : A 1 4 = 0 ∨ A 1 4 = 1) (h : Q none (mem (va_up A 2 t) F X)) : pz_C yX7_becomes KX7_becomes [.ref 20, .ref 12] (mem A F X) Q := by
  have e1 : (.inl (0, 36, va_cpy (qm 36 10 1 (A 1)) (qm 36 10 1 (A 2)) 0 0 36) : pz_E) = qt_h t := by
    rw [qm_cpy (t' := t) (fun i hi => ht _ (by omega))]
    rfl
  have e2 : (.inl (0, 36, va_cpy (qm 36 46 1 (A 1)) (qm 36 46 1 (A 2)) 0 0 36) : pz_E) = qt_w t := by
    rw [qm_cpy (t' := t) (fun i hi => ht _ (by omega))]
    rfl
  have e3 : (.inl (0, 36, va_cpy (qm 36 82 1 (A 1)) (qm 36 82 1 (A 2)) 0 0 36) : pz_E) = qt_p t := by
    rw [qm_cpy (t' := t) (fun i hi => ht _ (by omega))]
    rfl
  have e4 : (.inl (0, 8, va_cpy (qm 8 118 3 (A 1)) (qm 8 118 3 (A 2)) 0 0 8) : pz_E) = qt_k t := by
    rw [qm_cpy (t' := t) (fun i hi => ht _ (by omega))]
    rfl
  have e5 : (.inl (0, 8, va_cpy (qm 8 119 3 (A 1)) (qm 8 119 3 (A 2)) 0 0 8) : pz_E) = qt_l t := by
    rw [qm_cpy (t' := t) (fun i hi => ht _ (by omega))]
    rfl
  have e6 : (.inl (0, 8, va_cpy (qm 8 120 3 (A 1)) (qm 8 120 3 (A 2)) 0 0 8) : pz_E) = qt_a t := by
    rw [qm_cpy (t' := t) (fun i hi => ht _ (by omega))]
    rfl
  have e7 : (.inl (0, 4, va_cpy (qm 4 6 1 (A 1)) (qm 4 6 1 (A 2)) 0 0 4) : pz_E) = qt_r t := by
    rw [qm_cpy (t' := t) (fun i hi => ht _ (by omega))]
    rfl
  have t156 : pz_T z0 KX7_becomes Q 156 (0, 0) [some (.ref 20), some (.ref 12)] [] (memx2 A F X (.inr (.inr (5, [.ref 21, .ref 22, .ref 23, .ref 24, .ref 25, .ref 26, .ref 27, .int (t 0), .int (t 3), .int (t 4), .int (t 2), .int (t 5), .int (t 1), .ref 1]))) (qt_h t) (qt_w t) (qt_p t) (qt_k t) (qt_l t) (qt_a t) (qt_r t)) := by
    refine pz_wp_ok (pz_Is_ok SX7_becomes) [] 100 ?_
    exact h
  have t148 : pz_T z0 KX7_becomes Q 148 (0, 0) [some (.ref 20), some (.ref 12)] [] (memx2 A F X (.inr (.inr (5, [.ref 21, .ref 22, .ref 23, .ref 24, .ref 25, .ref 26, .ref 27, .int (t 0), .int (t 3), .int (t 4), .int (t 2), .int (t 5), .int (A 2 1), .ref 1]))) (qt_h t) (qt_w t) (qt_p t) (qt_k t) (qt_l t) (qt_a t) (qt_r t)) := by
    refine pz_wp_ok (pz_Is_ok SX7_becomes) [156] 100 ?_
    rw [ht 1 (by omega)] at t156
    exact t156
  have t140 : pz_T z0 KX7_becomes Q 140 (0, 0) [some (.ref 20), some (.ref 12)] [] (memx2 A F X (.inr (.inr (5, [.ref 21, .ref 22, .ref 23, .ref 24, .ref 25, .ref 26, .ref 27, .int (t 0), .int (t 3), .int (t 4), .int (t 2), .int (A 2 5), .int (A 2 1), .ref 1]))) (qt_h t) (qt_w t) (qt_p t) (qt_k t) (qt_l t) (qt_a t) (qt_r t)) := by
    refine pz_wp_ok (pz_Is_ok SX7_becomes) [148] 100 ?_
    rw [ht 5 (by omega)] at t148
    exact t148
  have t132 : pz_T z0 KX7_becomes Q 132 (0, 0) [some (.ref 20), some (.ref 12)] [] (memx2 A F X (.inr (.inr (5, [.ref 21, .ref 22, .ref 23, .ref 24, .ref 25, .ref 26, .ref 27, .int (t 0), .int (t 3), .int (t 4), .int (A 2 2), .int (A 2 5), .int (A 2 1), .ref 1]))) (qt_h t) (qt_w t) (qt_p t) (qt_k t) (qt_l t) (qt_a t) (qt_r t)) := by
    refine pz_wp_ok (pz_Is_ok SX7_becomes) [140] 100 ?_
    rw [ht 2 (by omega)] at t140
    exact t140
  have t124 : pz_T z0 KX7_becomes Q 124 (0, 0) [some (.ref 20), some (.ref 12)] [] (memx2 A F X (.inr (.inr (5, [.ref 21, .ref 22, .ref 23, .ref 24, .ref 25, .ref 26, .ref 27, .int (t 0), .int (t 3), .int (A 2 4), .int (A 2 2), .int (A 2 5), .int (A 2 1), .ref 1]))) (qt_h t) (qt_w t) (qt_p t) (qt_k t) (qt_l t) (qt_a t) (qt_r t)) := by
    refine pz_wp_ok (pz_Is_ok SX7_becomes) [132] 100 ?_
    refine ⟨hc, ?_⟩
    rw [ht 4 (by omega)] at t132
    exact t132
  have t116 : pz_T z0 KX7_becomes Q 116 (0, 0) [some (.ref 20), some (.ref 12)] [] (memx2 A F X (.inr (.inr (5, [.ref 21, .ref 22, .ref 23, .ref 24, .ref 25, .ref 26, .ref 27, .int (t 0), .int (A 2 3), .int (A 2 4), .int (A 2 2), .int (A 2 5), .int (A 2 1), .ref 1]))) (qt_h t) (qt_w t) (qt_p t) (qt_k t) (qt_l t) (qt_a t) (qt_r t)) := by
    refine pz_wp_ok (pz_Is_ok SX7_becomes) [124] 100 ?_
    rw [ht 3 (by omega)] at t124
    exact t124
  have t108 : pz_T z0 KX7_becomes Q 108 (0, 0) [some (.ref 20), some (.ref 12)] [] (memx2 A F X (.inr (.inr (5, [.ref 21, .ref 22, .ref 23, .ref 24, .ref 25, .ref 26, .ref 27, .int (A 2 0), .int (A 2 3), .int (A 2 4), .int (A 2 2), .int (A 2 5), .int (A 2 1), .ref 1]))) (qt_h t) (qt_w t) (qt_p t) (qt_k t) (qt_l t) (qt_a t) (qt_r t)) := by
    refine pz_wp_ok (pz_Is_ok SX7_becomes) [116] 100 ?_
    rw [ht 0 (by omega)] at t116
    exact t116
  have t90 : pz_T z0 KX7_becomes Q 90 (0, 0) [some (.ref 20), some (.ref 12)] [] (memx2 A F X (.inr (.inr (5, [.ref 21, .ref 22, .ref 23, .ref 24, .ref 25, .ref 26, .ref 27, .int (A 2 0), .int (A 2 3), .int (A 2 4), .int (A 2 2), .int (A 2 5), .int (A 2 1), .ref 1]))) (qt_h t) (qt_w t) (qt_p t) (qt_k t) (qt_l t) (qt_a t) (qt_r (A 2))) := by
    refine pz_wp_ok (pz_Is_ok SX7_becomes) [108] 100 ?_
    refine ⟨⟨by decide, by decide, by decide, by decide, by decide⟩, ?_⟩
    rw [← e7] at t108
    exact t108
  have t75 : pz_T z0 KX7_becomes Q 75 (0, 0) [some (.ref 20), some (.ref 12)] [] (memx2 A F X (.inr (.inr (5, [.ref 21, .ref 22, .ref 23, .ref 24, .ref 25, .ref 26, .ref 27, .int (A 2 0), .int (A 2 3), .int (A 2 4), .int (A 2 2), .int (A 2 5), .int (A 2 1), .ref 1]))) (qt_h t) (qt_w t) (qt_p t) (qt_k t) (qt_l t) (qt_a (A 2)) (qt_r (A 2))) := by
    refine pz_wp_ok (pz_Is_ok SX7_becomes) [90] 100 ?_
    refine ⟨⟨by decide, by decide, by decide, by decide, by decide⟩, ?_⟩
    rw [← e6] at t90
    exact t90
  have t60 : pz_T z0 KX7_becomes Q 60 (0, 0) [some (.ref 20), some (.ref 12)] [] (memx2 A F X (.inr (.inr (5, [.ref 21, .ref 22, .ref 23, .ref 24, .ref 25, .ref 26, .ref 27, .int (A 2 0), .int (A 2 3), .int (A 2 4), .int (A 2 2), .int (A 2 5), .int (A 2 1), .ref 1]))) (qt_h t) (qt_w t) (qt_p t) (qt_k t) (qt_l (A 2)) (qt_a (A 2)) (qt_r (A 2))) := by
    refine pz_wp_ok (pz_Is_ok SX7_becomes) [75] 100 ?_
    refine ⟨⟨by decide, by decide, by decide, by decide, by decide⟩, ?_⟩
    rw [← e5] at t75
    exact t75
  have t45 : pz_T z0 KX7_becomes Q 45 (0, 0) [some (.ref 20), some (.ref 12)] [] (memx2 A F X (.inr (.inr (5, [.ref 21, .ref 22, .ref 23, .ref 24, .ref 25, .ref 26, .ref 27, .int (A 2 0), .int (A 2 3), .int (A 2 4), .int (A 2 2), .int (A 2 5), .int (A 2 1), .ref 1]))) (qt_h t) (qt_w t) (qt_p t) (qt_k (A 2)) (qt_l (A 2)) (qt_a (A 2)) (qt_r (A 2))) := by
    refine pz_wp_ok (pz_Is_ok SX7_becomes) [60] 100 ?_
    refine ⟨⟨by decide, by decide, by decide, by decide, by decide⟩, ?_⟩
    rw [← e4] at t60
    exact t60
  have t30 : pz_T z0 KX7_becomes Q 30 (0, 0) [some (.ref 20), some (.ref 12)] [] (memx2 A F X (.inr (.inr (5, [.ref 21, .ref 22, .ref 23, .ref 24, .ref 25, .ref 26, .ref 27, .int (A 2 0), .int (A 2 3), .int (A 2 4), .int (A 2 2), .int (A 2 5), .int (A 2 1), .ref 1]))) (qt_h t) (qt_w t) (qt_p (A 2)) (qt_k (A 2)) (qt_l (A 2)) (qt_a (A 2)) (qt_r (A 2))) := by
    refine pz_wp_ok (pz_Is_ok SX7_becomes) [45] 100 ?_
    refine ⟨⟨by decide, by decide, by decide, by decide, by decide⟩, ?_⟩
    rw [← e3] at t45
    exact t45
  have t15 : pz_T z0 KX7_becomes Q 15 (0, 0) [some (.ref 20), some (.ref 12)] [] (memx2 A F X (.inr (.inr (5, [.ref 21, .ref 22, .ref 23, .ref 24, .ref 25, .ref 26, .ref 27, .int (A 2 0), .int (A 2 3), .int (A 2 4), .int (A 2 2), .int (A 2 5), .int (A 2 1), .ref 1]))) (qt_h t) (qt_w (A 2)) (qt_p (A 2)) (qt_k (A 2)) (qt_l (A 2)) (qt_a (A 2)) (qt_r (A 2))) := by
    refine pz_wp_ok (pz_Is_ok SX7_becomes) [30] 100 ?_
    refine ⟨⟨by decide, by decide, by decide, by decide, by decide⟩, ?_⟩
    rw [← e2] at t30
    exact t30
  have t0 : pz_T z0 KX7_becomes Q 0 (0, 0) [some (.ref 20), some (.ref 12)] [] (memx2 A F X (.inr (.inr (5, [.ref 21, .ref 22, .ref 23, .ref 24, .ref 25, .ref 26, .ref 27, .int (A 2 0), .int (A 2 3), .int (A 2 4), .int (A 2 2), .int (A 2 5), .int (A 2 1), .ref 1]))) (qt_h (A 2)) (qt_w (A 2)) (qt_p (A 2)) (qt_k (A 2)) (qt_l (A 2)) (qt_a (A 2)) (qt_r (A 2))) := by
    refine pz_wp_ok (pz_Is_ok SX7_becomes) [15] 100 ?_
    refine ⟨⟨by decide, by decide, by decide, by decide, by decide⟩, ?_⟩
    rw [← e1] at t15
    exact t15
  exact pz_C_of rfl rfl rfl (Nat.le_of_ble_eq_true rfl) t0
set_option maxRecDepth 8000 in
theorem cT2_becomes3 {t : Nat → Int32} (ht : ∀ j, j < 142 → t j = A 3 j) (hc : A 3 4 = 0 ∨ A 3 4 = 1) (h : Q none (mem (va_up A 2 t) F X)) : pz_C yX7_becomes KX7_becomes [.ref 20, .ref 28] (mem A F X) Q := by
  have e1 : (.inl (0, 36, va_cpy (qm 36 10 1 (A 3)) (qm 36 10 1 (A 2)) 0 0 36) : pz_E) = qt_h t := by
    rw [qm_cpy (t' := t) (fun i hi => ht _ (by omega))]
    rfl
  have e2 : (.inl (0, 36, va_cpy (qm 36 46 1 (A 3)) (qm 36 46 1 (A 2)) 0 0 36) : pz_E) = qt_w t := by
    rw [qm_cpy (t' := t) (fun i hi => ht _ (by omega))]
    rfl
  have e3 : (.inl (0, 36, va_cpy (qm 36 82 1 (A 3)) (qm 36 82 1 (A 2)) 0 0 36) : pz_E) = qt_p t := by
    rw [qm_cpy (t' := t) (fun i hi => ht _ (by omega))]
    rfl
  have e4 : (.inl (0, 8, va_cpy (qm 8 118 3 (A 3)) (qm 8 118 3 (A 2)) 0 0 8) : pz_E) = qt_k t := by
    rw [qm_cpy (t' := t) (fun i hi => ht _ (by omega))]
    rfl
  have e5 : (.inl (0, 8, va_cpy (qm 8 119 3 (A 3)) (qm 8 119 3 (A 2)) 0 0 8) : pz_E) = qt_l t := by
    rw [qm_cpy (t' := t) (fun i hi => ht _ (by omega))]
    rfl
  have e6 : (.inl (0, 8, va_cpy (qm 8 120 3 (A 3)) (qm 8 120 3 (A 2)) 0 0 8) : pz_E) = qt_a t := by
    rw [qm_cpy (t' := t) (fun i hi => ht _ (by omega))]
    rfl
  have e7 : (.inl (0, 4, va_cpy (qm 4 6 1 (A 3)) (qm 4 6 1 (A 2)) 0 0 4) : pz_E) = qt_r t := by
    rw [qm_cpy (t' := t) (fun i hi => ht _ (by omega))]
    rfl
  have t156 : pz_T z0 KX7_becomes Q 156 (0, 0) [some (.ref 20), some (.ref 28)] [] (memx2 A F X (.inr (.inr (5, [.ref 21, .ref 22, .ref 23, .ref 24, .ref 25, .ref 26, .ref 27, .int (t 0), .int (t 3), .int (t 4), .int (t 2), .int (t 5), .int (t 1), .ref 1]))) (qt_h t) (qt_w t) (qt_p t) (qt_k t) (qt_l t) (qt_a t) (qt_r t)) := by
    refine pz_wp_ok (pz_Is_ok SX7_becomes) [] 100 ?_
    exact h
  have t148 : pz_T z0 KX7_becomes Q 148 (0, 0) [some (.ref 20), some (.ref 28)] [] (memx2 A F X (.inr (.inr (5, [.ref 21, .ref 22, .ref 23, .ref 24, .ref 25, .ref 26, .ref 27, .int (t 0), .int (t 3), .int (t 4), .int (t 2), .int (t 5), .int (A 2 1), .ref 1]))) (qt_h t) (qt_w t) (qt_p t) (qt_k t) (qt_l t) (qt_a t) (qt_r t)) := by
    refine pz_wp_ok (pz_Is_ok SX7_becomes) [156] 100 ?_
    rw [ht 1 (by omega)] at t156
    exact t156
  have t140 : pz_T z0 KX7_becomes Q 140 (0, 0) [some (.ref 20), some (.ref 28)] [] (memx2 A F X (.inr (.inr (5, [.ref 21, .ref 22, .ref 23, .ref 24, .ref 25, .ref 26, .ref 27, .int (t 0), .int (t 3), .int (t 4), .int (t 2), .int (A 2 5), .int (A 2 1), .ref 1]))) (qt_h t) (qt_w t) (qt_p t) (qt_k t) (qt_l t) (qt_a t) (qt_r t)) := by
    refine pz_wp_ok (pz_Is_ok SX7_becomes) [148] 100 ?_
    rw [ht 5 (by omega)] at t148
    exact t148
  have t132 : pz_T z0 KX7_becomes Q 132 (0, 0) [some (.ref 20), some (.ref 28)] [] (memx2 A F X (.inr (.inr (5, [.ref 21, .ref 22, .ref 23, .ref 24, .ref 25, .ref 26, .ref 27, .int (t 0), .int (t 3), .int (t 4), .int (A 2 2), .int (A 2 5), .int (A 2 1), .ref 1]))) (qt_h t) (qt_w t) (qt_p t) (qt_k t) (qt_l t) (qt_a t) (qt_r t)) := by
    refine pz_wp_ok (pz_Is_ok SX7_becomes) [140] 100 ?_
    rw [ht 2 (by omega)] at t140
    exact t140
  have t124 : pz_T z0 KX7_becomes Q 124 (0, 0) [some (.ref 20), some (.ref 28)] [] (memx2 A F X (.inr (.inr (5, [.ref 21, .ref 22, .ref 23, .ref 24, .ref 25, .ref 26, .ref 27, .int (t 0), .int (t 3), .int (A 2 4), .int (A 2 2), .int (A 2 5), .int (A 2 1), .ref 1]))) (qt_h t) (qt_w t) (qt_p t) (qt_k t) (qt_l t) (qt_a t) (qt_r t)) := by
    refine pz_wp_ok (pz_Is_ok SX7_becomes) [132] 100 ?_
    refine ⟨hc, ?_⟩
    rw [ht 4 (by omega)] at t132
    exact t132
  have t116 : pz_T z0 KX7_becomes Q 116 (0, 0) [some (.ref 20), some (.ref 28)] [] (memx2 A F X (.inr (.inr (5, [.ref 21, .ref 22, .ref 23, .ref 24, .ref 25, .ref 26, .ref 27, .int (t 0), .int (A 2 3), .int (A 2 4), .int (A 2 2), .int (A 2 5), .int (A 2 1), .ref 1]))) (qt_h t) (qt_w t) (qt_p t) (qt_k t) (qt_l t) (qt_a t) (qt_r t)) := by
    refine pz_wp_ok (pz_Is_ok SX7_becomes) [124] 100 ?_
    rw [ht 3 (by omega)] at t124
    exact t124
  have t108 : pz_T z0 KX7_becomes Q 108 (0, 0) [some (.ref 20), some (.ref 28)] [] (memx2 A F X (.inr (.inr (5, [.ref 21, .ref 22, .ref 23, .ref 24, .ref 25, .ref 26, .ref 27, .int (A 2 0), .int (A 2 3), .int (A 2 4), .int (A 2 2), .int (A 2 5), .int (A 2 1), .ref 1]))) (qt_h t) (qt_w t) (qt_p t) (qt_k t) (qt_l t) (qt_a t) (qt_r t)) := by
    refine pz_wp_ok (pz_Is_ok SX7_becomes) [116] 100 ?_
    rw [ht 0 (by omega)] at t116
    exact t116
  have t90 : pz_T z0 KX7_becomes Q 90 (0, 0) [some (.ref 20), some (.ref 28)] [] (memx2 A F X (.inr (.inr (5, [.ref 21, .ref 22, .ref 23, .ref 24, .ref 25, .ref 26, .ref 27, .int (A 2 0), .int (A 2 3), .int (A 2 4), .int (A 2 2), .int (A 2 5), .int (A 2 1), .ref 1]))) (qt_h t) (qt_w t) (qt_p t) (qt_k t) (qt_l t) (qt_a t) (qt_r (A 2))) := by
    refine pz_wp_ok (pz_Is_ok SX7_becomes) [108] 100 ?_
    refine ⟨⟨by decide, by decide, by decide, by decide, by decide⟩, ?_⟩
    rw [← e7] at t108
    exact t108
  have t75 : pz_T z0 KX7_becomes Q 75 (0, 0) [some (.ref 20), some (.ref 28)] [] (memx2 A F X (.inr (.inr (5, [.ref 21, .ref 22, .ref 23, .ref 24, .ref 25, .ref 26, .ref 27, .int (A 2 0), .int (A 2 3), .int (A 2 4), .int (A 2 2), .int (A 2 5), .int (A 2 1), .ref 1]))) (qt_h t) (qt_w t) (qt_p t) (qt_k t) (qt_l t) (qt_a (A 2)) (qt_r (A 2))) := by
    refine pz_wp_ok (pz_Is_ok SX7_becomes) [90] 100 ?_
    refine ⟨⟨by decide, by decide, by decide, by decide, by decide⟩, ?_⟩
    rw [← e6] at t90
    exact t90
  have t60 : pz_T z0 KX7_becomes Q 60 (0, 0) [some (.ref 20), some (.ref 28)] [] (memx2 A F X (.inr (.inr (5, [.ref 21, .ref 22, .ref 23, .ref 24, .ref 25, .ref 26, .ref 27, .int (A 2 0), .int (A 2 3), .int (A 2 4), .int (A 2 2), .int (A 2 5), .int (A 2 1), .ref 1]))) (qt_h t) (qt_w t) (qt_p t) (qt_k t) (qt_l (A 2)) (qt_a (A 2)) (qt_r (A 2))) := by
    refine pz_wp_ok (pz_Is_ok SX7_becomes) [75] 100 ?_
    refine ⟨⟨by decide, by decide, by decide, by decide, by decide⟩, ?_⟩
    rw [← e5] at t75
    exact t75
  have t45 : pz_T z0 KX7_becomes Q 45 (0, 0) [some (.ref 20), some (.ref 28)] [] (memx2 A F X (.inr (.inr (5, [.ref 21, .ref 22, .ref 23, .ref 24, .ref 25, .ref 26, .ref 27, .int (A 2 0), .int (A 2 3), .int (A 2 4), .int (A 2 2), .int (A 2 5), .int (A 2 1), .ref 1]))) (qt_h t) (qt_w t) (qt_p t) (qt_k (A 2)) (qt_l (A 2)) (qt_a (A 2)) (qt_r (A 2))) := by
    refine pz_wp_ok (pz_Is_ok SX7_becomes) [60] 100 ?_
    refine ⟨⟨by decide, by decide, by decide, by decide, by decide⟩, ?_⟩
    rw [← e4] at t60
    exact t60
  have t30 : pz_T z0 KX7_becomes Q 30 (0, 0) [some (.ref 20), some (.ref 28)] [] (memx2 A F X (.inr (.inr (5, [.ref 21, .ref 22, .ref 23, .ref 24, .ref 25, .ref 26, .ref 27, .int (A 2 0), .int (A 2 3), .int (A 2 4), .int (A 2 2), .int (A 2 5), .int (A 2 1), .ref 1]))) (qt_h t) (qt_w t) (qt_p (A 2)) (qt_k (A 2)) (qt_l (A 2)) (qt_a (A 2)) (qt_r (A 2))) := by
    refine pz_wp_ok (pz_Is_ok SX7_becomes) [45] 100 ?_
    refine ⟨⟨by decide, by decide, by decide, by decide, by decide⟩, ?_⟩
    rw [← e3] at t45
    exact t45
  have t15 : pz_T z0 KX7_becomes Q 15 (0, 0) [some (.ref 20), some (.ref 28)] [] (memx2 A F X (.inr (.inr (5, [.ref 21, .ref 22, .ref 23, .ref 24, .ref 25, .ref 26, .ref 27, .int (A 2 0), .int (A 2 3), .int (A 2 4), .int (A 2 2), .int (A 2 5), .int (A 2 1), .ref 1]))) (qt_h t) (qt_w (A 2)) (qt_p (A 2)) (qt_k (A 2)) (qt_l (A 2)) (qt_a (A 2)) (qt_r (A 2))) := by
    refine pz_wp_ok (pz_Is_ok SX7_becomes) [30] 100 ?_
    refine ⟨⟨by decide, by decide, by decide, by decide, by decide⟩, ?_⟩
    rw [← e2] at t30
    exact t30
  have t0 : pz_T z0 KX7_becomes Q 0 (0, 0) [some (.ref 20), some (.ref 28)] [] (memx2 A F X (.inr (.inr (5, [.ref 21, .ref 22, .ref 23, .ref 24, .ref 25, .ref 26, .ref 27, .int (A 2 0), .int (A 2 3), .int (A 2 4), .int (A 2 2), .int (A 2 5), .int (A 2 1), .ref 1]))) (qt_h (A 2)) (qt_w (A 2)) (qt_p (A 2)) (qt_k (A 2)) (qt_l (A 2)) (qt_a (A 2)) (qt_r (A 2))) := by
    refine pz_wp_ok (pz_Is_ok SX7_becomes) [15] 100 ?_
    refine ⟨⟨by decide, by decide, by decide, by decide, by decide⟩, ?_⟩
    rw [← e1] at t15
    exact t15
  exact pz_C_of rfl rfl rfl (Nat.le_of_ble_eq_true rfl) t0
set_option maxRecDepth 8000 in
theorem cT3_becomes0 {t : Nat → Int32} (ht : ∀ j, j < 142 → t j = A 0 j) (hc : A 0 4 = 0 ∨ A 0 4 = 1) (h : Q none (mem (va_up A 3 t) F X)) : pz_C yX7_becomes KX7_becomes [.ref 28, .ref 4] (mem A F X) Q := by
  have e1 : (.inl (0, 36, va_cpy (qm 36 10 1 (A 0)) (qm 36 10 1 (A 3)) 0 0 36) : pz_E) = qt_h t := by
    rw [qm_cpy (t' := t) (fun i hi => ht _ (by omega))]
    rfl
  have e2 : (.inl (0, 36, va_cpy (qm 36 46 1 (A 0)) (qm 36 46 1 (A 3)) 0 0 36) : pz_E) = qt_w t := by
    rw [qm_cpy (t' := t) (fun i hi => ht _ (by omega))]
    rfl
  have e3 : (.inl (0, 36, va_cpy (qm 36 82 1 (A 0)) (qm 36 82 1 (A 3)) 0 0 36) : pz_E) = qt_p t := by
    rw [qm_cpy (t' := t) (fun i hi => ht _ (by omega))]
    rfl
  have e4 : (.inl (0, 8, va_cpy (qm 8 118 3 (A 0)) (qm 8 118 3 (A 3)) 0 0 8) : pz_E) = qt_k t := by
    rw [qm_cpy (t' := t) (fun i hi => ht _ (by omega))]
    rfl
  have e5 : (.inl (0, 8, va_cpy (qm 8 119 3 (A 0)) (qm 8 119 3 (A 3)) 0 0 8) : pz_E) = qt_l t := by
    rw [qm_cpy (t' := t) (fun i hi => ht _ (by omega))]
    rfl
  have e6 : (.inl (0, 8, va_cpy (qm 8 120 3 (A 0)) (qm 8 120 3 (A 3)) 0 0 8) : pz_E) = qt_a t := by
    rw [qm_cpy (t' := t) (fun i hi => ht _ (by omega))]
    rfl
  have e7 : (.inl (0, 4, va_cpy (qm 4 6 1 (A 0)) (qm 4 6 1 (A 3)) 0 0 4) : pz_E) = qt_r t := by
    rw [qm_cpy (t' := t) (fun i hi => ht _ (by omega))]
    rfl
  have t156 : pz_T z0 KX7_becomes Q 156 (0, 0) [some (.ref 28), some (.ref 4)] [] (memx3 A F X (.inr (.inr (5, [.ref 29, .ref 30, .ref 31, .ref 32, .ref 33, .ref 34, .ref 35, .int (t 0), .int (t 3), .int (t 4), .int (t 2), .int (t 5), .int (t 1), .ref 1]))) (qt_h t) (qt_w t) (qt_p t) (qt_k t) (qt_l t) (qt_a t) (qt_r t)) := by
    refine pz_wp_ok (pz_Is_ok SX7_becomes) [] 100 ?_
    exact h
  have t148 : pz_T z0 KX7_becomes Q 148 (0, 0) [some (.ref 28), some (.ref 4)] [] (memx3 A F X (.inr (.inr (5, [.ref 29, .ref 30, .ref 31, .ref 32, .ref 33, .ref 34, .ref 35, .int (t 0), .int (t 3), .int (t 4), .int (t 2), .int (t 5), .int (A 3 1), .ref 1]))) (qt_h t) (qt_w t) (qt_p t) (qt_k t) (qt_l t) (qt_a t) (qt_r t)) := by
    refine pz_wp_ok (pz_Is_ok SX7_becomes) [156] 100 ?_
    rw [ht 1 (by omega)] at t156
    exact t156
  have t140 : pz_T z0 KX7_becomes Q 140 (0, 0) [some (.ref 28), some (.ref 4)] [] (memx3 A F X (.inr (.inr (5, [.ref 29, .ref 30, .ref 31, .ref 32, .ref 33, .ref 34, .ref 35, .int (t 0), .int (t 3), .int (t 4), .int (t 2), .int (A 3 5), .int (A 3 1), .ref 1]))) (qt_h t) (qt_w t) (qt_p t) (qt_k t) (qt_l t) (qt_a t) (qt_r t)) := by
    refine pz_wp_ok (pz_Is_ok SX7_becomes) [148] 100 ?_
    rw [ht 5 (by omega)] at t148
    exact t148
  have t132 : pz_T z0 KX7_becomes Q 132 (0, 0) [some (.ref 28), some (.ref 4)] [] (memx3 A F X (.inr (.inr (5, [.ref 29, .ref 30, .ref 31, .ref 32, .ref 33, .ref 34, .ref 35, .int (t 0), .int (t 3), .int (t 4), .int (A 3 2), .int (A 3 5), .int (A 3 1), .ref 1]))) (qt_h t) (qt_w t) (qt_p t) (qt_k t) (qt_l t) (qt_a t) (qt_r t)) := by
    refine pz_wp_ok (pz_Is_ok SX7_becomes) [140] 100 ?_
    rw [ht 2 (by omega)] at t140
    exact t140
  have t124 : pz_T z0 KX7_becomes Q 124 (0, 0) [some (.ref 28), some (.ref 4)] [] (memx3 A F X (.inr (.inr (5, [.ref 29, .ref 30, .ref 31, .ref 32, .ref 33, .ref 34, .ref 35, .int (t 0), .int (t 3), .int (A 3 4), .int (A 3 2), .int (A 3 5), .int (A 3 1), .ref 1]))) (qt_h t) (qt_w t) (qt_p t) (qt_k t) (qt_l t) (qt_a t) (qt_r t)) := by
    refine pz_wp_ok (pz_Is_ok SX7_becomes) [132] 100 ?_
    refine ⟨hc, ?_⟩
    rw [ht 4 (by omega)] at t132
    exact t132
  have t116 : pz_T z0 KX7_becomes Q 116 (0, 0) [some (.ref 28), some (.ref 4)] [] (memx3 A F X (.inr (.inr (5, [.ref 29, .ref 30, .ref 31, .ref 32, .ref 33, .ref 34, .ref 35, .int (t 0), .int (A 3 3), .int (A 3 4), .int (A 3 2), .int (A 3 5), .int (A 3 1), .ref 1]))) (qt_h t) (qt_w t) (qt_p t) (qt_k t) (qt_l t) (qt_a t) (qt_r t)) := by
    refine pz_wp_ok (pz_Is_ok SX7_becomes) [124] 100 ?_
    rw [ht 3 (by omega)] at t124
    exact t124
  have t108 : pz_T z0 KX7_becomes Q 108 (0, 0) [some (.ref 28), some (.ref 4)] [] (memx3 A F X (.inr (.inr (5, [.ref 29, .ref 30, .ref 31, .ref 32, .ref 33, .ref 34, .ref 35, .int (A 3 0), .int (A 3 3), .int (A 3 4), .int (A 3 2), .int (A 3 5), .int (A 3 1), .ref 1]))) (qt_h t) (qt_w t) (qt_p t) (qt_k t) (qt_l t) (qt_a t) (qt_r t)) := by
    refine pz_wp_ok (pz_Is_ok SX7_becomes) [116] 100 ?_
    rw [ht 0 (by omega)] at t116
    exact t116
  have t90 : pz_T z0 KX7_becomes Q 90 (0, 0) [some (.ref 28), some (.ref 4)] [] (memx3 A F X (.inr (.inr (5, [.ref 29, .ref 30, .ref 31, .ref 32, .ref 33, .ref 34, .ref 35, .int (A 3 0), .int (A 3 3), .int (A 3 4), .int (A 3 2), .int (A 3 5), .int (A 3 1), .ref 1]))) (qt_h t) (qt_w t) (qt_p t) (qt_k t) (qt_l t) (qt_a t) (qt_r (A 3))) := by
    refine pz_wp_ok (pz_Is_ok SX7_becomes) [108] 100 ?_
    refine ⟨⟨by decide, by decide, by decide, by decide, by decide⟩, ?_⟩
    rw [← e7] at t108
    exact t108
  have t75 : pz_T z0 KX7_becomes Q 75 (0, 0) [some (.ref 28), some (.ref 4)] [] (memx3 A F X (.inr (.inr (5, [.ref 29, .ref 30, .ref 31, .ref 32, .ref 33, .ref 34, .ref 35, .int (A 3 0), .int (A 3 3), .int (A 3 4), .int (A 3 2), .int (A 3 5), .int (A 3 1), .ref 1]))) (qt_h t) (qt_w t) (qt_p t) (qt_k t) (qt_l t) (qt_a (A 3)) (qt_r (A 3))) := by
    refine pz_wp_ok (pz_Is_ok SX7_becomes) [90] 100 ?_
    refine ⟨⟨by decide, by decide, by decide, by decide, by decide⟩, ?_⟩
    rw [← e6] at t90
    exact t90
  have t60 : pz_T z0 KX7_becomes Q 60 (0, 0) [some (.ref 28), some (.ref 4)] [] (memx3 A F X (.inr (.inr (5, [.ref 29, .ref 30, .ref 31, .ref 32, .ref 33, .ref 34, .ref 35, .int (A 3 0), .int (A 3 3), .int (A 3 4), .int (A 3 2), .int (A 3 5), .int (A 3 1), .ref 1]))) (qt_h t) (qt_w t) (qt_p t) (qt_k t) (qt_l (A 3)) (qt_a (A 3)) (qt_r (A 3))) := by
    refine pz_wp_ok (pz_Is_ok SX7_becomes) [75] 100 ?_
    refine ⟨⟨by decide, by decide, by decide, by decide, by decide⟩, ?_⟩
    rw [← e5] at t75
    exact t75
  have t45 : pz_T z0 KX7_becomes Q 45 (0, 0) [some (.ref 28), some (.ref 4)] [] (memx3 A F X (.inr (.inr (5, [.ref 29, .ref 30, .ref 31, .ref 32, .ref 33, .ref 34, .ref 35, .int (A 3 0), .int (A 3 3), .int (A 3 4), .int (A 3 2), .int (A 3 5), .int (A 3 1), .ref 1]))) (qt_h t) (qt_w t) (qt_p t) (qt_k (A 3)) (qt_l (A 3)) (qt_a (A 3)) (qt_r (A 3))) := by
    refine pz_wp_ok (pz_Is_ok SX7_becomes) [60] 100 ?_
    refine ⟨⟨by decide, by decide, by decide, by decide, by decide⟩, ?_⟩
    rw [← e4] at t60
    exact t60
  have t30 : pz_T z0 KX7_becomes Q 30 (0, 0) [some (.ref 28), some (.ref 4)] [] (memx3 A F X (.inr (.inr (5, [.ref 29, .ref 30, .ref 31, .ref 32, .ref 33, .ref 34, .ref 35, .int (A 3 0), .int (A 3 3), .int (A 3 4), .int (A 3 2), .int (A 3 5), .int (A 3 1), .ref 1]))) (qt_h t) (qt_w t) (qt_p (A 3)) (qt_k (A 3)) (qt_l (A 3)) (qt_a (A 3)) (qt_r (A 3))) := by
    refine pz_wp_ok (pz_Is_ok SX7_becomes) [45] 100 ?_
    refine ⟨⟨by decide, by decide, by decide, by decide, by decide⟩, ?_⟩
    rw [← e3] at t45
    exact t45
  have t15 : pz_T z0 KX7_becomes Q 15 (0, 0) [some (.ref 28), some (.ref 4)] [] (memx3 A F X (.inr (.inr (5, [.ref 29, .ref 30, .ref 31, .ref 32, .ref 33, .ref 34, .ref 35, .int (A 3 0), .int (A 3 3), .int (A 3 4), .int (A 3 2), .int (A 3 5), .int (A 3 1), .ref 1]))) (qt_h t) (qt_w (A 3)) (qt_p (A 3)) (qt_k (A 3)) (qt_l (A 3)) (qt_a (A 3)) (qt_r (A 3))) := by
    refine pz_wp_ok (pz_Is_ok SX7_becomes) [30] 100 ?_
    refine ⟨⟨by decide, by decide, by decide, by decide, by decide⟩, ?_⟩
    rw [← e2] at t30
    exact t30
  have t0 : pz_T z0 KX7_becomes Q 0 (0, 0) [some (.ref 28), some (.ref 4)] [] (memx3 A F X (.inr (.inr (5, [.ref 29, .ref 30, .ref 31, .ref 32, .ref 33, .ref 34, .ref 35, .int (A 3 0), .int (A 3 3), .int (A 3 4), .int (A 3 2), .int (A 3 5), .int (A 3 1), .ref 1]))) (qt_h (A 3)) (qt_w (A 3)) (qt_p (A 3)) (qt_k (A 3)) (qt_l (A 3)) (qt_a (A 3)) (qt_r (A 3))) := by
    refine pz_wp_ok (pz_Is_ok SX7_becomes) [15] 100 ?_
    refine ⟨⟨by decide, by decide, by decide, by decide, by decide⟩, ?_⟩
    rw [← e1] at t15
    exact t15
  exact pz_C_of rfl rfl rfl (Nat.le_of_ble_eq_true rfl) t0
end POT
