theorem mem_21 (A : qA) (F : qF) (X : qX) (f : Nat → Int32) : pz_set (mem A F X) 71 (.inl (0, 3142, f)) = mem (va_up A 21 f) F X := rfl
theorem mem_22 (A : qA) (F : qF) (X : qX) (f : Nat → Int32) : pz_set (mem A F X) 72 (.inl (0, 3142, f)) = mem (va_up A 22 f) F X := rfl
theorem mem_23 (A : qA) (F : qF) (X : qX) (f : Nat → Int32) : pz_set (mem A F X) 73 (.inl (0, 4, f)) = mem (va_up A 23 f) F X := rfl
theorem mem_24 (A : qA) (F : qF) (X : qX) (f : Nat → Int32) : pz_set (mem A F X) 74 (.inl (0, 4, f)) = mem (va_up A 24 f) F X := rfl
theorem mem_25 (A : qA) (F : qF) (X : qX) (f : Nat → Int32) : pz_set (mem A F X) 75 (.inl (0, 96, f)) = mem (va_up A 25 f) F X := rfl
theorem mem_26 (A : qA) (F : qF) (X : qX) (f : Nat → Int32) : pz_set (mem A F X) 76 (.inl (0, 5, f)) = mem (va_up A 26 f) F X := rfl
theorem mem_27 (A : qA) (F : qF) (X : qX) (f : Nat → Int32) : pz_set (mem A F X) 77 (.inl (0, 5, f)) = mem (va_up A 27 f) F X := rfl
theorem mem_28 (A : qA) (F : qF) (X : qX) (f : Nat → Int32) : pz_set (mem A F X) 78 (.inl (0, 5, f)) = mem (va_up A 28 f) F X := rfl
theorem mem_29 (A : qA) (F : qF) (X : qX) (f : Nat → Int32) : pz_set (mem A F X) 79 (.inl (0, 5, f)) = mem (va_up A 29 f) F X := rfl
theorem mem_30 (A : qA) (F : qF) (X : qX) (f : Nat → Int32) : pz_set (mem A F X) 80 (.inl (0, 120, f)) = mem (va_up A 30 f) F X := rfl
theorem mem_31 (A : qA) (F : qF) (X : qX) (f : Nat → Int32) : pz_set (mem A F X) 81 (.inl (0, 36, f)) = mem (va_up A 31 f) F X := rfl
theorem mem_32 (A : qA) (F : qF) (X : qX) (f : Nat → Int32) : pz_set (mem A F X) 82 (.inl (0, 36, f)) = mem (va_up A 32 f) F X := rfl
theorem mem_33 (A : qA) (F : qF) (X : qX) (f : Nat → Int32) : pz_set (mem A F X) 83 (.inl (0, 142, f)) = mem (va_up A 33 f) F X := rfl
theorem mem_34 (A : qA) (F : qF) (X : qX) (f : Nat → Int32) : pz_set (mem A F X) 84 (.inl (0, 96, f)) = mem (va_up A 34 f) F X := rfl
theorem mem_35 (A : qA) (F : qF) (X : qX) (f : Nat → Int32) : pz_set (mem A F X) 85 (.inl (0, 128, f)) = mem (va_up A 35 f) F X := rfl
theorem mem_36 (A : qA) (F : qF) (X : qX) (f : Nat → Int32) : pz_set (mem A F X) 86 (.inl (0, 100, f)) = mem (va_up A 36 f) F X := rfl
theorem mem_37 (A : qA) (F : qF) (X : qX) (f : Nat → Int32) : pz_set (mem A F X) 87 (.inl (0, 24, f)) = mem (va_up A 37 f) F X := rfl
theorem mem_38 (A : qA) (F : qF) (X : qX) (f : Nat → Int32) : pz_set (mem A F X) 88 (.inl (0, 60, f)) = mem (va_up A 38 f) F X := rfl
theorem mem_39 (A : qA) (F : qF) (X : qX) (f : Nat → Int32) : pz_set (mem A F X) 89 (.inl (0, 60, f)) = mem (va_up A 39 f) F X := rfl
def f_it : Nat → (Nat → Int32) → Nat → Int32
  | 0, t => t
  | n + 1, t => f_pass (f_it n t)
theorem okS_it {t : Nat → Int32} (h : okS t) : ∀ n, okS (f_it n t)
  | 0 => h
  | n + 1 => okS_pass (okS_it h n)
theorem f_it_out {t : Nat → Int32} (h : okS t) : ∀ (n : Nat) {j : Nat}, ((j < 46 ∨ 142 ≤ j) ∧ j ≠ 2 ∧ j ≠ 5) → f_it n t j = t j
  | 0, _, _ => rfl
  | n + 1, j, hj => by rw [f_it, f_pass_out (okS_it h n) hj, f_it_out h n hj]
def f_sp (t : Nat → Int32) : Nat → Int32
  | 0 => 0
  | c + 1 => f_sp t c + t (82 + c)
def f_sa (t : Nat → Int32) : Nat → Int32
  | 0 => 0
  | k + 1 => f_sa t k + t (118 + 3 * k + 2)
def f_wet (t : Nat → Int32) : Nat → Int32
  | 0 => 0
  | c + 1 => f_wet t c + (if t (82 + c) ≤ 0 then 0 else 1)
theorem n_ge {a b : Nat} (ha : a < 2147483648) (hb : b < 2147483648) (h : a < b) : ¬ nI b ≤ nI a := fun z => by
  have := (nI_leI (by omega) (by omega)).mp z
  omega
section MOD
variable {A : qA} {F : qF} {X : qX} {Q : pz_Q} {M : pz_M}
theorem tM_many {n : Nat} (hn : n < 2147483648) (hok : okS (A 20)) (h : ∀ A' : qA, qag [20, 35, 36] A A' → A' 20 = f_it n (A 20) → Q none (mem A' F X)) : ∀ (d k : Nat), k + d = n → ∀ A1 : qA, qag [20, 35, 36] A A1 → A1 20 = f_it k (A 20) → ∀ x3 : Option Value, pz_T z0 KX10_goesOnMany Q 2 (0, 0) [some (.ref 69), some (.int (nI n)), some (.int (nI k)), x3] [] (mem A1 F X) := by
  intro d
  induction d with
  | zero =>
    intro k hk A1 hA hA2 x3
    have hk : k = n := by omega
    subst hk
    refine pz_wp_ok (pz_Is_ok SX10_goesOnMany) [2] 100 ?_
    refine br1 (fun z => z (nI_le (Nat.le_refl _) (by omega))) ?_
    exact h A1 hA hA2
  | succ d ih =>
    intro k hk A1 hA hA2 x3
    refine pz_wp_ok (pz_Is_ok SX10_goesOnMany) [2] 100 ?_
    refine br2 (n_ge (by omega) (by omega) (by omega)) ?_
    refine cM_goesOn (by rw [hA2]; exact okS_it hok k) (fun A2 hB hB2 => ?_)
    have ek : nI k + 1 = nI (k + 1) := nI_1 k
    refine qT (ih (k + 1) (by omega) A2 (hA.trans hB) (by rw [hB2, hA2]; rfl) (some (.int (f_fed (A1 20)).1))) ?_ rfl rfl
    rw [← ek]
    rfl
theorem cM_many {x : Int32} {n : Nat} (hx : x = nI n) (hn : n < 2147483648) (hok : okS (A 20)) (h : ∀ A' : qA, qag [20, 35, 36] A A' → A' 20 = f_it n (A 20) → Q none (mem A' F X)) : pz_C yX10_goesOnMany KX10_goesOnMany [.ref 69, .int x] (mem A F X) Q := by
  subst hx
  refine pz_C_of rfl rfl rfl (Nat.le_of_ble_eq_true rfl) (pz_wp_ok (pz_Is_ok SX10_goesOnMany) [2] 100 ?_)
  exact tM_many hn hok h n 0 (by omega) A (qag.refl _ A) rfl none
theorem tM_allParts (h : Q (some (.int (f_sp (A 20) 36))) (mem A F X)) : ∀ (d c : Nat), c + d = 36 → pz_T z0 KX10_allParts Q 4 (0, 0) [some (.ref 69), some (.int (f_sp (A 20) c)), some (.int (nI c))] [] (mem A F X) := by
  intro d
  induction d with
  | zero =>
    intro c hc
    have hc : c = 36 := by omega
    subst hc
    refine pz_wp_ok (pz_Is_ok SX10_allParts) [4] 100 ?_
    refine br1 (fun z => z (nI_le (Nat.le_refl _) (by omega))) ?_
    exact h
  | succ d ih =>
    intro c hc
    refine pz_wp_ok (pz_Is_ok SX10_allParts) [4] 100 ?_
    refine br2 (n_ge (b := 36) (by omega) (by omega) (by omega)) ?_
    refine cM_parts rfl (by omega) ?_
    refine qT (ih (c + 1) (by omega)) ?_ rfl rfl
    rw [← nI_1 c]
    rfl
theorem cM_allParts (h : Q (some (.int (f_sp (A 20) 36))) (mem A F X)) : pz_C yX10_allParts KX10_allParts [.ref 69] (mem A F X) Q := by
  refine pz_C_of rfl rfl rfl (Nat.le_of_ble_eq_true rfl) (pz_wp_ok (pz_Is_ok SX10_allParts) [4] 100 ?_)
  exact tM_allParts h 36 0 rfl
theorem tM_allAte {n : Nat} (hn : A 20 0 = nI n) (hb : n ≤ 8) (h : Q (some (.int (f_sa (A 20) n))) (mem A F X)) : ∀ (d c : Nat), c + d = n → pz_T z0 KX10_allAte Q 4 (0, 0) [some (.ref 69), some (.int (f_sa (A 20) c)), some (.int (nI c))] [] (mem A F X) := by
  intro d
  induction d with
  | zero =>
    intro c hc
    have hc : c = n := by omega
    subst hc
    refine pz_wp_ok (pz_Is_ok SX10_allAte) [4] 100 ?_
    refine ⟨qin 0 rfl (by omega) (by omega), ?_⟩
    refine br1 (fun z => z ?_) ?_
    · show A 20 0 ≤ nI c
      rw [hn]; exact nI_le (Nat.le_refl _) (by omega)
    · exact h
  | succ d ih =>
    intro c hc
    refine pz_wp_ok (pz_Is_ok SX10_allAte) [4] 100 ?_
    refine ⟨qin 0 rfl (by omega) (by omega), ?_⟩
    refine br2 (fun z => ?_) ?_
    · have z : A 20 0 ≤ nI c := z
      rw [hn] at z
      exact n_ge (by omega) (by omega) (by omega) z
    refine cM_of (w := 2) rfl rfl (by omega) (by omega) ?_
    refine qT (ih (c + 1) (by omega)) ?_ rfl rfl
    rw [← nI_1 c]
    rfl
theorem cM_allAte {n : Nat} (hn : A 20 0 = nI n) (hb : n ≤ 8) (h : Q (some (.int (f_sa (A 20) n))) (mem A F X)) : pz_C yX10_allAte KX10_allAte [.ref 69] (mem A F X) Q := by
  refine pz_C_of rfl rfl rfl (Nat.le_of_ble_eq_true rfl) (pz_wp_ok (pz_Is_ok SX10_allAte) [4] 100 ?_)
  exact tM_allAte hn hb h n 0 (by omega)
theorem tM_manyWet (h : Q (some (.int (f_wet (A 20) 36))) (mem A F X)) : ∀ (d c : Nat), c + d = 36 → pz_T z0 KX10_manyWet Q 4 (0, 0) [some (.ref 69), some (.int (f_wet (A 20) c)), some (.int (nI c))] [] (mem A F X) := by
  intro d
  induction d with
  | zero =>
    intro c hc
    have hc : c = 36 := by omega
    subst hc
    refine pz_wp_ok (pz_Is_ok SX10_manyWet) [4] 100 ?_
    refine br1 (fun z => z (nI_le (Nat.le_refl _) (by omega))) ?_
    exact h
  | succ d ih =>
    intro c hc
    refine pz_wp_ok (pz_Is_ok SX10_manyWet) [4] 100 ?_
    refine br2 (n_ge (b := 36) (by omega) (by omega) (by omega)) ?_
    refine cM_parts rfl (by omega) ?_
    refine ⟨fun g => ?_, fun g => ?_⟩
    · refine qT (ih (c + 1) (by omega)) ?_ rfl rfl
      rw [← nI_1 c, f_wet, if_pos g]
      rfl
    · refine qT (ih (c + 1) (by omega)) ?_ rfl rfl
      rw [← nI_1 c, f_wet, if_neg g]
      rfl
theorem cM_manyWet (h : Q (some (.int (f_wet (A 20) 36))) (mem A F X)) : pz_C yX10_manyWet KX10_manyWet [.ref 69] (mem A F X) Q := by
  refine pz_C_of rfl rfl rfl (Nat.le_of_ble_eq_true rfl) (pz_wp_ok (pz_Is_ok SX10_manyWet) [4] 100 ?_)
  exact tM_manyWet h 36 0 rfl
theorem tM_laysBy (h : Q none (mem (va_up A 33 (qcp 142 (A 20) (A 33))) F X)) : ∀ (d k : Nat), k + d = 142 → pz_T z0 KX10_laysBy Q 2 (0, 0) [some (.ref 69), some (.int (nI k))] [] (mem (va_up A 33 (qcp k (A 20) (A 33))) F X) := by
  intro d
  induction d with
  | zero =>
    intro k hk
    have hk : k = 142 := by omega
    subst hk
    refine pz_wp_ok (pz_Is_ok SX10_laysBy) [2] 100 ?_
    refine br1 (fun z => z (nI_le (Nat.le_refl _) (by omega))) ?_
    exact h
  | succ d ih =>
    intro k hk
    refine pz_wp_ok (pz_Is_ok SX10_laysBy) [2] 100 ?_
    refine br2 (n_ge (b := 142) (by omega) (by omega) (by omega)) ?_
    refine ⟨qin k rfl (by omega) (by omega), ?_⟩
    refine ⟨qin k rfl (by omega) (by omega), ?_⟩
    have ck := qcl (x := nI k) k rfl (by omega)
    rw [ck]
    refine qT (ih (k + 1) (by omega)) (by rw [← nI_1 k]; rfl) rfl ?_
    refine (mem_33 _ _ _ _).trans ?_
    rw [vu_vu, ← qcp_s]
    rfl
theorem cM_laysBy (h : Q none (mem (va_up A 33 (qcp 142 (A 20) (A 33))) F X)) : pz_C yX10_laysBy KX10_laysBy [.ref 69] (mem A F X) Q := by
  refine pz_C_of rfl rfl rfl (Nat.le_of_ble_eq_true rfl) (pz_wp_ok (pz_Is_ok SX10_laysBy) [2] 100 ?_)
  have h' := tM_laysBy h 142 0 (by omega)
  rw [qcp_0, vu_s] at h'
  exact h'
theorem tM_laysBack (h : Q none (mem (va_up A 20 (qcp 142 (A 33) (A 20))) F X)) : ∀ (d k : Nat), k + d = 142 → pz_T z0 KX10_laysBack Q 2 (0, 0) [some (.ref 69), some (.int (nI k))] [] (mem (va_up A 20 (qcp k (A 33) (A 20))) F X) := by
  intro d
  induction d with
  | zero =>
    intro k hk
    have hk : k = 142 := by omega
    subst hk
    refine pz_wp_ok (pz_Is_ok SX10_laysBack) [2] 100 ?_
    refine br1 (fun z => z (nI_le (Nat.le_refl _) (by omega))) ?_
    exact h
  | succ d ih =>
    intro k hk
    refine pz_wp_ok (pz_Is_ok SX10_laysBack) [2] 100 ?_
    refine br2 (n_ge (b := 142) (by omega) (by omega) (by omega)) ?_
    refine ⟨qin k rfl (by omega) (by omega), ?_⟩
    refine ⟨qin k rfl (by omega) (by omega), ?_⟩
    have ck := qcl (x := nI k) k rfl (by omega)
    rw [ck]
    refine qT (ih (k + 1) (by omega)) (by rw [← nI_1 k]; rfl) rfl ?_
    refine (mem_20 _ _ _ _).trans ?_
    rw [vu_vu, ← qcp_s]
    rfl
theorem cM_laysBack (h : Q none (mem (va_up A 20 (qcp 142 (A 33) (A 20))) F X)) : pz_C yX10_laysBack KX10_laysBack [.ref 69] (mem A F X) Q := by
  refine pz_C_of rfl rfl rfl (Nat.le_of_ble_eq_true rfl) (pz_wp_ok (pz_Is_ok SX10_laysBack) [2] 100 ?_)
  have h' := tM_laysBack h 142 0 (by omega)
  rw [qcp_0, vu_s] at h'
  exact h'
theorem tM_sa_sa (h : Q none (mem (va_up A 22 (qcp 2942 (A 20) (A 22))) F X)) : ∀ (d k : Nat), k + d = 2942 → pz_T z0 KX10_setAside Q 2 (0, 0) [some (.ref 69), some (.ref 70), some (.ref 72), some (.int (nI k))] [] (mem (va_up A 22 (qcp k (A 20) (A 22))) F X) := by
  intro d
  induction d with
  | zero =>
    intro k hk
    have hk : k = 2942 := by omega
    subst hk
    refine pz_wp_ok (pz_Is_ok SX10_setAside) [2] 100 ?_
    refine br1 (fun z => z (nI_le (Nat.le_refl _) (by omega))) ?_
    exact h
  | succ d ih =>
    intro k hk
    refine pz_wp_ok (pz_Is_ok SX10_setAside) [2] 100 ?_
    refine br2 (n_ge (b := 2942) (by omega) (by omega) (by omega)) ?_
    refine ⟨qin k rfl (by omega) (by omega), ?_⟩
    refine ⟨qin k rfl (by omega) (by omega), ?_⟩
    have ck := qcl (x := nI k) k rfl (by omega)
    rw [ck]
    refine qT (ih (k + 1) (by omega)) (by rw [← nI_1 k]; rfl) rfl ?_
    refine (mem_22 _ _ _ _).trans ?_
    rw [vu_vu, ← qcp_s]
    rfl
theorem cM_sa_sa (h : Q none (mem (va_up A 22 (qcp 2942 (A 20) (A 22))) F X)) : pz_C yX10_setAside KX10_setAside [.ref 69, .ref 70, .ref 72] (mem A F X) Q := by
  refine pz_C_of rfl rfl rfl (Nat.le_of_ble_eq_true rfl) (pz_wp_ok (pz_Is_ok SX10_setAside) [2] 100 ?_)
  have h' := tM_sa_sa h 2942 0 (by omega)
  rw [qcp_0, vu_s] at h'
  exact h'
theorem tM_sa_is (h : Q none (mem (va_up A 20 (qcp 2942 (A 21) (A 20))) F X)) : ∀ (d k : Nat), k + d = 2942 → pz_T z0 KX10_setAside Q 2 (0, 0) [some (.ref 69), some (.ref 71), some (.ref 70), some (.int (nI k))] [] (mem (va_up A 20 (qcp k (A 21) (A 20))) F X) := by
  intro d
  induction d with
  | zero =>
    intro k hk
    have hk : k = 2942 := by omega
    subst hk
    refine pz_wp_ok (pz_Is_ok SX10_setAside) [2] 100 ?_
    refine br1 (fun z => z (nI_le (Nat.le_refl _) (by omega))) ?_
    exact h
  | succ d ih =>
    intro k hk
    refine pz_wp_ok (pz_Is_ok SX10_setAside) [2] 100 ?_
    refine br2 (n_ge (b := 2942) (by omega) (by omega) (by omega)) ?_
    refine ⟨qin k rfl (by omega) (by omega), ?_⟩
    refine ⟨qin k rfl (by omega) (by omega), ?_⟩
    have ck := qcl (x := nI k) k rfl (by omega)
    rw [ck]
    refine qT (ih (k + 1) (by omega)) (by rw [← nI_1 k]; rfl) rfl ?_
    refine (mem_20 _ _ _ _).trans ?_
    rw [vu_vu, ← qcp_s]
    rfl
theorem cM_sa_is (h : Q none (mem (va_up A 20 (qcp 2942 (A 21) (A 20))) F X)) : pz_C yX10_setAside KX10_setAside [.ref 69, .ref 71, .ref 70] (mem A F X) Q := by
  refine pz_C_of rfl rfl rfl (Nat.le_of_ble_eq_true rfl) (pz_wp_ok (pz_Is_ok SX10_setAside) [2] 100 ?_)
  have h' := tM_sa_is h 2942 0 (by omega)
  rw [qcp_0, vu_s] at h'
  exact h'
theorem tM_sa_as (h : Q none (mem (va_up A 20 (qcp 2942 (A 22) (A 20))) F X)) : ∀ (d k : Nat), k + d = 2942 → pz_T z0 KX10_setAside Q 2 (0, 0) [some (.ref 69), some (.ref 72), some (.ref 70), some (.int (nI k))] [] (mem (va_up A 20 (qcp k (A 22) (A 20))) F X) := by
  intro d
  induction d with
  | zero =>
    intro k hk
    have hk : k = 2942 := by omega
    subst hk
    refine pz_wp_ok (pz_Is_ok SX10_setAside) [2] 100 ?_
    refine br1 (fun z => z (nI_le (Nat.le_refl _) (by omega))) ?_
    exact h
  | succ d ih =>
    intro k hk
    refine pz_wp_ok (pz_Is_ok SX10_setAside) [2] 100 ?_
    refine br2 (n_ge (b := 2942) (by omega) (by omega) (by omega)) ?_
    refine ⟨qin k rfl (by omega) (by omega), ?_⟩
    refine ⟨qin k rfl (by omega) (by omega), ?_⟩
    have ck := qcl (x := nI k) k rfl (by omega)
    rw [ck]
    refine qT (ih (k + 1) (by omega)) (by rw [← nI_1 k]; rfl) rfl ?_
    refine (mem_20 _ _ _ _).trans ?_
    rw [vu_vu, ← qcp_s]
    rfl
theorem cM_sa_as (h : Q none (mem (va_up A 20 (qcp 2942 (A 22) (A 20))) F X)) : pz_C yX10_setAside KX10_setAside [.ref 69, .ref 72, .ref 70] (mem A F X) Q := by
  refine pz_C_of rfl rfl rfl (Nat.le_of_ble_eq_true rfl) (pz_wp_ok (pz_Is_ok SX10_setAside) [2] 100 ?_)
  have h' := tM_sa_as h 2942 0 (by omega)
  rw [qcp_0, vu_s] at h'
  exact h'
theorem tM_sa_si (h : Q none (mem (va_up A 21 (qcp 2942 (A 20) (A 21))) F X)) : ∀ (d k : Nat), k + d = 2942 → pz_T z0 KX10_setAside Q 2 (0, 0) [some (.ref 69), some (.ref 70), some (.ref 71), some (.int (nI k))] [] (mem (va_up A 21 (qcp k (A 20) (A 21))) F X) := by
  intro d
  induction d with
  | zero =>
    intro k hk
    have hk : k = 2942 := by omega
    subst hk
    refine pz_wp_ok (pz_Is_ok SX10_setAside) [2] 100 ?_
    refine br1 (fun z => z (nI_le (Nat.le_refl _) (by omega))) ?_
    exact h
  | succ d ih =>
    intro k hk
    refine pz_wp_ok (pz_Is_ok SX10_setAside) [2] 100 ?_
    refine br2 (n_ge (b := 2942) (by omega) (by omega) (by omega)) ?_
    refine ⟨qin k rfl (by omega) (by omega), ?_⟩
    refine ⟨qin k rfl (by omega) (by omega), ?_⟩
    have ck := qcl (x := nI k) k rfl (by omega)
    rw [ck]
    refine qT (ih (k + 1) (by omega)) (by rw [← nI_1 k]; rfl) rfl ?_
    refine (mem_21 _ _ _ _).trans ?_
    rw [vu_vu, ← qcp_s]
    rfl
theorem cM_sa_si (h : Q none (mem (va_up A 21 (qcp 2942 (A 20) (A 21))) F X)) : pz_C yX10_setAside KX10_setAside [.ref 69, .ref 70, .ref 71] (mem A F X) Q := by
  refine pz_C_of rfl rfl rfl (Nat.le_of_ble_eq_true rfl) (pz_wp_ok (pz_Is_ok SX10_setAside) [2] 100 ?_)
  have h' := tM_sa_si h 2942 0 (by omega)
  rw [qcp_0, vu_s] at h'
  exact h'
end MOD
