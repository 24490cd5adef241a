/-! the reference: keep, back, count -/
def s_count (t : Nat → Int32) (w l x : Int32) : Int32 := if x = 0 then t 0 else if x = 1 then t 2 else if x = 2 then t 6 else if x = 3 then t 7 else if x = 4 then t 8 else if x = 5 then t 9 else if x = 6 then t 1 else if x = 7 then w else if x = 8 then l else if x = 9 then t 5 else BAD
def kctab : List (Int32 × Nat) := [(0, 56), (1, 63), (2, 70), (3, 78), (4, 86), (5, 94), (6, 102), (7, 109), (8, 114), (9, 119)]
section MOD
variable {A A1 : qA} {F : qF} {X : qX} {Q : pz_Q} {M : pz_M}
set_option maxRecDepth 8000 in
theorem cM_count {x : Int32} (h : Q (some (.int (s_count (A 20) (F 72) (F 61) x))) (mem A F X)) : pz_C yX10_count KX10_count [.ref 69, .int x] (mem A F X) Q := by
  refine pz_C_of rfl rfl rfl (Nat.le_of_ble_eq_true rfl) (pz_wp_ok (pz_Is_ok SX10_count) [1] 100 ?_)
  refine pz_T_sw (cs := kctab) (d := 126) SX10_count_0.2.1 ?_
  unfold s_count at h
  by_cases g0 : x = 0
  · subst g0
    rw [if_pos rfl] at h
    rw [show pz_tgt 0 kctab 126 = 56 by decide]
    refine pz_wp_ok (pz_Is_ok SX10_count) [] 100 ?_
    exact ⟨qin 0 rfl (by omega) (by omega), h⟩
  rw [if_neg g0] at h
  by_cases g1 : x = 1
  · subst g1
    rw [if_pos rfl] at h
    rw [show pz_tgt 1 kctab 126 = 63 by decide]
    refine pz_wp_ok (pz_Is_ok SX10_count) [] 100 ?_
    exact ⟨qin 2 rfl (by omega) (by omega), h⟩
  rw [if_neg g1] at h
  by_cases g2 : x = 2
  · subst g2
    rw [if_pos rfl] at h
    rw [show pz_tgt 2 kctab 126 = 70 by decide]
    refine pz_wp_ok (pz_Is_ok SX10_count) [] 100 ?_
    exact ⟨qin 6 rfl (by omega) (by omega), h⟩
  rw [if_neg g2] at h
  by_cases g3 : x = 3
  · subst g3
    rw [if_pos rfl] at h
    rw [show pz_tgt 3 kctab 126 = 78 by decide]
    refine pz_wp_ok (pz_Is_ok SX10_count) [] 100 ?_
    exact ⟨qin 7 rfl (by omega) (by omega), h⟩
  rw [if_neg g3] at h
  by_cases g4 : x = 4
  · subst g4
    rw [if_pos rfl] at h
    rw [show pz_tgt 4 kctab 126 = 86 by decide]
    refine pz_wp_ok (pz_Is_ok SX10_count) [] 100 ?_
    exact ⟨qin 8 rfl (by omega) (by omega), h⟩
  rw [if_neg g4] at h
  by_cases g5 : x = 5
  · subst g5
    rw [if_pos rfl] at h
    rw [show pz_tgt 5 kctab 126 = 94 by decide]
    refine pz_wp_ok (pz_Is_ok SX10_count) [] 100 ?_
    exact ⟨qin 9 rfl (by omega) (by omega), h⟩
  rw [if_neg g5] at h
  by_cases g6 : x = 6
  · subst g6
    rw [if_pos rfl] at h
    rw [show pz_tgt 6 kctab 126 = 102 by decide]
    refine pz_wp_ok (pz_Is_ok SX10_count) [] 100 ?_
    exact ⟨qin 1 rfl (by omega) (by omega), h⟩
  rw [if_neg g6] at h
  by_cases g7 : x = 7
  · subst g7
    rw [if_pos rfl] at h
    rw [show pz_tgt 7 kctab 126 = 109 by decide]
    refine pz_wp_ok (pz_Is_ok SX10_count) [] 100 ?_
    exact h
  rw [if_neg g7] at h
  by_cases g8 : x = 8
  · subst g8
    rw [if_pos rfl] at h
    rw [show pz_tgt 8 kctab 126 = 114 by decide]
    refine pz_wp_ok (pz_Is_ok SX10_count) [] 100 ?_
    exact h
  rw [if_neg g8] at h
  by_cases g9 : x = 9
  · subst g9
    rw [if_pos rfl] at h
    rw [show pz_tgt 9 kctab 126 = 119 by decide]
    refine pz_wp_ok (pz_Is_ok SX10_count) [] 100 ?_
    exact ⟨qin 5 rfl (by omega) (by omega), h⟩
  rw [if_neg g9] at h
  have e : pz_tgt x kctab 126 = 126 := by
    unfold kctab
    simp [pz_tgt, g0, g1, g2, g3, g4, g5, g6, g7, g8, g9]
  rw [e]
  refine pz_wp_ok (pz_Is_ok SX10_count) [] 100 ?_
  exact h
set_option maxRecDepth 8000 in
theorem cM_back (h1 : F 60 = 0 → Q (some (.int (-1000000002))) (mem A F X)) (h0 : ¬ F 60 = 0 → Q (some (.int (A 21 0))) (mem (va_up A 20 (qcp 2942 (A 21) (A 20))) F X)) : pz_C yX10_back KX10_back [.ref 69] (mem A F X) Q := by
  refine pz_C_of rfl rfl rfl (Nat.le_of_ble_eq_true rfl) (pz_wp_ok (pz_Is_ok SX10_back) [] 100 ?_)
  refine ⟨fun g => ?_, fun g => ?_⟩
  · have h0 := h0 g
    refine cM_sa_is ?_
    refine ⟨qin 0 rfl (by omega) (by omega), ?_⟩
    have e : qcp 2942 (A 21) (A 20) 0 = A 21 0 := if_pos (by omega)
    rw [← e] at h0
    exact h0
  · exact h1 g
set_option maxRecDepth 8000 in
theorem cM_keep (h : Q (some (.int (A 20 0))) (mem (va_up A 21 (qcp 2942 (A 20) (A 21))) (upd F 60 1) X)) : pz_C yX10_keep KX10_keep [.ref 69] (mem A F X) Q := by
  refine pz_C_of rfl rfl rfl (Nat.le_of_ble_eq_true rfl) (pz_wp_ok (pz_Is_ok SX10_keep) [] 100 ?_)
  refine ⟨Or.inr rfl, ?_⟩
  refine qC (cM_sa_si (A := A) (F := upd F 60 1) (X := X) ?_) rfl rfl
  exact ⟨qin 0 rfl (by omega) (by omega), h⟩
end MOD
