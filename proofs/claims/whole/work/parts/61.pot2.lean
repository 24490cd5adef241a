/-! the towns' cells -/
theorem qm_out {n o s : Nat} {t : Nat → Int32} {j : Nat} {v : Int32} (h : ∀ i, i < n → o + s * i ≠ j) : qm n o s (upd t j v) = qm n o s t := by
  funext i
  unfold qm
  by_cases hi : i < n
  · rw [if_pos hi, if_pos hi, upd_ne _ _ (h i hi)]
  · rw [if_neg hi, if_neg hi]
theorem qm_in {n o s : Nat} {t : Nat → Int32} {i : Nat} {v : Int32} (hs : 0 < s) (hi : i < n) : qm n o s (upd t (o + s * i) v) = upd (qm n o s t) i v := by
  funext j
  unfold qm upd
  by_cases hj : j = i
  · subst hj
    rw [if_pos hi, if_pos rfl, if_pos rfl]
  · rw [if_neg hj]
    by_cases hn : j < n
    · show (if j < n then (if o + s * j = o + s * i then v else t (o + s * j)) else 0) = if j < n then t (o + s * j) else 0
      rw [if_pos hn, if_pos hn, if_neg (fun z => hj (Nat.eq_of_mul_eq_mul_left hs (by omega)))]
    · show (if j < n then (if o + s * j = o + s * i then v else t (o + s * j)) else 0) = if j < n then t (o + s * j) else 0
      rw [if_neg hn, if_neg hn]
theorem qm_at {n o s : Nat} {t : Nat → Int32} {i : Nat} (hi : i < n) : qm n o s t i = t (o + s * i) := if_pos hi
theorem qm_1 {n o : Nat} {t : Nat → Int32} {i : Nat} (hi : i < n) : qm n o 1 t i = t (o + i) := by rw [qm_at hi, Nat.one_mul]
theorem qm_k {t : Nat → Int32} {i : Nat} (hi : i < 8) : qm 8 118 3 t i = t (118 + 3 * i + 0) := qm_at hi
theorem qm_l {t : Nat → Int32} {i : Nat} (hi : i < 8) : qm 8 119 3 t i = t (118 + 3 * i + 1) := by rw [qm_at hi]; congr 1; omega
theorem qm_a {t : Nat → Int32} {i : Nat} (hi : i < 8) : qm 8 120 3 t i = t (118 + 3 * i + 2) := by rw [qm_at hi]; congr 1; omega
theorem qm_cg {n o s : Nat} {t t' : Nat → Int32} (h : ∀ i, i < n → t' (o + s * i) = t (o + s * i)) : qm n o s t' = qm n o s t := by
  funext i
  unfold qm
  by_cases hi : i < n
  · rw [if_pos hi, if_pos hi, h i hi]
  · rw [if_neg hi, if_neg hi]
theorem qm_cpy {n o s : Nat} {t t0 t' : Nat → Int32} (h : ∀ i, i < n → t' (o + s * i) = t (o + s * i)) : va_cpy (qm n o s t) (qm n o s t0) 0 0 n = qm n o s t' := by
  funext i
  unfold va_cpy qm
  by_cases hi : i < n
  · rw [if_pos (by omega), if_pos (by omega), if_pos hi, Nat.zero_add, Nat.sub_zero, h i hi]
  · rw [if_neg (by omega), if_neg hi, if_neg hi]
section POT
variable {A A1 : qA} {F : qF} {X : qX} {Q : pz_Q} {M : pz_M} {t : Nat → Int32}
theorem qt_o_u {b j : Nat} {v : Int32} (hj : 6 ≤ j) : qt_o b (upd t j v) = qt_o b t := by
  unfold qt_o
  rw [upd_ne _ _ (show 0 ≠ j by omega), upd_ne _ _ (show 3 ≠ j by omega), upd_ne _ _ (show 4 ≠ j by omega), upd_ne _ _ (show 2 ≠ j by omega), upd_ne _ _ (show 5 ≠ j by omega), upd_ne _ _ (show 1 ≠ j by omega)]
theorem qt_h_u {j : Nat} {v : Int32} (hj : j < 10 ∨ 46 ≤ j) : qt_h (upd t j v) = qt_h t := by unfold qt_h; rw [qm_out (fun i hi => by omega)]
theorem qt_w_u {j : Nat} {v : Int32} (hj : j < 46 ∨ 82 ≤ j) : qt_w (upd t j v) = qt_w t := by unfold qt_w; rw [qm_out (fun i hi => by omega)]
theorem qt_p_u {j : Nat} {v : Int32} (hj : j < 82 ∨ 118 ≤ j) : qt_p (upd t j v) = qt_p t := by unfold qt_p; rw [qm_out (fun i hi => by omega)]
theorem qt_k_u {j : Nat} {v : Int32} (hj : ∀ i, i < 8 → 118 + 3 * i ≠ j) : qt_k (upd t j v) = qt_k t := by unfold qt_k; rw [qm_out hj]
theorem qt_l_u {j : Nat} {v : Int32} (hj : ∀ i, i < 8 → 119 + 3 * i ≠ j) : qt_l (upd t j v) = qt_l t := by unfold qt_l; rw [qm_out hj]
theorem qt_a_u {j : Nat} {v : Int32} (hj : ∀ i, i < 8 → 120 + 3 * i ≠ j) : qt_a (upd t j v) = qt_a t := by unfold qt_a; rw [qm_out hj]
theorem qt_r_u {j : Nat} {v : Int32} (hj : j < 6 ∨ 10 ≤ j) : qt_r (upd t j v) = qt_r t := by unfold qt_r; rw [qm_out (fun i hi => by omega)]
def memx0 (A : qA) (F : qF) (X : qX) (c0 c1 c2 c3 c4 c5 c6 c7 : pz_E) : pz_M := [
  .inr (.inr (7, [.ref 1, .ref 4, .ref 12, .ref 20, .ref 28, .ref 36, .ref 40, .ref 43, .ref 44, .ref 45, .int (F 0), .int (F 1)])),
  .inr (.inr (0, [.ref 2, .ref 3])), .inr (.inl (2, 14, X.1)), qi 96 (A 4),
  c0, c1, c2, c3, c4, c5, c6, c7,
  qt_o 12 (A 1), qt_h (A 1), qt_w (A 1), qt_p (A 1), qt_k (A 1), qt_l (A 1), qt_a (A 1), qt_r (A 1),
  qt_o 20 (A 2), qt_h (A 2), qt_w (A 2), qt_p (A 2), qt_k (A 2), qt_l (A 2), qt_a (A 2), qt_r (A 2),
  qt_o 28 (A 3), qt_h (A 3), qt_w (A 3), qt_p (A 3), qt_k (A 3), qt_l (A 3), qt_a (A 3), qt_r (A 3),
  .inr (.inr (1, [.ref X.2.1, .int (F 2), .ref 39, .int (F 3), .int (F 4), .int (F 5), .int (F 6), .int (F 7)])), qx_o X 0 38, qx_c X 0, .inl (1, 96, A 5),
  .inr (.inr (6, [.ref 41, .ref 42])), qi 36 (A 6), qi 36 (A 7),
  .inr (.inl (3, 4, fun i => match i with | 0 => some 46 | 1 => some 48 | 2 => some 50 | 3 => some 52 | _ => none)), .inr (.inl (4, 5, fun i => match i with | 0 => some 54 | 1 => some 57 | 2 => some 60 | 3 => some 63 | 4 => some 66 | _ => none)), qi 60 (A 8),
  qs_o F 47 10 14, qi 24 (A 10), qs_o F 49 11 15, qi 24 (A 11), qs_o F 51 12 16, qi 24 (A 12), qs_o F 53 13 17, qi 24 (A 13),
  ql_o F 55 0, qs_o F 56 40 45, qi 24 (A 14), ql_o F 58 1, qs_o F 59 41 46, qi 24 (A 15), ql_o F 61 2, qs_o F 62 42 47, qi 24 (A 16), ql_o F 64 3, qs_o F 65 43 48, qi 24 (A 17), ql_o F 67 4, qs_o F 68 44 49, qi 24 (A 18),
  .inr (.inr (8, [.ref 70, .ref 71, .ref 72, .int (F 60), .ref 73, .ref 74, .ref 75, .ref 76, .ref 77, .ref 78, .ref 79, .ref 80, .ref 81, .ref 82, .ref 83, .ref 84, .int (F 61), .int (F 62), .int (F 63), .int (F 64), .int (F 65), .int (F 66), .int (F 67), .int (F 68), .int (F 69), .int (F 70), .int (F 71), .ref 85, .ref 86, .ref 87, .ref 88, .int (F 72), .ref 89])),
  qi 3142 (A 20), qi 3142 (A 21), qi 3142 (A 22), qi 4 (A 23), qi 4 (A 24), qi 96 (A 25), qi 5 (A 26), qi 5 (A 27), qi 5 (A 28), qi 5 (A 29), qi 120 (A 30), qi 36 (A 31), qi 36 (A 32), qi 142 (A 33), qi 96 (A 34), qi 128 (A 35), qi 100 (A 36), qi 24 (A 37), qi 60 (A 38), qi 60 (A 39)] ++ qx_t X X.2.2.1 1
theorem memx0_s : mem A F X = memx0 A F X (qt_o 4 (A 0)) (qt_h (A 0)) (qt_w (A 0)) (qt_p (A 0)) (qt_k (A 0)) (qt_l (A 0)) (qt_a (A 0)) (qt_r (A 0)) := rfl
theorem memx0_u (t : Nat → Int32) : mem (va_up A 0 t) F X = memx0 A F X (qt_o 4 t) (qt_h t) (qt_w t) (qt_p t) (qt_k t) (qt_l t) (qt_a t) (qt_r t) := rfl
theorem mh0 {c : Nat} (hc : c < 36) (v : Int32) : pz_set (mem A F X) 5 (.inl (0, 36, upd (qm 36 10 1 (A 0)) c v)) = mem (va_up A 0 (upd (A 0) (10 + c) v)) F X := by
  have e : qt_h (upd (A 0) (10 + c) v) = .inl (0, 36, upd (qm 36 10 1 (A 0)) c v) := by
    unfold qt_h
    rw [← qm_in (by omega) hc, show 10 + 1 * c = 10 + c by omega]
  rw [memx0_u, qt_o_u (by omega), qt_w_u (by omega), qt_p_u (by omega), qt_k_u (fun i hi => by omega), qt_l_u (fun i hi => by omega), qt_a_u (fun i hi => by omega), qt_r_u (by omega), e]
  rfl
theorem mw0 {c : Nat} (hc : c < 36) (v : Int32) : pz_set (mem A F X) 6 (.inl (0, 36, upd (qm 36 46 1 (A 0)) c v)) = mem (va_up A 0 (upd (A 0) (46 + c) v)) F X := by
  have e : qt_w (upd (A 0) (46 + c) v) = .inl (0, 36, upd (qm 36 46 1 (A 0)) c v) := by
    unfold qt_w
    rw [← qm_in (by omega) hc, show 46 + 1 * c = 46 + c by omega]
  rw [memx0_u, qt_o_u (by omega), qt_h_u (by omega), qt_p_u (by omega), qt_k_u (fun i hi => by omega), qt_l_u (fun i hi => by omega), qt_a_u (fun i hi => by omega), qt_r_u (by omega), e]
  rfl
theorem mp0 {c : Nat} (hc : c < 36) (v : Int32) : pz_set (mem A F X) 7 (.inl (0, 36, upd (qm 36 82 1 (A 0)) c v)) = mem (va_up A 0 (upd (A 0) (82 + c) v)) F X := by
  have e : qt_p (upd (A 0) (82 + c) v) = .inl (0, 36, upd (qm 36 82 1 (A 0)) c v) := by
    unfold qt_p
    rw [← qm_in (by omega) hc, show 82 + 1 * c = 82 + c by omega]
  rw [memx0_u, qt_o_u (by omega), qt_h_u (by omega), qt_w_u (by omega), qt_k_u (fun i hi => by omega), qt_l_u (fun i hi => by omega), qt_a_u (fun i hi => by omega), qt_r_u (by omega), e]
  rfl
theorem mk0 {c : Nat} (hc : c < 8) (v : Int32) : pz_set (mem A F X) 8 (.inl (0, 8, upd (qm 8 118 3 (A 0)) c v)) = mem (va_up A 0 (upd (A 0) (118 + 3 * c + 0) v)) F X := by
  have e : qt_k (upd (A 0) (118 + 3 * c + 0) v) = .inl (0, 8, upd (qm 8 118 3 (A 0)) c v) := by
    unfold qt_k
    rw [← qm_in (by omega) hc, show 118 + 3 * c = 118 + 3 * c + 0 by omega]
  rw [memx0_u, qt_o_u (by omega), qt_h_u (by omega), qt_w_u (by omega), qt_p_u (by omega), qt_l_u (fun i hi => by omega), qt_a_u (fun i hi => by omega), qt_r_u (by omega), e]
  rfl
theorem ml0 {c : Nat} (hc : c < 8) (v : Int32) : pz_set (mem A F X) 9 (.inl (0, 8, upd (qm 8 119 3 (A 0)) c v)) = mem (va_up A 0 (upd (A 0) (118 + 3 * c + 1) v)) F X := by
  have e : qt_l (upd (A 0) (118 + 3 * c + 1) v) = .inl (0, 8, upd (qm 8 119 3 (A 0)) c v) := by
    unfold qt_l
    rw [← qm_in (by omega) hc, show 119 + 3 * c = 118 + 3 * c + 1 by omega]
  rw [memx0_u, qt_o_u (by omega), qt_h_u (by omega), qt_w_u (by omega), qt_p_u (by omega), qt_k_u (fun i hi => by omega), qt_a_u (fun i hi => by omega), qt_r_u (by omega), e]
  rfl
theorem ma0 {c : Nat} (hc : c < 8) (v : Int32) : pz_set (mem A F X) 10 (.inl (0, 8, upd (qm 8 120 3 (A 0)) c v)) = mem (va_up A 0 (upd (A 0) (118 + 3 * c + 2) v)) F X := by
  have e : qt_a (upd (A 0) (118 + 3 * c + 2) v) = .inl (0, 8, upd (qm 8 120 3 (A 0)) c v) := by
    unfold qt_a
    rw [← qm_in (by omega) hc, show 120 + 3 * c = 118 + 3 * c + 2 by omega]
  rw [memx0_u, qt_o_u (by omega), qt_h_u (by omega), qt_w_u (by omega), qt_p_u (by omega), qt_k_u (fun i hi => by omega), qt_l_u (fun i hi => by omega), qt_r_u (by omega), e]
  rfl
theorem mr0 {c : Nat} (hc : c < 4) (v : Int32) : pz_set (mem A F X) 11 (.inl (0, 4, upd (qm 4 6 1 (A 0)) c v)) = mem (va_up A 0 (upd (A 0) (6 + c) v)) F X := by
  have e : qt_r (upd (A 0) (6 + c) v) = .inl (0, 4, upd (qm 4 6 1 (A 0)) c v) := by
    unfold qt_r
    rw [← qm_in (by omega) hc, show 6 + 1 * c = 6 + c by omega]
  rw [memx0_u, qt_o_u (by omega), qt_h_u (by omega), qt_w_u (by omega), qt_p_u (by omega), qt_k_u (fun i hi => by omega), qt_l_u (fun i hi => by omega), qt_a_u (fun i hi => by omega), e]
  rfl
theorem mf_eat0 (v : Int32) : pz_set (mem A F X) 4 (.inr (.inr (5, pz_set [.ref 5, .ref 6, .ref 7, .ref 8, .ref 9, .ref 10, .ref 11, .int (A 0 0), .int (A 0 3), .int (A 0 4), .int (A 0 2), .int (A 0 5), .int (A 0 1), .ref 1] 7 (.int v)))) = mem (va_up A 0 (upd (A 0) 0 v)) F X := by
  rw [memx0_u, qt_h_u (by omega), qt_w_u (by omega), qt_p_u (by omega), qt_k_u (fun i hi => by omega), qt_l_u (fun i hi => by omega), qt_a_u (fun i hi => by omega), qt_r_u (by omega)]
  rfl
theorem mf_pot0 (v : Int32) : pz_set (mem A F X) 4 (.inr (.inr (5, pz_set [.ref 5, .ref 6, .ref 7, .ref 8, .ref 9, .ref 10, .ref 11, .int (A 0 0), .int (A 0 3), .int (A 0 4), .int (A 0 2), .int (A 0 5), .int (A 0 1), .ref 1] 8 (.int v)))) = mem (va_up A 0 (upd (A 0) 3 v)) F X := by
  rw [memx0_u, qt_h_u (by omega), qt_w_u (by omega), qt_p_u (by omega), qt_k_u (fun i hi => by omega), qt_l_u (fun i hi => by omega), qt_a_u (fun i hi => by omega), qt_r_u (by omega)]
  rfl
theorem mf_coo0 (v : Int32) : pz_set (mem A F X) 4 (.inr (.inr (5, pz_set [.ref 5, .ref 6, .ref 7, .ref 8, .ref 9, .ref 10, .ref 11, .int (A 0 0), .int (A 0 3), .int (A 0 4), .int (A 0 2), .int (A 0 5), .int (A 0 1), .ref 1] 9 (.int v)))) = mem (va_up A 0 (upd (A 0) 4 v)) F X := by
  rw [memx0_u, qt_h_u (by omega), qt_w_u (by omega), qt_p_u (by omega), qt_k_u (fun i hi => by omega), qt_l_u (fun i hi => by omega), qt_a_u (fun i hi => by omega), qt_r_u (by omega)]
  rfl
theorem mf_min0 (v : Int32) : pz_set (mem A F X) 4 (.inr (.inr (5, pz_set [.ref 5, .ref 6, .ref 7, .ref 8, .ref 9, .ref 10, .ref 11, .int (A 0 0), .int (A 0 3), .int (A 0 4), .int (A 0 2), .int (A 0 5), .int (A 0 1), .ref 1] 10 (.int v)))) = mem (va_up A 0 (upd (A 0) 2 v)) F X := by
  rw [memx0_u, qt_h_u (by omega), qt_w_u (by omega), qt_p_u (by omega), qt_k_u (fun i hi => by omega), qt_l_u (fun i hi => by omega), qt_a_u (fun i hi => by omega), qt_r_u (by omega)]
  rfl
theorem mf_z0 (v : Int32) : pz_set (mem A F X) 4 (.inr (.inr (5, pz_set [.ref 5, .ref 6, .ref 7, .ref 8, .ref 9, .ref 10, .ref 11, .int (A 0 0), .int (A 0 3), .int (A 0 4), .int (A 0 2), .int (A 0 5), .int (A 0 1), .ref 1] 11 (.int v)))) = mem (va_up A 0 (upd (A 0) 5 v)) F X := by
  rw [memx0_u, qt_h_u (by omega), qt_w_u (by omega), qt_p_u (by omega), qt_k_u (fun i hi => by omega), qt_l_u (fun i hi => by omega), qt_a_u (fun i hi => by omega), qt_r_u (by omega)]
  rfl
theorem mf_tex0 (v : Int32) : pz_set (mem A F X) 4 (.inr (.inr (5, pz_set [.ref 5, .ref 6, .ref 7, .ref 8, .ref 9, .ref 10, .ref 11, .int (A 0 0), .int (A 0 3), .int (A 0 4), .int (A 0 2), .int (A 0 5), .int (A 0 1), .ref 1] 12 (.int v)))) = mem (va_up A 0 (upd (A 0) 1 v)) F X := by
  rw [memx0_u, qt_h_u (by omega), qt_w_u (by omega), qt_p_u (by omega), qt_k_u (fun i hi => by omega), qt_l_u (fun i hi => by omega), qt_a_u (fun i hi => by omega), qt_r_u (by omega)]
  rfl
def memx1 (A : qA) (F : qF) (X : qX) (c0 c1 c2 c3 c4 c5 c6 c7 : pz_E) : pz_M := [
  .inr (.inr (7, [.ref 1, .ref 4, .ref 12, .ref 20, .ref 28, .ref 36, .ref 40, .ref 43, .ref 44, .ref 45, .int (F 0), .int (F 1)])),
  .inr (.inr (0, [.ref 2, .ref 3])), .inr (.inl (2, 14, X.1)), qi 96 (A 4),
  qt_o 4 (A 0), qt_h (A 0), qt_w (A 0), qt_p (A 0), qt_k (A 0), qt_l (A 0), qt_a (A 0), qt_r (A 0),
  c0, c1, c2, c3, c4, c5, c6, c7,
  qt_o 20 (A 2), qt_h (A 2), qt_w (A 2), qt_p (A 2), qt_k (A 2), qt_l (A 2), qt_a (A 2), qt_r (A 2),
  qt_o 28 (A 3), qt_h (A 3), qt_w (A 3), qt_p (A 3), qt_k (A 3), qt_l (A 3), qt_a (A 3), qt_r (A 3),
  .inr (.inr (1, [.ref X.2.1, .int (F 2), .ref 39, .int (F 3), .int (F 4), .int (F 5), .int (F 6), .int (F 7)])), qx_o X 0 38, qx_c X 0, .inl (1, 96, A 5),
  .inr (.inr (6, [.ref 41, .ref 42])), qi 36 (A 6), qi 36 (A 7),
  .inr (.inl (3, 4, fun i => match i with | 0 => some 46 | 1 => some 48 | 2 => some 50 | 3 => some 52 | _ => none)), .inr (.inl (4, 5, fun i => match i with | 0 => some 54 | 1 => some 57 | 2 => some 60 | 3 => some 63 | 4 => some 66 | _ => none)), qi 60 (A 8),
  qs_o F 47 10 14, qi 24 (A 10), qs_o F 49 11 15, qi 24 (A 11), qs_o F 51 12 16, qi 24 (A 12), qs_o F 53 13 17, qi 24 (A 13),
  ql_o F 55 0, qs_o F 56 40 45, qi 24 (A 14), ql_o F 58 1, qs_o F 59 41 46, qi 24 (A 15), ql_o F 61 2, qs_o F 62 42 47, qi 24 (A 16), ql_o F 64 3, qs_o F 65 43 48, qi 24 (A 17), ql_o F 67 4, qs_o F 68 44 49, qi 24 (A 18),
  .inr (.inr (8, [.ref 70, .ref 71, .ref 72, .int (F 60), .ref 73, .ref 74, .ref 75, .ref 76, .ref 77, .ref 78, .ref 79, .ref 80, .ref 81, .ref 82, .ref 83, .ref 84, .int (F 61), .int (F 62), .int (F 63), .int (F 64), .int (F 65), .int (F 66), .int (F 67), .int (F 68), .int (F 69), .int (F 70), .int (F 71), .ref 85, .ref 86, .ref 87, .ref 88, .int (F 72), .ref 89])),
  qi 3142 (A 20), qi 3142 (A 21), qi 3142 (A 22), qi 4 (A 23), qi 4 (A 24), qi 96 (A 25), qi 5 (A 26), qi 5 (A 27), qi 5 (A 28), qi 5 (A 29), qi 120 (A 30), qi 36 (A 31), qi 36 (A 32), qi 142 (A 33), qi 96 (A 34), qi 128 (A 35), qi 100 (A 36), qi 24 (A 37), qi 60 (A 38), qi 60 (A 39)] ++ qx_t X X.2.2.1 1
theorem memx1_s : mem A F X = memx1 A F X (qt_o 12 (A 1)) (qt_h (A 1)) (qt_w (A 1)) (qt_p (A 1)) (qt_k (A 1)) (qt_l (A 1)) (qt_a (A 1)) (qt_r (A 1)) := rfl
theorem memx1_u (t : Nat → Int32) : mem (va_up A 1 t) F X = memx1 A F X (qt_o 12 t) (qt_h t) (qt_w t) (qt_p t) (qt_k t) (qt_l t) (qt_a t) (qt_r t) := rfl
theorem mh1 {c : Nat} (hc : c < 36) (v : Int32) : pz_set (mem A F X) 13 (.inl (0, 36, upd (qm 36 10 1 (A 1)) c v)) = mem (va_up A 1 (upd (A 1) (10 + c) v)) F X := by
  have e : qt_h (upd (A 1) (10 + c) v) = .inl (0, 36, upd (qm 36 10 1 (A 1)) c v) := by
    unfold qt_h
    rw [← qm_in (by omega) hc, show 10 + 1 * c = 10 + c by omega]
  rw [memx1_u, qt_o_u (by omega), qt_w_u (by omega), qt_p_u (by omega), qt_k_u (fun i hi => by omega), qt_l_u (fun i hi => by omega), qt_a_u (fun i hi => by omega), qt_r_u (by omega), e]
  rfl
theorem mw1 {c : Nat} (hc : c < 36) (v : Int32) : pz_set (mem A F X) 14 (.inl (0, 36, upd (qm 36 46 1 (A 1)) c v)) = mem (va_up A 1 (upd (A 1) (46 + c) v)) F X := by
  have e : qt_w (upd (A 1) (46 + c) v) = .inl (0, 36, upd (qm 36 46 1 (A 1)) c v) := by
    unfold qt_w
    rw [← qm_in (by omega) hc, show 46 + 1 * c = 46 + c by omega]
  rw [memx1_u, qt_o_u (by omega), qt_h_u (by omega), qt_p_u (by omega), qt_k_u (fun i hi => by omega), qt_l_u (fun i hi => by omega), qt_a_u (fun i hi => by omega), qt_r_u (by omega), e]
  rfl
theorem mp1 {c : Nat} (hc : c < 36) (v : Int32) : pz_set (mem A F X) 15 (.inl (0, 36, upd (qm 36 82 1 (A 1)) c v)) = mem (va_up A 1 (upd (A 1) (82 + c) v)) F X := by
  have e : qt_p (upd (A 1) (82 + c) v) = .inl (0, 36, upd (qm 36 82 1 (A 1)) c v) := by
    unfold qt_p
    rw [← qm_in (by omega) hc, show 82 + 1 * c = 82 + c by omega]
  rw [memx1_u, qt_o_u (by omega), qt_h_u (by omega), qt_w_u (by omega), qt_k_u (fun i hi => by omega), qt_l_u (fun i hi => by omega), qt_a_u (fun i hi => by omega), qt_r_u (by omega), e]
  rfl
theorem mk1 {c : Nat} (hc : c < 8) (v : Int32) : pz_set (mem A F X) 16 (.inl (0, 8, upd (qm 8 118 3 (A 1)) c v)) = mem (va_up A 1 (upd (A 1) (118 + 3 * c + 0) v)) F X := by
  have e : qt_k (upd (A 1) (118 + 3 * c + 0) v) = .inl (0, 8, upd (qm 8 118 3 (A 1)) c v) := by
    unfold qt_k
    rw [← qm_in (by omega) hc, show 118 + 3 * c = 118 + 3 * c + 0 by omega]
  rw [memx1_u, qt_o_u (by omega), qt_h_u (by omega), qt_w_u (by omega), qt_p_u (by omega), qt_l_u (fun i hi => by omega), qt_a_u (fun i hi => by omega), qt_r_u (by omega), e]
  rfl
theorem ml1 {c : Nat} (hc : c < 8) (v : Int32) : pz_set (mem A F X) 17 (.inl (0, 8, upd (qm 8 119 3 (A 1)) c v)) = mem (va_up A 1 (upd (A 1) (118 + 3 * c + 1) v)) F X := by
  have e : qt_l (upd (A 1) (118 + 3 * c + 1) v) = .inl (0, 8, upd (qm 8 119 3 (A 1)) c v) := by
    unfold qt_l
    rw [← qm_in (by omega) hc, show 119 + 3 * c = 118 + 3 * c + 1 by omega]
  rw [memx1_u, qt_o_u (by omega), qt_h_u (by omega), qt_w_u (by omega), qt_p_u (by omega), qt_k_u (fun i hi => by omega), qt_a_u (fun i hi => by omega), qt_r_u (by omega), e]
  rfl
theorem ma1 {c : Nat} (hc : c < 8) (v : Int32) : pz_set (mem A F X) 18 (.inl (0, 8, upd (qm 8 120 3 (A 1)) c v)) = mem (va_up A 1 (upd (A 1) (118 + 3 * c + 2) v)) F X := by
  have e : qt_a (upd (A 1) (118 + 3 * c + 2) v) = .inl (0, 8, upd (qm 8 120 3 (A 1)) c v) := by
    unfold qt_a
    rw [← qm_in (by omega) hc, show 120 + 3 * c = 118 + 3 * c + 2 by omega]
  rw [memx1_u, qt_o_u (by omega), qt_h_u (by omega), qt_w_u (by omega), qt_p_u (by omega), qt_k_u (fun i hi => by omega), qt_l_u (fun i hi => by omega), qt_r_u (by omega), e]
  rfl
theorem mr1 {c : Nat} (hc : c < 4) (v : Int32) : pz_set (mem A F X) 19 (.inl (0, 4, upd (qm 4 6 1 (A 1)) c v)) = mem (va_up A 1 (upd (A 1) (6 + c) v)) F X := by
  have e : qt_r (upd (A 1) (6 + c) v) = .inl (0, 4, upd (qm 4 6 1 (A 1)) c v) := by
    unfold qt_r
    rw [← qm_in (by omega) hc, show 6 + 1 * c = 6 + c by omega]
  rw [memx1_u, qt_o_u (by omega), qt_h_u (by omega), qt_w_u (by omega), qt_p_u (by omega), qt_k_u (fun i hi => by omega), qt_l_u (fun i hi => by omega), qt_a_u (fun i hi => by omega), e]
  rfl
theorem mf_eat1 (v : Int32) : pz_set (mem A F X) 12 (.inr (.inr (5, pz_set [.ref 13, .ref 14, .ref 15, .ref 16, .ref 17, .ref 18, .ref 19, .int (A 1 0), .int (A 1 3), .int (A 1 4), .int (A 1 2), .int (A 1 5), .int (A 1 1), .ref 1] 7 (.int v)))) = mem (va_up A 1 (upd (A 1) 0 v)) F X := by
  rw [memx1_u, qt_h_u (by omega), qt_w_u (by omega), qt_p_u (by omega), qt_k_u (fun i hi => by omega), qt_l_u (fun i hi => by omega), qt_a_u (fun i hi => by omega), qt_r_u (by omega)]
  rfl
theorem mf_pot1 (v : Int32) : pz_set (mem A F X) 12 (.inr (.inr (5, pz_set [.ref 13, .ref 14, .ref 15, .ref 16, .ref 17, .ref 18, .ref 19, .int (A 1 0), .int (A 1 3), .int (A 1 4), .int (A 1 2), .int (A 1 5), .int (A 1 1), .ref 1] 8 (.int v)))) = mem (va_up A 1 (upd (A 1) 3 v)) F X := by
  rw [memx1_u, qt_h_u (by omega), qt_w_u (by omega), qt_p_u (by omega), qt_k_u (fun i hi => by omega), qt_l_u (fun i hi => by omega), qt_a_u (fun i hi => by omega), qt_r_u (by omega)]
  rfl
theorem mf_coo1 (v : Int32) : pz_set (mem A F X) 12 (.inr (.inr (5, pz_set [.ref 13, .ref 14, .ref 15, .ref 16, .ref 17, .ref 18, .ref 19, .int (A 1 0), .int (A 1 3), .int (A 1 4), .int (A 1 2), .int (A 1 5), .int (A 1 1), .ref 1] 9 (.int v)))) = mem (va_up A 1 (upd (A 1) 4 v)) F X := by
  rw [memx1_u, qt_h_u (by omega), qt_w_u (by omega), qt_p_u (by omega), qt_k_u (fun i hi => by omega), qt_l_u (fun i hi => by omega), qt_a_u (fun i hi => by omega), qt_r_u (by omega)]
  rfl
theorem mf_min1 (v : Int32) : pz_set (mem A F X) 12 (.inr (.inr (5, pz_set [.ref 13, .ref 14, .ref 15, .ref 16, .ref 17, .ref 18, .ref 19, .int (A 1 0), .int (A 1 3), .int (A 1 4), .int (A 1 2), .int (A 1 5), .int (A 1 1), .ref 1] 10 (.int v)))) = mem (va_up A 1 (upd (A 1) 2 v)) F X := by
  rw [memx1_u, qt_h_u (by omega), qt_w_u (by omega), qt_p_u (by omega), qt_k_u (fun i hi => by omega), qt_l_u (fun i hi => by omega), qt_a_u (fun i hi => by omega), qt_r_u (by omega)]
  rfl
theorem mf_z1 (v : Int32) : pz_set (mem A F X) 12 (.inr (.inr (5, pz_set [.ref 13, .ref 14, .ref 15, .ref 16, .ref 17, .ref 18, .ref 19, .int (A 1 0), .int (A 1 3), .int (A 1 4), .int (A 1 2), .int (A 1 5), .int (A 1 1), .ref 1] 11 (.int v)))) = mem (va_up A 1 (upd (A 1) 5 v)) F X := by
  rw [memx1_u, qt_h_u (by omega), qt_w_u (by omega), qt_p_u (by omega), qt_k_u (fun i hi => by omega), qt_l_u (fun i hi => by omega), qt_a_u (fun i hi => by omega), qt_r_u (by omega)]
  rfl
theorem mf_tex1 (v : Int32) : pz_set (mem A F X) 12 (.inr (.inr (5, pz_set [.ref 13, .ref 14, .ref 15, .ref 16, .ref 17, .ref 18, .ref 19, .int (A 1 0), .int (A 1 3), .int (A 1 4), .int (A 1 2), .int (A 1 5), .int (A 1 1), .ref 1] 12 (.int v)))) = mem (va_up A 1 (upd (A 1) 1 v)) F X := by
  rw [memx1_u, qt_h_u (by omega), qt_w_u (by omega), qt_p_u (by omega), qt_k_u (fun i hi => by omega), qt_l_u (fun i hi => by omega), qt_a_u (fun i hi => by omega), qt_r_u (by omega)]
  rfl
def memx2 (A : qA) (F : qF) (X : qX) (c0 c1 c2 c3 c4 c5 c6 c7 : pz_E) : pz_M := [
  .inr (.inr (7, [.ref 1, .ref 4, .ref 12, .ref 20, .ref 28, .ref 36, .ref 40, .ref 43, .ref 44, .ref 45, .int (F 0), .int (F 1)])),
  .inr (.inr (0, [.ref 2, .ref 3])), .inr (.inl (2, 14, X.1)), qi 96 (A 4),
  qt_o 4 (A 0), qt_h (A 0), qt_w (A 0), qt_p (A 0), qt_k (A 0), qt_l (A 0), qt_a (A 0), qt_r (A 0),
  qt_o 12 (A 1), qt_h (A 1), qt_w (A 1), qt_p (A 1), qt_k (A 1), qt_l (A 1), qt_a (A 1), qt_r (A 1),
  c0, c1, c2, c3, c4, c5, c6, c7,
  qt_o 28 (A 3), qt_h (A 3), qt_w (A 3), qt_p (A 3), qt_k (A 3), qt_l (A 3), qt_a (A 3), qt_r (A 3),
  .inr (.inr (1, [.ref X.2.1, .int (F 2), .ref 39, .int (F 3), .int (F 4), .int (F 5), .int (F 6), .int (F 7)])), qx_o X 0 38, qx_c X 0, .inl (1, 96, A 5),
  .inr (.inr (6, [.ref 41, .ref 42])), qi 36 (A 6), qi 36 (A 7),
  .inr (.inl (3, 4, fun i => match i with | 0 => some 46 | 1 => some 48 | 2 => some 50 | 3 => some 52 | _ => none)), .inr (.inl (4, 5, fun i => match i with | 0 => some 54 | 1 => some 57 | 2 => some 60 | 3 => some 63 | 4 => some 66 | _ => none)), qi 60 (A 8),
  qs_o F 47 10 14, qi 24 (A 10), qs_o F 49 11 15, qi 24 (A 11), qs_o F 51 12 16, qi 24 (A 12), qs_o F 53 13 17, qi 24 (A 13),
  ql_o F 55 0, qs_o F 56 40 45, qi 24 (A 14), ql_o F 58 1, qs_o F 59 41 46, qi 24 (A 15), ql_o F 61 2, qs_o F 62 42 47, qi 24 (A 16), ql_o F 64 3, qs_o F 65 43 48, qi 24 (A 17), ql_o F 67 4, qs_o F 68 44 49, qi 24 (A 18),
  .inr (.inr (8, [.ref 70, .ref 71, .ref 72, .int (F 60), .ref 73, .ref 74, .ref 75, .ref 76, .ref 77, .ref 78, .ref 79, .ref 80, .ref 81, .ref 82, .ref 83, .ref 84, .int (F 61), .int (F 62), .int (F 63), .int (F 64), .int (F 65), .int (F 66), .int (F 67), .int (F 68), .int (F 69), .int (F 70), .int (F 71), .ref 85, .ref 86, .ref 87, .ref 88, .int (F 72), .ref 89])),
  qi 3142 (A 20), qi 3142 (A 21), qi 3142 (A 22), qi 4 (A 23), qi 4 (A 24), qi 96 (A 25), qi 5 (A 26), qi 5 (A 27), qi 5 (A 28), qi 5 (A 29), qi 120 (A 30), qi 36 (A 31), qi 36 (A 32), qi 142 (A 33), qi 96 (A 34), qi 128 (A 35), qi 100 (A 36), qi 24 (A 37), qi 60 (A 38), qi 60 (A 39)] ++ qx_t X X.2.2.1 1
theorem memx2_s : mem A F X = memx2 A F X (qt_o 20 (A 2)) (qt_h (A 2)) (qt_w (A 2)) (qt_p (A 2)) (qt_k (A 2)) (qt_l (A 2)) (qt_a (A 2)) (qt_r (A 2)) := rfl
theorem memx2_u (t : Nat → Int32) : mem (va_up A 2 t) F X = memx2 A F X (qt_o 20 t) (qt_h t) (qt_w t) (qt_p t) (qt_k t) (qt_l t) (qt_a t) (qt_r t) := rfl
theorem mh2 {c : Nat} (hc : c < 36) (v : Int32) : pz_set (mem A F X) 21 (.inl (0, 36, upd (qm 36 10 1 (A 2)) c v)) = mem (va_up A 2 (upd (A 2) (10 + c) v)) F X := by
  have e : qt_h (upd (A 2) (10 + c) v) = .inl (0, 36, upd (qm 36 10 1 (A 2)) c v) := by
    unfold qt_h
    rw [← qm_in (by omega) hc, show 10 + 1 * c = 10 + c by omega]
  rw [memx2_u, qt_o_u (by omega), qt_w_u (by omega), qt_p_u (by omega), qt_k_u (fun i hi => by omega), qt_l_u (fun i hi => by omega), qt_a_u (fun i hi => by omega), qt_r_u (by omega), e]
  rfl
theorem mw2 {c : Nat} (hc : c < 36) (v : Int32) : pz_set (mem A F X) 22 (.inl (0, 36, upd (qm 36 46 1 (A 2)) c v)) = mem (va_up A 2 (upd (A 2) (46 + c) v)) F X := by
  have e : qt_w (upd (A 2) (46 + c) v) = .inl (0, 36, upd (qm 36 46 1 (A 2)) c v) := by
    unfold qt_w
    rw [← qm_in (by omega) hc, show 46 + 1 * c = 46 + c by omega]
  rw [memx2_u, qt_o_u (by omega), qt_h_u (by omega), qt_p_u (by omega), qt_k_u (fun i hi => by omega), qt_l_u (fun i hi => by omega), qt_a_u (fun i hi => by omega), qt_r_u (by omega), e]
  rfl
theorem mp2 {c : Nat} (hc : c < 36) (v : Int32) : pz_set (mem A F X) 23 (.inl (0, 36, upd (qm 36 82 1 (A 2)) c v)) = mem (va_up A 2 (upd (A 2) (82 + c) v)) F X := by
  have e : qt_p (upd (A 2) (82 + c) v) = .inl (0, 36, upd (qm 36 82 1 (A 2)) c v) := by
    unfold qt_p
    rw [← qm_in (by omega) hc, show 82 + 1 * c = 82 + c by omega]
  rw [memx2_u, qt_o_u (by omega), qt_h_u (by omega), qt_w_u (by omega), qt_k_u (fun i hi => by omega), qt_l_u (fun i hi => by omega), qt_a_u (fun i hi => by omega), qt_r_u (by omega), e]
  rfl
theorem mk2 {c : Nat} (hc : c < 8) (v : Int32) : pz_set (mem A F X) 24 (.inl (0, 8, upd (qm 8 118 3 (A 2)) c v)) = mem (va_up A 2 (upd (A 2) (118 + 3 * c + 0) v)) F X := by
  have e : qt_k (upd (A 2) (118 + 3 * c + 0) v) = .inl (0, 8, upd (qm 8 118 3 (A 2)) c v) := by
    unfold qt_k
    rw [← qm_in (by omega) hc, show 118 + 3 * c = 118 + 3 * c + 0 by omega]
  rw [memx2_u, qt_o_u (by omega), qt_h_u (by omega), qt_w_u (by omega), qt_p_u (by omega), qt_l_u (fun i hi => by omega), qt_a_u (fun i hi => by omega), qt_r_u (by omega), e]
  rfl
theorem ml2 {c : Nat} (hc : c < 8) (v : Int32) : pz_set (mem A F X) 25 (.inl (0, 8, upd (qm 8 119 3 (A 2)) c v)) = mem (va_up A 2 (upd (A 2) (118 + 3 * c + 1) v)) F X := by
  have e : qt_l (upd (A 2) (118 + 3 * c + 1) v) = .inl (0, 8, upd (qm 8 119 3 (A 2)) c v) := by
    unfold qt_l
    rw [← qm_in (by omega) hc, show 119 + 3 * c = 118 + 3 * c + 1 by omega]
  rw [memx2_u, qt_o_u (by omega), qt_h_u (by omega), qt_w_u (by omega), qt_p_u (by omega), qt_k_u (fun i hi => by omega), qt_a_u (fun i hi => by omega), qt_r_u (by omega), e]
  rfl
theorem ma2 {c : Nat} (hc : c < 8) (v : Int32) : pz_set (mem A F X) 26 (.inl (0, 8, upd (qm 8 120 3 (A 2)) c v)) = mem (va_up A 2 (upd (A 2) (118 + 3 * c + 2) v)) F X := by
  have e : qt_a (upd (A 2) (118 + 3 * c + 2) v) = .inl (0, 8, upd (qm 8 120 3 (A 2)) c v) := by
    unfold qt_a
    rw [← qm_in (by omega) hc, show 120 + 3 * c = 118 + 3 * c + 2 by omega]
  rw [memx2_u, qt_o_u (by omega), qt_h_u (by omega), qt_w_u (by omega), qt_p_u (by omega), qt_k_u (fun i hi => by omega), qt_l_u (fun i hi => by omega), qt_r_u (by omega), e]
  rfl
theorem mr2 {c : Nat} (hc : c < 4) (v : Int32) : pz_set (mem A F X) 27 (.inl (0, 4, upd (qm 4 6 1 (A 2)) c v)) = mem (va_up A 2 (upd (A 2) (6 + c) v)) F X := by
  have e : qt_r (upd (A 2) (6 + c) v) = .inl (0, 4, upd (qm 4 6 1 (A 2)) c v) := by
    unfold qt_r
    rw [← qm_in (by omega) hc, show 6 + 1 * c = 6 + c by omega]
  rw [memx2_u, qt_o_u (by omega), qt_h_u (by omega), qt_w_u (by omega), qt_p_u (by omega), qt_k_u (fun i hi => by omega), qt_l_u (fun i hi => by omega), qt_a_u (fun i hi => by omega), e]
  rfl
theorem mf_eat2 (v : Int32) : pz_set (mem A F X) 20 (.inr (.inr (5, pz_set [.ref 21, .ref 22, .ref 23, .ref 24, .ref 25, .ref 26, .ref 27, .int (A 2 0), .int (A 2 3), .int (A 2 4), .int (A 2 2), .int (A 2 5), .int (A 2 1), .ref 1] 7 (.int v)))) = mem (va_up A 2 (upd (A 2) 0 v)) F X := by
  rw [memx2_u, qt_h_u (by omega), qt_w_u (by omega), qt_p_u (by omega), qt_k_u (fun i hi => by omega), qt_l_u (fun i hi => by omega), qt_a_u (fun i hi => by omega), qt_r_u (by omega)]
  rfl
theorem mf_pot2 (v : Int32) : pz_set (mem A F X) 20 (.inr (.inr (5, pz_set [.ref 21, .ref 22, .ref 23, .ref 24, .ref 25, .ref 26, .ref 27, .int (A 2 0), .int (A 2 3), .int (A 2 4), .int (A 2 2), .int (A 2 5), .int (A 2 1), .ref 1] 8 (.int v)))) = mem (va_up A 2 (upd (A 2) 3 v)) F X := by
  rw [memx2_u, qt_h_u (by omega), qt_w_u (by omega), qt_p_u (by omega), qt_k_u (fun i hi => by omega), qt_l_u (fun i hi => by omega), qt_a_u (fun i hi => by omega), qt_r_u (by omega)]
  rfl
theorem mf_coo2 (v : Int32) : pz_set (mem A F X) 20 (.inr (.inr (5, pz_set [.ref 21, .ref 22, .ref 23, .ref 24, .ref 25, .ref 26, .ref 27, .int (A 2 0), .int (A 2 3), .int (A 2 4), .int (A 2 2), .int (A 2 5), .int (A 2 1), .ref 1] 9 (.int v)))) = mem (va_up A 2 (upd (A 2) 4 v)) F X := by
  rw [memx2_u, qt_h_u (by omega), qt_w_u (by omega), qt_p_u (by omega), qt_k_u (fun i hi => by omega), qt_l_u (fun i hi => by omega), qt_a_u (fun i hi => by omega), qt_r_u (by omega)]
  rfl
theorem mf_min2 (v : Int32) : pz_set (mem A F X) 20 (.inr (.inr (5, pz_set [.ref 21, .ref 22, .ref 23, .ref 24, .ref 25, .ref 26, .ref 27, .int (A 2 0), .int (A 2 3), .int (A 2 4), .int (A 2 2), .int (A 2 5), .int (A 2 1), .ref 1] 10 (.int v)))) = mem (va_up A 2 (upd (A 2) 2 v)) F X := by
  rw [memx2_u, qt_h_u (by omega), qt_w_u (by omega), qt_p_u (by omega), qt_k_u (fun i hi => by omega), qt_l_u (fun i hi => by omega), qt_a_u (fun i hi => by omega), qt_r_u (by omega)]
  rfl
theorem mf_z2 (v : Int32) : pz_set (mem A F X) 20 (.inr (.inr (5, pz_set [.ref 21, .ref 22, .ref 23, .ref 24, .ref 25, .ref 26, .ref 27, .int (A 2 0), .int (A 2 3), .int (A 2 4), .int (A 2 2), .int (A 2 5), .int (A 2 1), .ref 1] 11 (.int v)))) = mem (va_up A 2 (upd (A 2) 5 v)) F X := by
  rw [memx2_u, qt_h_u (by omega), qt_w_u (by omega), qt_p_u (by omega), qt_k_u (fun i hi => by omega), qt_l_u (fun i hi => by omega), qt_a_u (fun i hi => by omega), qt_r_u (by omega)]
  rfl
theorem mf_tex2 (v : Int32) : pz_set (mem A F X) 20 (.inr (.inr (5, pz_set [.ref 21, .ref 22, .ref 23, .ref 24, .ref 25, .ref 26, .ref 27, .int (A 2 0), .int (A 2 3), .int (A 2 4), .int (A 2 2), .int (A 2 5), .int (A 2 1), .ref 1] 12 (.int v)))) = mem (va_up A 2 (upd (A 2) 1 v)) F X := by
  rw [memx2_u, qt_h_u (by omega), qt_w_u (by omega), qt_p_u (by omega), qt_k_u (fun i hi => by omega), qt_l_u (fun i hi => by omega), qt_a_u (fun i hi => by omega), qt_r_u (by omega)]
  rfl
def memx3 (A : qA) (F : qF) (X : qX) (c0 c1 c2 c3 c4 c5 c6 c7 : pz_E) : pz_M := [
  .inr (.inr (7, [.ref 1, .ref 4, .ref 12, .ref 20, .ref 28, .ref 36, .ref 40, .ref 43, .ref 44, .ref 45, .int (F 0), .int (F 1)])),
  .inr (.inr (0, [.ref 2, .ref 3])), .inr (.inl (2, 14, X.1)), qi 96 (A 4),
  qt_o 4 (A 0), qt_h (A 0), qt_w (A 0), qt_p (A 0), qt_k (A 0), qt_l (A 0), qt_a (A 0), qt_r (A 0),
  qt_o 12 (A 1), qt_h (A 1), qt_w (A 1), qt_p (A 1), qt_k (A 1), qt_l (A 1), qt_a (A 1), qt_r (A 1),
  qt_o 20 (A 2), qt_h (A 2), qt_w (A 2), qt_p (A 2), qt_k (A 2), qt_l (A 2), qt_a (A 2), qt_r (A 2),
  c0, c1, c2, c3, c4, c5, c6, c7,
  .inr (.inr (1, [.ref X.2.1, .int (F 2), .ref 39, .int (F 3), .int (F 4), .int (F 5), .int (F 6), .int (F 7)])), qx_o X 0 38, qx_c X 0, .inl (1, 96, A 5),
  .inr (.inr (6, [.ref 41, .ref 42])), qi 36 (A 6), qi 36 (A 7),
  .inr (.inl (3, 4, fun i => match i with | 0 => some 46 | 1 => some 48 | 2 => some 50 | 3 => some 52 | _ => none)), .inr (.inl (4, 5, fun i => match i with | 0 => some 54 | 1 => some 57 | 2 => some 60 | 3 => some 63 | 4 => some 66 | _ => none)), qi 60 (A 8),
  qs_o F 47 10 14, qi 24 (A 10), qs_o F 49 11 15, qi 24 (A 11), qs_o F 51 12 16, qi 24 (A 12), qs_o F 53 13 17, qi 24 (A 13),
  ql_o F 55 0, qs_o F 56 40 45, qi 24 (A 14), ql_o F 58 1, qs_o F 59 41 46, qi 24 (A 15), ql_o F 61 2, qs_o F 62 42 47, qi 24 (A 16), ql_o F 64 3, qs_o F 65 43 48, qi 24 (A 17), ql_o F 67 4, qs_o F 68 44 49, qi 24 (A 18),
  .inr (.inr (8, [.ref 70, .ref 71, .ref 72, .int (F 60), .ref 73, .ref 74, .ref 75, .ref 76, .ref 77, .ref 78, .ref 79, .ref 80, .ref 81, .ref 82, .ref 83, .ref 84, .int (F 61), .int (F 62), .int (F 63), .int (F 64), .int (F 65), .int (F 66), .int (F 67), .int (F 68), .int (F 69), .int (F 70), .int (F 71), .ref 85, .ref 86, .ref 87, .ref 88, .int (F 72), .ref 89])),
  qi 3142 (A 20), qi 3142 (A 21), qi 3142 (A 22), qi 4 (A 23), qi 4 (A 24), qi 96 (A 25), qi 5 (A 26), qi 5 (A 27), qi 5 (A 28), qi 5 (A 29), qi 120 (A 30), qi 36 (A 31), qi 36 (A 32), qi 142 (A 33), qi 96 (A 34), qi 128 (A 35), qi 100 (A 36), qi 24 (A 37), qi 60 (A 38), qi 60 (A 39)] ++ qx_t X X.2.2.1 1
theorem memx3_s : mem A F X = memx3 A F X (qt_o 28 (A 3)) (qt_h (A 3)) (qt_w (A 3)) (qt_p (A 3)) (qt_k (A 3)) (qt_l (A 3)) (qt_a (A 3)) (qt_r (A 3)) := rfl
theorem memx3_u (t : Nat → Int32) : mem (va_up A 3 t) F X = memx3 A F X (qt_o 28 t) (qt_h t) (qt_w t) (qt_p t) (qt_k t) (qt_l t) (qt_a t) (qt_r t) := rfl
theorem mh3 {c : Nat} (hc : c < 36) (v : Int32) : pz_set (mem A F X) 29 (.inl (0, 36, upd (qm 36 10 1 (A 3)) c v)) = mem (va_up A 3 (upd (A 3) (10 + c) v)) F X := by
  have e : qt_h (upd (A 3) (10 + c) v) = .inl (0, 36, upd (qm 36 10 1 (A 3)) c v) := by
    unfold qt_h
    rw [← qm_in (by omega) hc, show 10 + 1 * c = 10 + c by omega]
  rw [memx3_u, qt_o_u (by omega), qt_w_u (by omega), qt_p_u (by omega), qt_k_u (fun i hi => by omega), qt_l_u (fun i hi => by omega), qt_a_u (fun i hi => by omega), qt_r_u (by omega), e]
  rfl
theorem mw3 {c : Nat} (hc : c < 36) (v : Int32) : pz_set (mem A F X) 30 (.inl (0, 36, upd (qm 36 46 1 (A 3)) c v)) = mem (va_up A 3 (upd (A 3) (46 + c) v)) F X := by
  have e : qt_w (upd (A 3) (46 + c) v) = .inl (0, 36, upd (qm 36 46 1 (A 3)) c v) := by
    unfold qt_w
    rw [← qm_in (by omega) hc, show 46 + 1 * c = 46 + c by omega]
  rw [memx3_u, qt_o_u (by omega), qt_h_u (by omega), qt_p_u (by omega), qt_k_u (fun i hi => by omega), qt_l_u (fun i hi => by omega), qt_a_u (fun i hi => by omega), qt_r_u (by omega), e]
  rfl
theorem mp3 {c : Nat} (hc : c < 36) (v : Int32) : pz_set (mem A F X) 31 (.inl (0, 36, upd (qm 36 82 1 (A 3)) c v)) = mem (va_up A 3 (upd (A 3) (82 + c) v)) F X := by
  have e : qt_p (upd (A 3) (82 + c) v) = .inl (0, 36, upd (qm 36 82 1 (A 3)) c v) := by
    unfold qt_p
    rw [← qm_in (by omega) hc, show 82 + 1 * c = 82 + c by omega]
  rw [memx3_u, qt_o_u (by omega), qt_h_u (by omega), qt_w_u (by omega), qt_k_u (fun i hi => by omega), qt_l_u (fun i hi => by omega), qt_a_u (fun i hi => by omega), qt_r_u (by omega), e]
  rfl
theorem mk3 {c : Nat} (hc : c < 8) (v : Int32) : pz_set (mem A F X) 32 (.inl (0, 8, upd (qm 8 118 3 (A 3)) c v)) = mem (va_up A 3 (upd (A 3) (118 + 3 * c + 0) v)) F X := by
  have e : qt_k (upd (A 3) (118 + 3 * c + 0) v) = .inl (0, 8, upd (qm 8 118 3 (A 3)) c v) := by
    unfold qt_k
    rw [← qm_in (by omega) hc, show 118 + 3 * c = 118 + 3 * c + 0 by omega]
  rw [memx3_u, qt_o_u (by omega), qt_h_u (by omega), qt_w_u (by omega), qt_p_u (by omega), qt_l_u (fun i hi => by omega), qt_a_u (fun i hi => by omega), qt_r_u (by omega), e]
  rfl
theorem ml3 {c : Nat} (hc : c < 8) (v : Int32) : pz_set (mem A F X) 33 (.inl (0, 8, upd (qm 8 119 3 (A 3)) c v)) = mem (va_up A 3 (upd (A 3) (118 + 3 * c + 1) v)) F X := by
  have e : qt_l (upd (A 3) (118 + 3 * c + 1) v) = .inl (0, 8, upd (qm 8 119 3 (A 3)) c v) := by
    unfold qt_l
    rw [← qm_in (by omega) hc, show 119 + 3 * c = 118 + 3 * c + 1 by omega]
  rw [memx3_u, qt_o_u (by omega), qt_h_u (by omega), qt_w_u (by omega), qt_p_u (by omega), qt_k_u (fun i hi => by omega), qt_a_u (fun i hi => by omega), qt_r_u (by omega), e]
  rfl
theorem ma3 {c : Nat} (hc : c < 8) (v : Int32) : pz_set (mem A F X) 34 (.inl (0, 8, upd (qm 8 120 3 (A 3)) c v)) = mem (va_up A 3 (upd (A 3) (118 + 3 * c + 2) v)) F X := by
  have e : qt_a (upd (A 3) (118 + 3 * c + 2) v) = .inl (0, 8, upd (qm 8 120 3 (A 3)) c v) := by
    unfold qt_a
    rw [← qm_in (by omega) hc, show 120 + 3 * c = 118 + 3 * c + 2 by omega]
  rw [memx3_u, qt_o_u (by omega), qt_h_u (by omega), qt_w_u (by omega), qt_p_u (by omega), qt_k_u (fun i hi => by omega), qt_l_u (fun i hi => by omega), qt_r_u (by omega), e]
  rfl
theorem mr3 {c : Nat} (hc : c < 4) (v : Int32) : pz_set (mem A F X) 35 (.inl (0, 4, upd (qm 4 6 1 (A 3)) c v)) = mem (va_up A 3 (upd (A 3) (6 + c) v)) F X := by
  have e : qt_r (upd (A 3) (6 + c) v) = .inl (0, 4, upd (qm 4 6 1 (A 3)) c v) := by
    unfold qt_r
    rw [← qm_in (by omega) hc, show 6 + 1 * c = 6 + c by omega]
  rw [memx3_u, qt_o_u (by omega), qt_h_u (by omega), qt_w_u (by omega), qt_p_u (by omega), qt_k_u (fun i hi => by omega), qt_l_u (fun i hi => by omega), qt_a_u (fun i hi => by omega), e]
  rfl
theorem mf_eat3 (v : Int32) : pz_set (mem A F X) 28 (.inr (.inr (5, pz_set [.ref 29, .ref 30, .ref 31, .ref 32, .ref 33, .ref 34, .ref 35, .int (A 3 0), .int (A 3 3), .int (A 3 4), .int (A 3 2), .int (A 3 5), .int (A 3 1), .ref 1] 7 (.int v)))) = mem (va_up A 3 (upd (A 3) 0 v)) F X := by
  rw [memx3_u, qt_h_u (by omega), qt_w_u (by omega), qt_p_u (by omega), qt_k_u (fun i hi => by omega), qt_l_u (fun i hi => by omega), qt_a_u (fun i hi => by omega), qt_r_u (by omega)]
  rfl
theorem mf_pot3 (v : Int32) : pz_set (mem A F X) 28 (.inr (.inr (5, pz_set [.ref 29, .ref 30, .ref 31, .ref 32, .ref 33, .ref 34, .ref 35, .int (A 3 0), .int (A 3 3), .int (A 3 4), .int (A 3 2), .int (A 3 5), .int (A 3 1), .ref 1] 8 (.int v)))) = mem (va_up A 3 (upd (A 3) 3 v)) F X := by
  rw [memx3_u, qt_h_u (by omega), qt_w_u (by omega), qt_p_u (by omega), qt_k_u (fun i hi => by omega), qt_l_u (fun i hi => by omega), qt_a_u (fun i hi => by omega), qt_r_u (by omega)]
  rfl
theorem mf_coo3 (v : Int32) : pz_set (mem A F X) 28 (.inr (.inr (5, pz_set [.ref 29, .ref 30, .ref 31, .ref 32, .ref 33, .ref 34, .ref 35, .int (A 3 0), .int (A 3 3), .int (A 3 4), .int (A 3 2), .int (A 3 5), .int (A 3 1), .ref 1] 9 (.int v)))) = mem (va_up A 3 (upd (A 3) 4 v)) F X := by
  rw [memx3_u, qt_h_u (by omega), qt_w_u (by omega), qt_p_u (by omega), qt_k_u (fun i hi => by omega), qt_l_u (fun i hi => by omega), qt_a_u (fun i hi => by omega), qt_r_u (by omega)]
  rfl
theorem mf_min3 (v : Int32) : pz_set (mem A F X) 28 (.inr (.inr (5, pz_set [.ref 29, .ref 30, .ref 31, .ref 32, .ref 33, .ref 34, .ref 35, .int (A 3 0), .int (A 3 3), .int (A 3 4), .int (A 3 2), .int (A 3 5), .int (A 3 1), .ref 1] 10 (.int v)))) = mem (va_up A 3 (upd (A 3) 2 v)) F X := by
  rw [memx3_u, qt_h_u (by omega), qt_w_u (by omega), qt_p_u (by omega), qt_k_u (fun i hi => by omega), qt_l_u (fun i hi => by omega), qt_a_u (fun i hi => by omega), qt_r_u (by omega)]
  rfl
theorem mf_z3 (v : Int32) : pz_set (mem A F X) 28 (.inr (.inr (5, pz_set [.ref 29, .ref 30, .ref 31, .ref 32, .ref 33, .ref 34, .ref 35, .int (A 3 0), .int (A 3 3), .int (A 3 4), .int (A 3 2), .int (A 3 5), .int (A 3 1), .ref 1] 11 (.int v)))) = mem (va_up A 3 (upd (A 3) 5 v)) F X := by
  rw [memx3_u, qt_h_u (by omega), qt_w_u (by omega), qt_p_u (by omega), qt_k_u (fun i hi => by omega), qt_l_u (fun i hi => by omega), qt_a_u (fun i hi => by omega), qt_r_u (by omega)]
  rfl
theorem mf_tex3 (v : Int32) : pz_set (mem A F X) 28 (.inr (.inr (5, pz_set [.ref 29, .ref 30, .ref 31, .ref 32, .ref 33, .ref 34, .ref 35, .int (A 3 0), .int (A 3 3), .int (A 3 4), .int (A 3 2), .int (A 3 5), .int (A 3 1), .ref 1] 12 (.int v)))) = mem (va_up A 3 (upd (A 3) 1 v)) F X := by
  rw [memx3_u, qt_h_u (by omega), qt_w_u (by omega), qt_p_u (by omega), qt_k_u (fun i hi => by omega), qt_l_u (fun i hi => by omega), qt_a_u (fun i hi => by omega), qt_r_u (by omega)]
  rfl
end POT
