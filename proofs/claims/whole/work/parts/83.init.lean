/-! the constructors of the pot's pieces -/
section POT
variable {Q : pz_Q} {M M0 : pz_M} {r : Nat}
theorem n_at {R : pz_M} (hr : M0.length = r) (k : Nat) : pz_nth (M0 ++ R) (r + k) = pz_nth R k := by
  subst hr
  exact pz_nth_app M0 R k
theorem s_at {R : pz_M} (hr : M0.length = r) (k : Nat) (x : pz_E) : pz_set (M0 ++ R) (r + k) x = M0 ++ pz_set R k x := by
  subst hr
  exact pz_set_app M0 R k x
theorem pz_T_new {φ : pz_V → State → Prop} {κ : pz_K} {u : Nat × Nat} {L : pz_L} {S : List Value} {pc mc ms ci N n k : Nat} {gs : List Value} (hS : pz_S κ pc (pz_new mc ms ci N gs n)) (h1 : u.1 + 1 ≤ mc) (h2 : u.2 + N ≤ ms) (hk : M.length = k) (hb : k < 1000000) (h : pz_T φ κ Q n (u.1 + 1, u.2 + N) L (.ref k :: S) (M ++ [.inr (.inr (ci, gs))])) : pz_T φ κ Q pc u L S M := by
  refine hS φ Q (fun pc u L S M => pz_T φ κ Q pc u L S M) u L _ M ?_ (fun _ _ _ _ _ z => z)
  unfold pz_new
  rw [hk]
  exact ⟨h1, h2, hb, h⟩
theorem pz_T_newa {φ : pz_V → State → Prop} {κ : pz_K} {u : Nat × Nat} {L : pz_L} {S : List Value} {pc mc ms t N n k : Nat} {z : Int32} (hS : pz_S κ pc (pz_newa mc ms t N n)) (hz : z = nI N) (h1 : u.1 + 1 ≤ mc) (h2 : u.2 + N ≤ ms) (hk : M.length = k) (hb : k < 1000000) (h : pz_T φ κ Q n (u.1 + 1, u.2 + N) L (.ref k :: S) (M ++ [.inl (t, N, fun _ => 0)])) : pz_T φ κ Q pc u L (.int z :: S) M := by
  refine hS φ Q (fun pc u L S M => pz_T φ κ Q pc u L S M) u L _ M ?_ (fun _ _ _ _ _ z => z)
  unfold pz_newa
  dsimp only
  rw [hk]
  exact ⟨hz, h1, h2, hb, h⟩
theorem pz_T_newq {φ : pz_V → State → Prop} {κ : pz_K} {u : Nat × Nat} {L : pz_L} {S : List Value} {pc mc ms t N n k : Nat} {z : Int32} (hS : pz_S κ pc (pz_newq mc ms t N n)) (hz : z = nI N) (h1 : u.1 + 1 ≤ mc) (h2 : u.2 + N ≤ ms) (hk : M.length = k) (hb : k < 1000000) (h : pz_T φ κ Q n (u.1 + 1, u.2 + N) L (.ref k :: S) (M ++ [.inr (.inl (t, N, fun _ => none))])) : pz_T φ κ Q pc u L (.int z :: S) M := by
  refine hS φ Q (fun pc u L S M => pz_T φ κ Q pc u L S M) u L _ M ?_ (fun _ _ _ _ _ z => z)
  unfold pz_newq
  dsimp only
  rw [hk]
  exact ⟨hz, h1, h2, hb, h⟩
theorem iA {φ : pz_V → State → Prop} {κ : pz_K} {u : Nat × Nat} {L : pz_L} {S : List Value} {R R1 : pz_M} {fs : List Value} {w : Value} {pa pb mc ms t N n k ci j : Nat} {z : Int32} (hr : M0.length = r) (hS1 : pz_S κ pa (pz_newa mc ms t N pb)) (hS2 : pz_S κ pb (pz_puta ci j n)) (hz : z = nI N) (h1 : u.1 + 1 ≤ mc) (h2 : u.2 + N ≤ ms) (hk : R.length = k) (hb : r + k < 1000000) (h0 : R = .inr (.inr (ci, fs)) :: R1) (hf : pz_nth fs j = some w) (h : pz_T φ κ Q n (u.1 + 1, u.2 + N) L S (M0 ++ (.inr (.inr (ci, pz_set fs j (.ref (r + k)))) :: (R1 ++ [.inl (t, N, fun _ => 0)])))) : pz_T φ κ Q pa u L (.int z :: .ref r :: S) (M0 ++ R) := by
  refine pz_T_newa (k := r + k) hS1 hz h1 h2 (by rw [List.length_append, hr, hk]) hb ?_
  rw [List.append_assoc]
  refine pz_T_puta hS2 (fs := fs) (by rw [h0]; exact n_at hr 0) hf ?_
  rw [show pz_set (M0 ++ (R ++ [.inl (t, N, fun _ => 0)])) r _ = _ from s_at hr 0 _, h0]
  exact h
theorem iQ {φ : pz_V → State → Prop} {κ : pz_K} {u : Nat × Nat} {L : pz_L} {S : List Value} {R R1 : pz_M} {fs : List Value} {w : Value} {pa pb mc ms t N n k ci j : Nat} {z : Int32} (hr : M0.length = r) (hS1 : pz_S κ pa (pz_newq mc ms t N pb)) (hS2 : pz_S κ pb (pz_puta ci j n)) (hz : z = nI N) (h1 : u.1 + 1 ≤ mc) (h2 : u.2 + N ≤ ms) (hk : R.length = k) (hb : r + k < 1000000) (h0 : R = .inr (.inr (ci, fs)) :: R1) (hf : pz_nth fs j = some w) (h : pz_T φ κ Q n (u.1 + 1, u.2 + N) L S (M0 ++ (.inr (.inr (ci, pz_set fs j (.ref (r + k)))) :: (R1 ++ [.inr (.inl (t, N, fun _ => none))])))) : pz_T φ κ Q pa u L (.int z :: .ref r :: S) (M0 ++ R) := by
  refine pz_T_newq (k := r + k) hS1 hz h1 h2 (by rw [List.length_append, hr, hk]) hb ?_
  rw [List.append_assoc]
  refine pz_T_puta hS2 (fs := fs) (by rw [h0]; exact n_at hr 0) hf ?_
  rw [show pz_set (M0 ++ (R ++ [.inr (.inl (t, N, fun _ => none))])) r _ = _ from s_at hr 0 _, h0]
  exact h
theorem cI6 (hr : M0.length = r) (hb : r < 999000) (h : Q none (M0 ++ [.inr (.inr (4, [.ref (r + 1), .int 0, .int 0, .int 0])), .inl (0, 96, fun _ => 0)])) : pz_C yX6_init KX6_init [.ref r] (M0 ++ [.inr (.inr (4, nf_4))]) Q := by
  subst hr
  exact cX_init hb h
set_option maxRecDepth 8000 in
theorem cI1 (hr : M0.length = r) (hb : r < 999000) (h : Q none (M0 ++ [.inr (.inr (0, [.ref (r + 1), .ref (r + 2)])), .inr (.inl (2, 14, fun _ => none)), .inl (0, 96, fun _ => 0)])) : pz_C yX1_init KX1_init [.ref r] (M0 ++ [.inr (.inr (0, nf_0))]) Q := by
  refine pz_C_of rfl rfl rfl (Nat.le_of_ble_eq_true rfl) (pz_wp_ok (pz_Is_ok SX1_init) [7] 100 ?_)
  refine iQ hr (fs := [.null, .null]) (pz_Is_ok SX1_init (7, pz_newq 2 110 2 14 10) (List.mem_of_getElem? (i := 4) rfl)) (pz_Is_ok SX1_init (10, pz_puta 0 0 13) (List.mem_of_getElem? (i := 5) rfl)) rfl (by decide) (by decide) (k := 1) rfl (by omega) rfl rfl ?_
  refine qT (M' := M0 ++ [.inr (.inr (0, [.ref (r + 1), .null])), .inr (.inl (2, 14, fun _ => none))]) ?_ rfl rfl rfl
  refine pz_wp_ok (pz_Is_ok SX1_init) [16] 100 ?_
  refine iA hr (fs := [.ref (r + 1), .null]) (pz_Is_ok SX1_init (16, pz_newa 2 110 0 96 18) (List.mem_of_getElem? (i := 8) rfl)) (pz_Is_ok SX1_init (18, pz_puta 0 1 21) (List.mem_of_getElem? (i := 9) rfl)) rfl (by decide) (by decide) (k := 2) rfl (by omega) rfl rfl ?_
  refine qT (M' := M0 ++ [.inr (.inr (0, [.ref (r + 1), .ref (r + 2)])), .inr (.inl (2, 14, fun _ => none)), .inl (0, 96, fun _ => 0)]) ?_ rfl rfl rfl
  refine pz_wp_ok (pz_Is_ok SX1_init) [] 100 ?_
  exact h
set_option maxRecDepth 8000 in
theorem cI8 (hr : M0.length = r) (hb : r < 999000) (h : Q none (M0 ++ [.inr (.inr (6, [.ref (r + 1), .ref (r + 2)])), .inl (0, 36, fun _ => 0), .inl (0, 36, fun _ => 0)])) : pz_C yX8_init KX8_init [.ref r] (M0 ++ [.inr (.inr (6, nf_6))]) Q := by
  refine pz_C_of rfl rfl rfl (Nat.le_of_ble_eq_true rfl) (pz_wp_ok (pz_Is_ok SX8_init) [7] 100 ?_)
  refine iA hr (fs := [.null, .null]) (pz_Is_ok SX8_init (7, pz_newa 2 72 0 36 9) (List.mem_of_getElem? (i := 4) rfl)) (pz_Is_ok SX8_init (9, pz_puta 6 0 12) (List.mem_of_getElem? (i := 5) rfl)) rfl (by decide) (by decide) (k := 1) rfl (by omega) rfl rfl ?_
  refine qT (M' := M0 ++ [.inr (.inr (6, [.ref (r + 1), .null])), .inl (0, 36, fun _ => 0)]) ?_ rfl rfl rfl
  refine pz_wp_ok (pz_Is_ok SX8_init) [15] 100 ?_
  refine iA hr (fs := [.ref (r + 1), .null]) (pz_Is_ok SX8_init (15, pz_newa 2 72 0 36 17) (List.mem_of_getElem? (i := 8) rfl)) (pz_Is_ok SX8_init (17, pz_puta 6 1 20) (List.mem_of_getElem? (i := 9) rfl)) rfl (by decide) (by decide) (k := 2) rfl (by omega) rfl rfl ?_
  refine qT (M' := M0 ++ [.inr (.inr (6, [.ref (r + 1), .ref (r + 2)])), .inl (0, 36, fun _ => 0), .inl (0, 36, fun _ => 0)]) ?_ rfl rfl rfl
  refine pz_wp_ok (pz_Is_ok SX8_init) [] 100 ?_
  exact h
set_option maxRecDepth 8000 in
theorem cI4 (hr : M0.length = r) (hb : r < 999000) (h : Q none (M0 ++ [.inr (.inr (2, [.ref (r + 1), .int (-1), .int 0])), .inl (0, 24, fun _ => 0)])) : pz_C yX4_init KX4_init [.ref r] (M0 ++ [.inr (.inr (2, nf_2))]) Q := by
  refine pz_C_of rfl rfl rfl (Nat.le_of_ble_eq_true rfl) (pz_wp_ok (pz_Is_ok SX4_init) [7] 100 ?_)
  refine iA hr (fs := [.null, .int 0, .int 0]) (pz_Is_ok SX4_init (7, pz_newa 1 24 0 24 9) (List.mem_of_getElem? (i := 4) rfl)) (pz_Is_ok SX4_init (9, pz_puta 2 0 12) (List.mem_of_getElem? (i := 5) rfl)) rfl (by decide) (by decide) (k := 1) rfl (by omega) rfl rfl ?_
  refine qT (M' := M0 ++ [.inr (.inr (2, [.ref (r + 1), .int 0, .int 0])), .inl (0, 24, fun _ => 0)]) ?_ rfl rfl rfl
  refine pz_wp_ok (pz_Is_ok SX4_init) [14] 100 ?_
  refine pz_T_puti (r := r) (fs := [.ref (r + 1), .int 0, .int 0]) (pz_Is_ok SX4_init (14, pz_puti 2 1 17) (List.mem_of_getElem? (i := 8) rfl)) (n_at hr 0) rfl ?_
  rw [show pz_set (M0 ++ [.inr (.inr (2, [.ref (r + 1), .int 0, .int 0])), .inl (0, 24, fun _ => 0)]) r _ = _ from s_at hr 0 _]
  refine pz_wp_ok (pz_Is_ok SX4_init) [] 100 ?_
  exact h
set_option maxRecDepth 8000 in
theorem cI5 (hr : M0.length = r) (hb : r < 998000) (h : Q none (M0 ++ [.inr (.inr (3, [.int 0, .int 0, .int 0, .int 0, .ref (r + 1)])), .inr (.inr (2, [.ref (r + 1 + 1), .int (-1), .int 0])), .inl (0, 24, fun _ => 0)])) : pz_C yX5_init KX5_init [.ref r] (M0 ++ [.inr (.inr (3, nf_3))]) Q := by
  have hl : (M0 ++ [(.inr (.inr (3, nf_3)) : pz_E)]).length = r + 1 := by rw [List.length_append, hr, List.length_singleton]
  refine pz_C_of rfl rfl rfl (Nat.le_of_ble_eq_true rfl) (pz_wp_ok (pz_Is_ok SX5_init) [5] 100 ?_)
  refine pz_T_new (k := r + 1) (pz_Is_ok SX5_init (5, pz_new 2 27 2 3 nf_2 8) (List.mem_of_getElem? (i := 3) rfl)) (by decide) (by decide) hl (by omega) ?_
  refine pz_wp_ok (pz_Is_ok SX5_init) [9] 100 ?_
  refine pz_T_ci (r := r + 1) (av := []) (pz_Is_ok SX5_init (9, pz_ci 2 27 yX4_init KX4_init 1 12) (List.mem_of_getElem? (i := 5) rfl)) rfl (by omega) rfl (by decide) (by decide) ?_
  refine cI4 hl (by omega) ?_
  rw [List.append_assoc]
  refine pz_T_puta (M := M0 ++ ([(.inr (.inr (3, nf_3)) : pz_E)] ++ [.inr (.inr (2, [.ref (r + 1 + 1), .int (-1), .int 0])), .inl (0, 24, fun _ => 0)])) (r := r) (fs := nf_3) (pz_Is_ok SX5_init (12, pz_puta 3 4 15) (List.mem_of_getElem? (i := 6) rfl)) (n_at hr 0) rfl ?_
  rw [show pz_set (M0 ++ ([(.inr (.inr (3, nf_3)) : pz_E)] ++ [.inr (.inr (2, [.ref (r + 1 + 1), .int (-1), .int 0])), .inl (0, 24, fun _ => 0)])) r _ = _ from s_at hr 0 _]
  refine pz_wp_ok (pz_Is_ok SX5_init) [] 100 ?_
  exact h
set_option maxRecDepth 8000 in
theorem cI3 (hr : M0.length = r) (hb : r < 998000) (h : Q none (M0 ++ [.inr (.inr (1, [.ref (r + 1), .int 0, .ref (r + 3), .int 0, .int 0, .int 0, .int 0, .int 0])), .inr (.inr (4, [.ref (r + 1 + 1), .int 0, .int 0, .int 0])), .inl (0, 96, fun _ => 0), .inl (1, 96, fun _ => 0)])) : pz_C yX3_init KX3_init [.ref r] (M0 ++ [.inr (.inr (1, nf_1))]) Q := by
  have hl : (M0 ++ [(.inr (.inr (1, nf_1)) : pz_E)]).length = r + 1 := by rw [List.length_append, hr, List.length_singleton]
  refine pz_C_of rfl rfl rfl (Nat.le_of_ble_eq_true rfl) (pz_wp_ok (pz_Is_ok SX3_init) [5] 100 ?_)
  refine pz_T_new (k := r + 1) (pz_Is_ok SX3_init (5, pz_new 3 196 4 4 nf_4 8) (List.mem_of_getElem? (i := 3) rfl)) (by decide) (by decide) hl (by omega) ?_
  refine pz_wp_ok (pz_Is_ok SX3_init) [9] 100 ?_
  refine pz_T_ci (r := r + 1) (av := []) (pz_Is_ok SX3_init (9, pz_ci 3 196 yX6_init KX6_init 1 12) (List.mem_of_getElem? (i := 5) rfl)) rfl (by omega) rfl (by decide) (by decide) ?_
  refine cI6 hl (by omega) ?_
  rw [List.append_assoc]
  refine pz_T_puta (M := M0 ++ ([(.inr (.inr (1, nf_1)) : pz_E)] ++ [.inr (.inr (4, [.ref (r + 1 + 1), .int 0, .int 0, .int 0])), .inl (0, 96, fun _ => 0)])) (r := r) (fs := nf_1) (pz_Is_ok SX3_init (12, pz_puta 1 0 15) (List.mem_of_getElem? (i := 6) rfl)) (n_at hr 0) rfl ?_
  rw [show pz_set (M0 ++ ([(.inr (.inr (1, nf_1)) : pz_E)] ++ [.inr (.inr (4, [.ref (r + 1 + 1), .int 0, .int 0, .int 0])), .inl (0, 96, fun _ => 0)])) r _ = _ from s_at hr 0 _]
  refine qT (M' := M0 ++ [.inr (.inr (1, [.ref (r + 1), .int 0, .null, .int 0, .int 0, .int 0, .int 0, .int 0])), .inr (.inr (4, [.ref (r + 1 + 1), .int 0, .int 0, .int 0])), .inl (0, 96, fun _ => 0)]) ?_ rfl rfl rfl
  refine pz_wp_ok (pz_Is_ok SX3_init) [18] 100 ?_
  refine iA hr (fs := [.ref (r + 1), .int 0, .null, .int 0, .int 0, .int 0, .int 0, .int 0]) (pz_Is_ok SX3_init (18, pz_newa 3 196 1 96 20) (List.mem_of_getElem? (i := 9) rfl)) (pz_Is_ok SX3_init (20, pz_puta 1 2 23) (List.mem_of_getElem? (i := 10) rfl)) rfl (by decide) (by decide) (k := 3) rfl (by omega) rfl rfl ?_
  refine pz_wp_ok (pz_Is_ok SX3_init) [] 100 ?_
  exact h
def t_0 : Nat → Int32 := upd (upd (upd (fun _ => 0) 5 1) 6 7) 7 20
theorem t_0_0 {j : Nat} (h : j < 5 ∨ 7 < j) : t_0 j = 0 := by
  unfold t_0
  rw [upd_ne _ _ (by omega), upd_ne _ _ (by omega), upd_ne _ _ (by omega)]
theorem qm_0 {n o s : Nat} (h : 7 < o) : qm n o s t_0 = fun _ => 0 := by
  funext j
  unfold qm
  by_cases g : j < n
  · rw [if_pos g, t_0_0 (Or.inr (by omega))]
  · rw [if_neg g]
theorem qm_r : qm 4 6 1 t_0 = (upd (upd (upd (upd (fun _ => 0) 0 7) 1 20) 2 0) 3 0) := by
  funext j
  match j with
  | 0 => rfl
  | 1 => rfl
  | 2 => rfl
  | 3 => rfl
  | k + 4 =>
    unfold qm
    rw [if_neg (by omega), upd_ne _ _ (by omega), upd_ne _ _ (by omega), upd_ne _ _ (by omega), upd_ne _ _ (by omega)]
set_option maxRecDepth 8000 in
theorem cI7 {v : Nat} (hr : M0.length = r) (hb : r < 998000) (h : Q none (M0 ++ [.inr (.inr (5, [.ref (r + 1), .ref (r + 2), .ref (r + 3), .ref (r + 4), .ref (r + 5), .ref (r + 6), .ref (r + 7), .int 0, .int 0, .int 0, .int 0, .int 1, .int 0, .ref v])), qt_h t_0, qt_w t_0, qt_p t_0, qt_k t_0, qt_l t_0, qt_a t_0, qt_r t_0])) : pz_C yX7_init KX7_init [.ref r, .ref v] (M0 ++ [.inr (.inr (5, nf_5))]) Q := by
  unfold qt_h qt_w qt_p qt_k qt_l qt_a qt_r at h
  rw [qm_0 (by omega), qm_0 (by omega), qm_0 (by omega), qm_0 (by omega), qm_0 (by omega), qm_0 (by omega), qm_r] at h
  refine pz_C_of rfl rfl rfl (Nat.le_of_ble_eq_true rfl) (pz_wp_ok (pz_Is_ok SX7_init) [7] 100 ?_)
  refine iA hr (fs := [.null, .null, .null, .null, .null, .null, .null, .int 0, .int 0, .int 0, .int 0, .int 0, .int 0, .null]) (pz_Is_ok SX7_init (7, pz_newa 7 136 0 36 9) (List.mem_of_getElem? (i := 4) rfl)) (pz_Is_ok SX7_init (9, pz_puta 5 0 12) (List.mem_of_getElem? (i := 5) rfl)) rfl (by decide) (by decide) (k := 1) rfl (by omega) rfl rfl ?_
  refine qT (M' := M0 ++ [.inr (.inr (5, [.ref (r + 1), .null, .null, .null, .null, .null, .null, .int 0, .int 0, .int 0, .int 0, .int 0, .int 0, .null])), .inl (0, 36, fun _ => 0)]) ?_ rfl rfl rfl
  refine pz_wp_ok (pz_Is_ok SX7_init) [15] 100 ?_
  refine iA hr (fs := [.ref (r + 1), .null, .null, .null, .null, .null, .null, .int 0, .int 0, .int 0, .int 0, .int 0, .int 0, .null]) (pz_Is_ok SX7_init (15, pz_newa 7 136 0 36 17) (List.mem_of_getElem? (i := 8) rfl)) (pz_Is_ok SX7_init (17, pz_puta 5 1 20) (List.mem_of_getElem? (i := 9) rfl)) rfl (by decide) (by decide) (k := 2) rfl (by omega) rfl rfl ?_
  refine qT (M' := M0 ++ [.inr (.inr (5, [.ref (r + 1), .ref (r + 2), .null, .null, .null, .null, .null, .int 0, .int 0, .int 0, .int 0, .int 0, .int 0, .null])), .inl (0, 36, fun _ => 0), .inl (0, 36, fun _ => 0)]) ?_ rfl rfl rfl
  refine pz_wp_ok (pz_Is_ok SX7_init) [23] 100 ?_
  refine iA hr (fs := [.ref (r + 1), .ref (r + 2), .null, .null, .null, .null, .null, .int 0, .int 0, .int 0, .int 0, .int 0, .int 0, .null]) (pz_Is_ok SX7_init (23, pz_newa 7 136 0 36 25) (List.mem_of_getElem? (i := 12) rfl)) (pz_Is_ok SX7_init (25, pz_puta 5 2 28) (List.mem_of_getElem? (i := 13) rfl)) rfl (by decide) (by decide) (k := 3) rfl (by omega) rfl rfl ?_
  refine qT (M' := M0 ++ [.inr (.inr (5, [.ref (r + 1), .ref (r + 2), .ref (r + 3), .null, .null, .null, .null, .int 0, .int 0, .int 0, .int 0, .int 0, .int 0, .null])), .inl (0, 36, fun _ => 0), .inl (0, 36, fun _ => 0), .inl (0, 36, fun _ => 0)]) ?_ rfl rfl rfl
  refine pz_wp_ok (pz_Is_ok SX7_init) [31] 100 ?_
  refine iA hr (fs := [.ref (r + 1), .ref (r + 2), .ref (r + 3), .null, .null, .null, .null, .int 0, .int 0, .int 0, .int 0, .int 0, .int 0, .null]) (pz_Is_ok SX7_init (31, pz_newa 7 136 0 8 33) (List.mem_of_getElem? (i := 16) rfl)) (pz_Is_ok SX7_init (33, pz_puta 5 3 36) (List.mem_of_getElem? (i := 17) rfl)) rfl (by decide) (by decide) (k := 4) rfl (by omega) rfl rfl ?_
  refine qT (M' := M0 ++ [.inr (.inr (5, [.ref (r + 1), .ref (r + 2), .ref (r + 3), .ref (r + 4), .null, .null, .null, .int 0, .int 0, .int 0, .int 0, .int 0, .int 0, .null])), .inl (0, 36, fun _ => 0), .inl (0, 36, fun _ => 0), .inl (0, 36, fun _ => 0), .inl (0, 8, fun _ => 0)]) ?_ rfl rfl rfl
  refine pz_wp_ok (pz_Is_ok SX7_init) [39] 100 ?_
  refine iA hr (fs := [.ref (r + 1), .ref (r + 2), .ref (r + 3), .ref (r + 4), .null, .null, .null, .int 0, .int 0, .int 0, .int 0, .int 0, .int 0, .null]) (pz_Is_ok SX7_init (39, pz_newa 7 136 0 8 41) (List.mem_of_getElem? (i := 20) rfl)) (pz_Is_ok SX7_init (41, pz_puta 5 4 44) (List.mem_of_getElem? (i := 21) rfl)) rfl (by decide) (by decide) (k := 5) rfl (by omega) rfl rfl ?_
  refine qT (M' := M0 ++ [.inr (.inr (5, [.ref (r + 1), .ref (r + 2), .ref (r + 3), .ref (r + 4), .ref (r + 5), .null, .null, .int 0, .int 0, .int 0, .int 0, .int 0, .int 0, .null])), .inl (0, 36, fun _ => 0), .inl (0, 36, fun _ => 0), .inl (0, 36, fun _ => 0), .inl (0, 8, fun _ => 0), .inl (0, 8, fun _ => 0)]) ?_ rfl rfl rfl
  refine pz_wp_ok (pz_Is_ok SX7_init) [47] 100 ?_
  refine iA hr (fs := [.ref (r + 1), .ref (r + 2), .ref (r + 3), .ref (r + 4), .ref (r + 5), .null, .null, .int 0, .int 0, .int 0, .int 0, .int 0, .int 0, .null]) (pz_Is_ok SX7_init (47, pz_newa 7 136 0 8 49) (List.mem_of_getElem? (i := 24) rfl)) (pz_Is_ok SX7_init (49, pz_puta 5 5 52) (List.mem_of_getElem? (i := 25) rfl)) rfl (by decide) (by decide) (k := 6) rfl (by omega) rfl rfl ?_
  refine qT (M' := M0 ++ [.inr (.inr (5, [.ref (r + 1), .ref (r + 2), .ref (r + 3), .ref (r + 4), .ref (r + 5), .ref (r + 6), .null, .int 0, .int 0, .int 0, .int 0, .int 0, .int 0, .null])), .inl (0, 36, fun _ => 0), .inl (0, 36, fun _ => 0), .inl (0, 36, fun _ => 0), .inl (0, 8, fun _ => 0), .inl (0, 8, fun _ => 0), .inl (0, 8, fun _ => 0)]) ?_ rfl rfl rfl
  refine pz_wp_ok (pz_Is_ok SX7_init) [54] 100 ?_
  refine pz_T_newa (k := r + 7) (pz_Is_ok SX7_init (54, pz_newa 7 136 0 4 56) (List.mem_of_getElem? (i := 28) rfl)) rfl (by decide) (by decide) (by rw [List.length_append, hr]; rfl) (by omega) ?_
  rw [List.append_assoc]
  refine qT (M' := M0 ++ [.inr (.inr (5, [.ref (r + 1), .ref (r + 2), .ref (r + 3), .ref (r + 4), .ref (r + 5), .ref (r + 6), .null, .int 0, .int 0, .int 0, .int 0, .int 0, .int 0, .null])), .inl (0, 36, fun _ => 0), .inl (0, 36, fun _ => 0), .inl (0, 36, fun _ => 0), .inl (0, 8, fun _ => 0), .inl (0, 8, fun _ => 0), .inl (0, 8, fun _ => 0), .inl (0, 4, (fun _ => 0))]) ?_ rfl rfl rfl
  refine pz_wp_ok (pz_Is_ok SX7_init) [60] 100 ?_
  refine pz_T_iast (r := r + 7) (f := (fun _ => 0)) (pz_Is_ok SX7_init (60, pz_iast 61) (List.mem_of_getElem? (i := 32) rfl)) (n_at hr 7) (qin 0 rfl (by omega) (by omega)) ?_
  rw [s_at hr 7]
  refine qT (M' := M0 ++ [.inr (.inr (5, [.ref (r + 1), .ref (r + 2), .ref (r + 3), .ref (r + 4), .ref (r + 5), .ref (r + 6), .null, .int 0, .int 0, .int 0, .int 0, .int 0, .int 0, .null])), .inl (0, 36, fun _ => 0), .inl (0, 36, fun _ => 0), .inl (0, 36, fun _ => 0), .inl (0, 8, fun _ => 0), .inl (0, 8, fun _ => 0), .inl (0, 8, fun _ => 0), .inl (0, 4, (upd (fun _ => 0) 0 7))]) ?_ rfl rfl rfl
  refine pz_wp_ok (pz_Is_ok SX7_init) [65] 100 ?_
  refine pz_T_iast (r := r + 7) (f := (upd (fun _ => 0) 0 7)) (pz_Is_ok SX7_init (65, pz_iast 66) (List.mem_of_getElem? (i := 36) rfl)) (n_at hr 7) (qin 1 rfl (by omega) (by omega)) ?_
  rw [s_at hr 7]
  refine qT (M' := M0 ++ [.inr (.inr (5, [.ref (r + 1), .ref (r + 2), .ref (r + 3), .ref (r + 4), .ref (r + 5), .ref (r + 6), .null, .int 0, .int 0, .int 0, .int 0, .int 0, .int 0, .null])), .inl (0, 36, fun _ => 0), .inl (0, 36, fun _ => 0), .inl (0, 36, fun _ => 0), .inl (0, 8, fun _ => 0), .inl (0, 8, fun _ => 0), .inl (0, 8, fun _ => 0), .inl (0, 4, (upd (upd (fun _ => 0) 0 7) 1 20))]) ?_ rfl rfl rfl
  refine pz_wp_ok (pz_Is_ok SX7_init) [69] 100 ?_
  refine pz_T_iast (r := r + 7) (f := (upd (upd (fun _ => 0) 0 7) 1 20)) (pz_Is_ok SX7_init (69, pz_iast 70) (List.mem_of_getElem? (i := 40) rfl)) (n_at hr 7) (qin 2 rfl (by omega) (by omega)) ?_
  rw [s_at hr 7]
  refine qT (M' := M0 ++ [.inr (.inr (5, [.ref (r + 1), .ref (r + 2), .ref (r + 3), .ref (r + 4), .ref (r + 5), .ref (r + 6), .null, .int 0, .int 0, .int 0, .int 0, .int 0, .int 0, .null])), .inl (0, 36, fun _ => 0), .inl (0, 36, fun _ => 0), .inl (0, 36, fun _ => 0), .inl (0, 8, fun _ => 0), .inl (0, 8, fun _ => 0), .inl (0, 8, fun _ => 0), .inl (0, 4, (upd (upd (upd (fun _ => 0) 0 7) 1 20) 2 0))]) ?_ rfl rfl rfl
  refine pz_wp_ok (pz_Is_ok SX7_init) [73] 100 ?_
  refine pz_T_iast (r := r + 7) (f := (upd (upd (upd (fun _ => 0) 0 7) 1 20) 2 0)) (pz_Is_ok SX7_init (73, pz_iast 74) (List.mem_of_getElem? (i := 44) rfl)) (n_at hr 7) (qin 3 rfl (by omega) (by omega)) ?_
  rw [s_at hr 7]
  refine qT (M' := M0 ++ [.inr (.inr (5, [.ref (r + 1), .ref (r + 2), .ref (r + 3), .ref (r + 4), .ref (r + 5), .ref (r + 6), .null, .int 0, .int 0, .int 0, .int 0, .int 0, .int 0, .null])), .inl (0, 36, fun _ => 0), .inl (0, 36, fun _ => 0), .inl (0, 36, fun _ => 0), .inl (0, 8, fun _ => 0), .inl (0, 8, fun _ => 0), .inl (0, 8, fun _ => 0), .inl (0, 4, (upd (upd (upd (upd (fun _ => 0) 0 7) 1 20) 2 0) 3 0))]) ?_ rfl rfl rfl
  refine pz_T_puta (M := M0 ++ [.inr (.inr (5, [.ref (r + 1), .ref (r + 2), .ref (r + 3), .ref (r + 4), .ref (r + 5), .ref (r + 6), .null, .int 0, .int 0, .int 0, .int 0, .int 0, .int 0, .null])), .inl (0, 36, fun _ => 0), .inl (0, 36, fun _ => 0), .inl (0, 36, fun _ => 0), .inl (0, 8, fun _ => 0), .inl (0, 8, fun _ => 0), .inl (0, 8, fun _ => 0), .inl (0, 4, (upd (upd (upd (upd (fun _ => 0) 0 7) 1 20) 2 0) 3 0))]) (r := r) (fs := [.ref (r + 1), .ref (r + 2), .ref (r + 3), .ref (r + 4), .ref (r + 5), .ref (r + 6), .null, .int 0, .int 0, .int 0, .int 0, .int 0, .int 0, .null]) (pz_Is_ok SX7_init (74, pz_puta 5 6 77) (List.mem_of_getElem? (i := 45) rfl)) (n_at hr 0) rfl ?_
  rw [show pz_set (M0 ++ [.inr (.inr (5, [.ref (r + 1), .ref (r + 2), .ref (r + 3), .ref (r + 4), .ref (r + 5), .ref (r + 6), .null, .int 0, .int 0, .int 0, .int 0, .int 0, .int 0, .null])), .inl (0, 36, fun _ => 0), .inl (0, 36, fun _ => 0), .inl (0, 36, fun _ => 0), .inl (0, 8, fun _ => 0), .inl (0, 8, fun _ => 0), .inl (0, 8, fun _ => 0), .inl (0, 4, (upd (upd (upd (upd (fun _ => 0) 0 7) 1 20) 2 0) 3 0))]) r _ = _ from s_at hr 0 _]
  refine qT (M' := M0 ++ [.inr (.inr (5, [.ref (r + 1), .ref (r + 2), .ref (r + 3), .ref (r + 4), .ref (r + 5), .ref (r + 6), .ref (r + 7), .int 0, .int 0, .int 0, .int 0, .int 0, .int 0, .null])), .inl (0, 36, fun _ => 0), .inl (0, 36, fun _ => 0), .inl (0, 36, fun _ => 0), .inl (0, 8, fun _ => 0), .inl (0, 8, fun _ => 0), .inl (0, 8, fun _ => 0), .inl (0, 4, (upd (upd (upd (upd (fun _ => 0) 0 7) 1 20) 2 0) 3 0))]) ?_ rfl rfl rfl
  refine pz_wp_ok (pz_Is_ok SX7_init) [79] 100 ?_
  refine pz_T_puti (M := M0 ++ [.inr (.inr (5, [.ref (r + 1), .ref (r + 2), .ref (r + 3), .ref (r + 4), .ref (r + 5), .ref (r + 6), .ref (r + 7), .int 0, .int 0, .int 0, .int 0, .int 0, .int 0, .null])), .inl (0, 36, fun _ => 0), .inl (0, 36, fun _ => 0), .inl (0, 36, fun _ => 0), .inl (0, 8, fun _ => 0), .inl (0, 8, fun _ => 0), .inl (0, 8, fun _ => 0), .inl (0, 4, (upd (upd (upd (upd (fun _ => 0) 0 7) 1 20) 2 0) 3 0))]) (r := r) (fs := [.ref (r + 1), .ref (r + 2), .ref (r + 3), .ref (r + 4), .ref (r + 5), .ref (r + 6), .ref (r + 7), .int 0, .int 0, .int 0, .int 0, .int 0, .int 0, .null]) (pz_Is_ok SX7_init (79, pz_puti 5 11 82) (List.mem_of_getElem? (i := 48) rfl)) (n_at hr 0) rfl ?_
  rw [show pz_set (M0 ++ [.inr (.inr (5, [.ref (r + 1), .ref (r + 2), .ref (r + 3), .ref (r + 4), .ref (r + 5), .ref (r + 6), .ref (r + 7), .int 0, .int 0, .int 0, .int 0, .int 0, .int 0, .null])), .inl (0, 36, fun _ => 0), .inl (0, 36, fun _ => 0), .inl (0, 36, fun _ => 0), .inl (0, 8, fun _ => 0), .inl (0, 8, fun _ => 0), .inl (0, 8, fun _ => 0), .inl (0, 4, (upd (upd (upd (upd (fun _ => 0) 0 7) 1 20) 2 0) 3 0))]) r _ = _ from s_at hr 0 _]
  refine qT (M' := M0 ++ [.inr (.inr (5, [.ref (r + 1), .ref (r + 2), .ref (r + 3), .ref (r + 4), .ref (r + 5), .ref (r + 6), .ref (r + 7), .int 0, .int 0, .int 0, .int 0, .int 1, .int 0, .null])), .inl (0, 36, fun _ => 0), .inl (0, 36, fun _ => 0), .inl (0, 36, fun _ => 0), .inl (0, 8, fun _ => 0), .inl (0, 8, fun _ => 0), .inl (0, 8, fun _ => 0), .inl (0, 4, (upd (upd (upd (upd (fun _ => 0) 0 7) 1 20) 2 0) 3 0))]) ?_ rfl rfl rfl
  refine pz_wp_ok (pz_Is_ok SX7_init) [84] 100 ?_
  refine pz_T_puta (M := M0 ++ [.inr (.inr (5, [.ref (r + 1), .ref (r + 2), .ref (r + 3), .ref (r + 4), .ref (r + 5), .ref (r + 6), .ref (r + 7), .int 0, .int 0, .int 0, .int 0, .int 1, .int 0, .null])), .inl (0, 36, fun _ => 0), .inl (0, 36, fun _ => 0), .inl (0, 36, fun _ => 0), .inl (0, 8, fun _ => 0), .inl (0, 8, fun _ => 0), .inl (0, 8, fun _ => 0), .inl (0, 4, (upd (upd (upd (upd (fun _ => 0) 0 7) 1 20) 2 0) 3 0))]) (r := r) (fs := [.ref (r + 1), .ref (r + 2), .ref (r + 3), .ref (r + 4), .ref (r + 5), .ref (r + 6), .ref (r + 7), .int 0, .int 0, .int 0, .int 0, .int 1, .int 0, .null]) (pz_Is_ok SX7_init (84, pz_puta 5 13 87) (List.mem_of_getElem? (i := 51) rfl)) (n_at hr 0) rfl ?_
  rw [show pz_set (M0 ++ [.inr (.inr (5, [.ref (r + 1), .ref (r + 2), .ref (r + 3), .ref (r + 4), .ref (r + 5), .ref (r + 6), .ref (r + 7), .int 0, .int 0, .int 0, .int 0, .int 1, .int 0, .null])), .inl (0, 36, fun _ => 0), .inl (0, 36, fun _ => 0), .inl (0, 36, fun _ => 0), .inl (0, 8, fun _ => 0), .inl (0, 8, fun _ => 0), .inl (0, 8, fun _ => 0), .inl (0, 4, (upd (upd (upd (upd (fun _ => 0) 0 7) 1 20) 2 0) 3 0))]) r _ = _ from s_at hr 0 _]
  refine pz_wp_ok (pz_Is_ok SX7_init) [] 100 ?_
  exact h
end POT
