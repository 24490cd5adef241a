/-! the pot: findsFault, takes, text -/
theorem k_tok_03 (T : Nat → Int32) (n e : Nat) : k_tok T n 0 e = k_tok T n 3 e := by
  rw [k_tok_2, k_tok_2]
  congr 1
theorem k_read_e {T : Nat → Int32} {n e : Nat} (h : k_read T n = .inr e) : e ≤ n := by
  have t1 := (k_tok_ok T (n := n) (e := 0) 3 (by omega)).1
  unfold k_read at h
  cases hk : k_key T (k_tok T n 3 0) with
  | none =>
    rw [hk] at h
    cases h
    exact Nat.le_trans t1.1 t1.2.1
  | some key =>
    rw [hk] at h
    dsimp only at h
    have hs := k_expr_to (k_part_to T n key 17 0 0) (k_nx T n (k_tok T n 3 0, 0, [])) (k_ok_nx (x := (k_tok T n 3 0, 0, [])) t1).1
    cases hy : k_expr T n (k_part T n key 17 0 0) (k_nx T n (k_tok T n 3 0, 0, [])) with
    | inr e' =>
      rw [hy] at h
      cases h
      exact hs.2 _ hy
    | inl y =>
      rw [hy] at h
      dsimp only at h
      have hok := (hs.1 y hy).1
      by_cases g : y.1.1 = 0
      · rw [if_pos g] at h; cases h
      · rw [if_neg g] at h
        cases h
        exact Nat.le_trans hok.1 hok.2.1
theorem qx_t_snoc (X : qX) : ∀ (n s : Nat), qx_t X (n + 1) s = qx_t X n s ++ [qx_o X (s + n) (89 + 2 * (s + n)), qx_c X (s + n)]
  | 0, s => rfl
  | n + 1, s => by
    rw [qx_t, qx_t_snoc X n (s + 1)]
    show _ = qx_o X s (89 + 2 * s) :: qx_c X s :: (qx_t X n (s + 1) ++ [qx_o X (s + (n + 1)) (89 + 2 * (s + (n + 1))), qx_c X (s + (n + 1))])
    rw [show s + 1 + n = s + (n + 1) by omega]
def xN (X : qX) : qX := (X.1, X.2.1, X.2.2.1 + 1, va_up X.2.2.2.1 (X.2.2.1 + 1) (fun _ => 0), va_up X.2.2.2.2 (X.2.2.1 + 1) (fun _ => 0))
theorem mem_grow (A : qA) (F : qF) (X : qX) : mem A F X ++ [.inr (.inr (4, [.ref (90 + 2 * X.2.2.1 + 1), .int 0, .int 0, .int 0])), .inl (0, 96, fun _ => 0)] = mem A F (xN X) := by
  have e1 : mem A F (xN X) = memL A F (xN X) ++ qx_t (xN X) (X.2.2.1 + 1) 1 := mem_L A F (xN X)
  have e2 : memL A F (xN X) = memL A F X := by
    have f1 : ∀ Y : qX, memL A F Y = pz_set (pz_set (memL A F (Y.1, Y.2.1, 0, (fun _ _ => 0), (fun _ _ => 0))) 37 (qx_o Y 0 38)) 38 (qx_c Y 0) := fun Y => rfl
    rw [f1 (xN X), f1 X]
    have g1 : qx_o (xN X) 0 38 = qx_o X 0 38 := by
      unfold qx_o xN
      dsimp only
      rw [vu_ne _ _ (by omega)]
    have g2 : qx_c (xN X) 0 = qx_c X 0 := by
      unfold qx_c xN
      dsimp only
      rw [vu_ne _ _ (by omega)]
    rw [g1, g2]
    rfl
  have e3 : qx_o (xN X) (1 + X.2.2.1) (89 + 2 * (1 + X.2.2.1)) = .inr (.inr (4, [.ref (90 + 2 * X.2.2.1 + 1), .int 0, .int 0, .int 0])) := by
    unfold qx_o xN
    dsimp only
    rw [show 1 + X.2.2.1 = X.2.2.1 + 1 by omega, vu_at, show 89 + 2 * (X.2.2.1 + 1) = 90 + 2 * X.2.2.1 + 1 by omega]
  have e4 : qx_c (xN X) (1 + X.2.2.1) = .inl (0, 96, fun _ => 0) := by
    unfold qx_c xN
    dsimp only
    rw [show 1 + X.2.2.1 = X.2.2.1 + 1 by omega, vu_at]
  rw [e1, e2, qx_t_snoc, e3, e4, qx_t_X (xN X) X X.2.2.1 1 (fun j h1 h2 => ⟨vu_ne _ _ (by omega), vu_ne _ _ (by omega)⟩), ← List.append_assoc, ← mem_L]
section POT
variable {A A1 : qA} {F : qF} {X : qX} {Q : pz_Q} {M : pz_M} {T : Nat → Int32} {n i : Nat}
set_option maxRecDepth 8000 in
theorem cR_finds (hT : rT (A 5) T n) (hn : n ≤ 96) (h2 : F 2 = nI n) (hd : X.2.1 = xr i) (hi : i ≤ X.2.2.1)
    (h1 : ∀ (F' : qF) (X' : qX) (key : Nat) (x : kS), k_read T n = .inl (key, x) → qagF [3, 4, 5, 6, 7] F F' → xag X i X' → X'.2.2.2.2 i 0 = nI x.2.2.length → X'.2.2.2.2 i 1 = nI key → X'.2.2.2.2 i 2 = nI x.2.1 → (∀ k p, x.2.2[k]? = some p → X'.2.2.2.1 i k = encS key p.1 p.2) → Q (some (.int (-1))) (mem A F' X'))
    (h0 : ∀ (F' : qF) (X' : qX) (e : Nat), k_read T n = .inr e → qagF [3, 4, 5, 6, 7] F F' → xag X i X' → Q (some (.int (nI e))) (mem A F' X')) : pz_C yX3_findsFault KX3_findsFault [.ref 36] (mem A F X) Q := by
  have ag0 : qagF [3, 4, 5, 6, 7] F (upd (upd (upd (upd (upd F 3 0) 4 0) 5 0) 6 0) 7 0) := ((((qagF.up (by simp)).trans (qagF.up (by simp))).trans (qagF.up (by simp))).trans (qagF.up (by simp))).trans (qagF.up (by simp))
  have xr0 : xag X i X := ⟨rfl, rfl, rfl, fun j _ => ⟨rfl, rfl⟩⟩
  obtain ⟨t1, -⟩ := k_tok_ok T (n := n) (e := 0) 3 (by omega)
  refine pz_C_of rfl rfl rfl (Nat.le_of_ble_eq_true rfl) (pz_wp_ok (pz_Is_ok SX3_findsFault) [48] 100 ?_)
  refine qC (cR_goesOn (A := A) (F := upd (upd (upd (upd (upd F 3 0) 4 0) 5 0) 6 0) 7 0) (X := X) (srt := 0) (e := 0) hT hn (by omega) (by omega) (by rw [ag0 2 (by simp)]; exact h2) rfl rfl (fun F1 hF1 hR1 => ?_)) rfl rfl
  rw [k_tok_03] at hR1
  have ag1 : qagF [3, 4, 5, 6, 7] F F1 := ag0.trans (fun j hj => hF1 j (by simp at hj ⊢; omega))
  refine cR_key hT hn hR1 t1 ?_
  unfold k_read at h1 h0
  cases hkey : k_key T (k_tok T n 3 0) with
  | none =>
    rw [hkey] at h0
    refine br2 (by decide) ?_
    have h0' := h0 F1 X _ rfl ag1 xr0
    rw [← hR1.2.2.1] at h0'
    exact h0'
  | some key =>
    have hk3 := k_key_lt hkey
    rw [hkey] at h0 h1
    dsimp only at h0 h1
    refine br1 (fun z => z (nI_pos' (by omega))) ?_
    refine pz_T_cv0 (r := X.2.1) (S' := []) (pz_Is_ok SX3_findsFault (48, pz_cv0 yX6_begins KX6_begins 4 2 51) (List.mem_of_getElem? (i := 28) rfl)) rfl (mem_xd hd hi) rfl ?_
    rw [hd]
    refine cX_begins hi ?_
    have hx1 : xag X i (xF X i (upd (upd (upd (X.2.2.2.2 i) 1 (nI key)) 0 0) 2 0)) := xag_uf xr0
    have hG : pG A X T i n key := ⟨hT, hn, hk3, hi, hd⟩
    have hP1 : pP F X i n key F1 (xF X i (upd (upd (upd (X.2.2.2.2 i) 1 (nI key)) 0 0) 2 0)) (k_tok T n 3 0, 0, []) 0 0 := by
      refine ⟨ag1, hx1, hR1, ?_, ?_, ?_, ?_, ?_, fun k p hk => by cases hk⟩
      · rw [hF1 6 (by simp)]; rfl
      · rw [hF1 7 (by simp)]; rfl
      · rw [xF_at, upd_ne _ _ (by omega), upd_at]; rfl
      · rw [xF_at, upd_ne _ _ (by omega), upd_ne _ _ (by omega), upd_at]
      · rw [xF_at, upd_at]; rfl
    show pz_T _ _ _ _ _ _ _ (mem A F1 (xF X i (upd (upd (upd (X.2.2.2.2 i) 1 (nI key)) 0 0) 2 0)))
    generalize xF X i (upd (upd (upd (X.2.2.2.2 i) 1 (nI key)) 0 0) 2 0) = X1 at hP1 hx1
    show pz_T _ _ _ _ _ _ _ (mem A F1 X1)
    refine pz_wp_ok (pz_Is_ok SX3_findsFault) [] 100 ?_
    refine pP_next hG hP1 t1 (fun F2 hP2 => ?_)
    obtain ⟨a1, a2⟩ := k_ok_nx (x := (k_tok T n 3 0, 0, [])) t1
    have hpt := k_part_to T n key 17 0 0
    have hex := cP_readsOr (F0 := F) hG (k_both_to hpt) (cP_readsAnd (F0 := F) hG (k_test_to hpt) (cP_readsTest (F0 := F) hG (k_sum_to hpt) (cP_readsSum (F0 := F) hG (k_term_to hpt) (cP_readsTerm (F0 := F) hG hpt (cP_readsPiece hG 17 0 0 143 (by omega) (by omega) (by omega) (by omega))))))
    refine hex F2 X1 _ _ hP2 a1 (Nat.zero_le _) (fun F3 X3 y hy hP3 => ?_) (fun F3 X3 e he hB hb => ?_)
    · have hy' : k_expr T n (k_part T n key 17 0 0) (k_nx T n (k_tok T n 3 0, 0, [])) = .inl y := hy
      rw [hy'] at h0 h1
      dsimp only at h0 h1
      have b := (k_room0 (k_expr_to hpt) a1 (Nat.zero_le _) hy').1
      have b5 := b.2.2.1
      have r := hP3.2.2.1
      refine br2 (by decide) ?_
      refine ⟨fun g => ?_, fun g => ?_⟩
      · have g : ¬ F3 3 = 0 := g
        rw [r.2.1] at g
        have g : ¬ y.1.1 = 0 := fun z => g (by rw [z]; rfl)
        rw [if_neg g] at h0
        have h0' := h0 F3 X3 _ rfl hP3.1 hP3.2.1
        rw [← r.2.2.1] at h0'
        exact h0'
      · have g : F3 3 = 0 := g
        rw [r.2.1] at g
        have g : y.1.1 = 0 := (nI_eq (a := y.1.1) (b := 0) (by omega) (by omega)).mp g
        rw [if_pos g] at h1
        exact h1 F3 X3 key y rfl hP3.1 hP3.2.1 hP3.2.2.2.2.2.1 hP3.2.2.2.2.2.2.1 hP3.2.2.2.2.2.2.2.1 hP3.2.2.2.2.2.2.2.2
    · have he' : k_expr T n (k_part T n key 17 0 0) (k_nx T n (k_tok T n 3 0, 0, [])) = .inr e := he
      rw [he'] at h0
      refine br1 (fun z => z rfl) ?_
      have h0' := h0 F3 X3 e rfl hB.1 hB.2.1
      rw [← hb] at h0'
      exact h0'
theorem pz_T_puta {φ : pz_V → State → Prop} {κ : pz_K} {pc ci j n r v : Nat} {fs : List Value} {w : Value} {u : Nat × Nat} {L : pz_L} {S : List Value} (hS : pz_S κ pc (pz_puta ci j n)) (hn : pz_nth M r = some (.inr (.inr (ci, fs)))) (hf : pz_nth fs j = some w) (h : pz_T φ κ Q n u L S (pz_set M r (.inr (.inr (ci, pz_set fs j (.ref v)))))) : pz_T φ κ Q pc u L (.ref v :: .ref r :: S) M := by
  refine hS φ Q (fun pc u L S M => pz_T φ κ Q pc u L S M) u L _ M ?_ (fun _ _ _ _ _ z => z)
  unfold pz_puta
  dsimp only
  rw [hn]
  dsimp only
  rw [show (ci == ci) = true from beq_self_eq_true ci, hf]
  exact h
theorem mem_grow' {n : Nat} (h : X.2.2.1 = n) : mem A F X ++ [.inr (.inr (4, [.ref (90 + 2 * n + 1), .int 0, .int 0, .int 0])), .inl (0, 96, fun _ => 0)] = mem A F (xN X) := by
  subst h
  exact mem_grow A F X
theorem pz_T_ci {φ : pz_V → State → Prop} {κ κ' : pz_K} {mc ms pc na n r : Nat} {y : MethodName} {av S' : List Value} {u : Nat × Nat} {L : pz_L} {S : List Value} (hS : pz_S κ pc (pz_ci mc ms y κ' na n)) (ht : pz_take na [] S = some (.ref r :: av, S')) (hr : r < 1000000) (hc : Nat.ble (pz_cat S') 8 = true) (h1 : u.1 + pz_mc κ' ≤ mc) (h2 : u.2 + pz_ms κ' ≤ ms) (h : pz_C y κ' (.ref r :: av) M (fun v M' => pz_T φ κ Q n (u.1 + pz_mc κ', u.2 + pz_ms κ') L (pz_ps v S') M')) : pz_T φ κ Q pc u L S M := by
  refine hS φ Q (fun pc u L S M => pz_T φ κ Q pc u L S M) u L _ M ?_ (fun _ _ _ _ _ z => z)
  unfold pz_ci
  rw [ht]
  dsimp only
  rw [show Nat.blt r 1000000 = true from Nat.ble_eq_true_of_le hr]
  dsimp only
  rw [hc]
  exact ⟨⟨h1, h2⟩, h⟩
theorem pz_T_aast {φ : pz_V → State → Prop} {κ : pz_K} {pc t0 ci n r v N : Nat} {f : Nat → Option Nat} {fs : List Value} {x : Int32} {u : Nat × Nat} {L : pz_L} {S : List Value} (hS : pz_S κ pc (pz_aast t0 ci n)) (hn : pz_nth M r = some (.inr (.inl (t0, N, f)))) (hv : pz_nth M v = some (.inr (.inr (ci, fs)))) (hx : vp_in x N) (h : pz_T φ κ Q n u L S (pz_set M r (.inr (.inl (t0, N, va_up f x.toNatClampNeg (some v)))))) : pz_T φ κ Q pc u L (.ref v :: .int x :: .ref r :: S) M := by
  refine hS φ Q (fun pc u L S M => pz_T φ κ Q pc u L S M) u L _ M ?_ (fun _ _ _ _ _ z => z)
  unfold pz_aast
  dsimp only
  rw [hn]
  dsimp only
  rw [show (t0 == t0) = true from beq_self_eq_true t0]
  dsimp only
  rw [hv]
  dsimp only
  rw [show (ci == ci) = true from beq_self_eq_true ci]
  exact ⟨hx, h⟩
set_option maxRecDepth 8000 in
theorem cX_init {M0 : pz_M} (hM : M0.length < 999000) (h : Q none (M0 ++ [.inr (.inr (4, [.ref (M0.length + 1), .int 0, .int 0, .int 0])), .inl (0, 96, fun _ => 0)])) : pz_C yX6_init KX6_init [.ref M0.length] (M0 ++ [.inr (.inr (4, nf_4))]) Q := by
  have el : (M0 ++ [(.inr (.inr (4, nf_4)) : pz_E)]).length = M0.length + 1 := by rw [List.length_append, List.length_singleton]
  refine pz_C_of rfl rfl rfl (Nat.le_of_ble_eq_true rfl) (pz_wp_ok (pz_Is_ok SX6_init) [9] 100 ?_)
  refine ⟨rfl, by decide, by decide, by rw [el]; omega, ?_⟩
  rw [List.append_assoc]
  refine pz_T_puta (r := M0.length) (fs := nf_4) (pz_Is_ok SX6_init (9, pz_puta 4 0 12) (List.mem_of_getElem? (i := 5) rfl)) (by
    have := pz_nth_app M0 ([.inr (.inr (4, nf_4))] ++ [.inl (0, 96, fun _ => 0)]) 0
    rw [Nat.add_zero] at this
    rw [this]
    rfl) rfl ?_
  have es := pz_set_app M0 ([.inr (.inr (4, nf_4))] ++ [.inl (0, 96, fun _ => 0)]) 0 (.inr (.inr (4, pz_set nf_4 0 (.ref (M0 ++ [(.inr (.inr (4, nf_4)) : pz_E)]).length))))
  rw [Nat.add_zero] at es
  rw [es, el]
  refine pz_wp_ok (pz_Is_ok SX6_init) [] 100 ?_
  exact h
def xT (X : qX) (k i : Nat) : qX := (va_up X.1 k (some (xr i)), X.2)
set_option maxRecDepth 8000 in
theorem cL_takes {k : Nat} {v : Int32} (hv : v = nI k) (hk : k < 14) (hi : i ≤ X.2.2.1) (hc : X.2.2.1 < 400000) (h1 : ∀ r, X.1 k = some r → Q (some (.ref r)) (mem A F (xT X k i))) (h0 : X.1 k = none → Q (some (.ref (xr (X.2.2.1 + 1)))) (mem A F (xN (xT X k i)))) : pz_C yX1_takes KX1_takes [.ref 1, .int v, .ref (xr i)] (mem A F X) Q := by
  have ck := qcl _ hv (by omega)
  have en : xr (X.2.2.1 + 1) = 90 + 2 * X.2.2.1 := by
    unfold xr
    rw [if_neg (by omega)]
    omega
  refine pz_C_of rfl rfl rfl (Nat.le_of_ble_eq_true rfl) (pz_wp_ok (pz_Is_ok SX1_takes) [18] 100 ?_)
  refine cP_within 0 13 rfl rfl (fun _ => ?_) (fun g => absurd ⟨by rw [hv, nIi (by omega)]; omega, by rw [hv, nIi (by omega)]; omega⟩ g)
  refine br1 (by decide) ?_
  refine ⟨qin _ hv hk (by omega), ?_⟩
  rw [ck]
  have hset : pz_set (mem A F X) 2 (.inr (.inl (2, 14, va_up X.1 k (some (xr i))))) = mem A F (xT X k i) := by
    rw [mem_L, mem_L A F (xT X k i), pz_set_l _ _ _ _ (by rw [memL_len]; omega), qx_t_X (xT X k i) X _ 1 (fun j h1 h2 => ⟨rfl, rfl⟩)]
    rfl
  cases ho : X.1 k with
  | none =>
    refine pz_wp_ok (pz_Is_ok SX1_takes) [25] 100 ?_
    refine pz_T_aast (r := 2) (v := xr i) (f := X.1) (pz_Is_ok SX1_takes (25, pz_aast 2 4 26) (List.mem_of_getElem? (i := 16) rfl)) rfl (mem_xo hi) (qin _ hv hk (by omega)) ?_
    rw [ck, hset]
    have hl : (mem A F (xT X k i)).length = 90 + 2 * X.2.2.1 := mem_len A F (xT X k i)
    refine pz_wp_ok (pz_Is_ok SX1_takes) [33] 100 ?_
    refine ⟨by decide, by decide, by rw [hl]; omega, ?_⟩
    rw [hl]
    refine pz_wp_ok (pz_Is_ok SX1_takes) [34] 100 ?_
    refine pz_T_ci (r := 90 + 2 * X.2.2.1) (av := []) (pz_Is_ok SX1_takes (34, pz_ci 2 100 yX6_init KX6_init 1 37) (List.mem_of_getElem? (i := 21) rfl)) rfl (by omega) rfl (by decide) (by decide) ?_
    rw [← hl]
    refine cX_init (by rw [hl]; omega) ?_
    rw [hl, mem_grow' (X := xT X k i) (n := X.2.2.1) rfl]
    refine pz_wp_ok (pz_Is_ok SX1_takes) [] 100 ?_
    have h0' := h0 ho
    rw [en] at h0'
    exact h0'
  | some r =>
    refine pz_wp_ok (pz_Is_ok SX1_takes) [25] 100 ?_
    refine pz_T_aast (r := 2) (v := xr i) (f := X.1) (pz_Is_ok SX1_takes (25, pz_aast 2 4 26) (List.mem_of_getElem? (i := 16) rfl)) rfl (mem_xo hi) (qin _ hv hk (by omega)) ?_
    rw [ck, hset]
    refine pz_wp_ok (pz_Is_ok SX1_takes) [] 100 ?_
    exact h1 r ho
def xD (X : qX) (r : Nat) : qX := (X.1, r, X.2.2)
theorem mem_sd (r : Nat) : pz_set (mem A F X) 36 (.inr (.inr (1, [.ref r, .int (F 2), .ref 39, .int (F 3), .int (F 4), .int (F 5), .int (F 6), .int (F 7)]))) = mem A F (xD X r) := by
  rw [mem_L, mem_L A F (xD X r), pz_set_l _ _ _ _ (by rw [memL_len]; omega), qx_t_X (xD X r) X _ 1 (fun j h1 h2 => ⟨rfl, rfl⟩)]
  rfl
set_option maxRecDepth 8000 in
theorem tP_text81 {y : Int32} {u : Nat × Nat} (h : Q (some (.int (A 0 1 - 1))) (mem A F X)) : pz_T z0 KX9_text Q 81 u [some (.ref 0), some (.int y)] [] (mem A F X) := by
  refine pz_wp_ok (pz_Is_ok SX9_text) [] 100 ?_
  exact h
set_option maxRecDepth 8000 in
theorem tP_text68 {nt : Nat} {y : Int32} {u : Nat × Nat} (hnt : A 0 1 = nI nt) (h : Q (some (.int (nI nt))) (mem (va_up A 0 (upd (A 0) 1 (nI (nt + 1)))) F X)) : pz_T z0 KX9_text Q 68 u [some (.ref 0), some (.int y)] [] (mem A F X) := by
  refine pz_wp_ok (pz_Is_ok SX9_text) [81] 100 ?_
  refine qT (tP_text81 (A := va_up A 0 (upd (A 0) 1 (A 0 1 + 1))) (F := F) (X := X) (y := y) ?_) rfl rfl (mf_tex0 (A := A) (F := F) (X := X) (A 0 1 + 1))
  have e : A 0 1 + 1 = nI (nt + 1) := by rw [hnt]; exact nI_1 nt
  rw [e]
  have e2 : va_up A 0 (upd (A 0) 1 (nI (nt + 1))) 0 1 - 1 = nI nt := by
    rw [vu_at, upd_at, ← nI_1 nt]
    exact Int32.add_sub_cancel _ _
  rw [e2]
  exact h
set_option maxRecDepth 8000 in
theorem tP_text65 {nt r : Nat} {y : Int32} {u : Nat × Nat} (hnt : A 0 1 = nI nt) (h : Q (some (.int (nI nt))) (mem (va_up A 0 (upd (A 0) 1 (nI (nt + 1)))) F (xD X r))) : pz_T z0 KX9_text Q 65 u [some (.ref 0), some (.int y)] [.ref r, .ref 36] (mem A F X) := by
  refine pz_wp_ok (pz_Is_ok SX9_text) [68] 100 ?_
  exact qT (tP_text68 (A := A) (F := F) (X := xD X r) (y := y) hnt h) rfl rfl (mem_sd (A := A) (F := F) (X := X) r)
set_option maxRecDepth 8000 in
theorem tP_text25 {nt : Nat} {y : Int32} (hd : X.2.1 = xr i) (hi : i ≤ X.2.2.1) (hc : X.2.2.1 < 400000) (hnt : A 0 1 = nI nt) (hb : nt ≤ 14)
    (hf : nt = 14 → Q (some (.int (-1000000003))) (mem A F X))
    (h1 : ∀ X2 : qX, nt < 14 → ((∃ r, X.1 nt = some r ∧ X2 = xD (xT X nt i) r) ∨ (X.1 nt = none ∧ X2 = xD (xN (xT X nt i)) (xr (X.2.2.1 + 1)))) → Q (some (.int (nI nt))) (mem (va_up A 0 (upd (A 0) 1 (nI (nt + 1)))) F X2)) : pz_T z0 KX9_text Q 25 (0, 0) [some (.ref 0), some (.int y)] [] (mem A F X) := by
  refine pz_wp_ok (pz_Is_ok SX9_text) [65] 100 ?_
  refine ⟨fun g => ?_, fun g => ?_⟩
  · have g : A 0 1 < 14 := g
    rw [hnt] at g
    have g : nt < 14 := (nI_ltI (a := nt) (b := 14) (by omega) (by omega)).mp g
    refine ⟨by decide, qC (cL_takes (A := A) (F := F) (X := X) (k := nt) (i := i) hnt g hi hc (fun r hr => ?_) (fun hr => ?_)) (by rw [hd]) rfl⟩
    · exact tP_text65 hnt (h1 _ g (Or.inl ⟨r, hr, rfl⟩))
    · exact tP_text65 hnt (h1 _ g (Or.inr ⟨hr, rfl⟩))
  · have g : ¬ A 0 1 < 14 := g
    rw [hnt] at g
    have g : nt = 14 := by
      have : ¬ nt < 14 := fun z => g ((nI_ltI (a := nt) (b := 14) (by omega) (by omega)).mpr z)
      omega
    exact hf g
set_option maxRecDepth 8000 in
theorem cP_text {nt : Nat} (hT : rT (A 5) T n) (hn : n ≤ 96) (h2 : F 2 = nI n) (hd : X.2.1 = xr i) (hi : i ≤ X.2.2.1) (hc : X.2.2.1 < 400000) (hnt : A 0 1 = nI nt) (hb : nt ≤ 14)
    (h0 : ∀ (e : Nat) (F' : qF) (X' : qX), k_read T n = .inr e → qagF [2, 3, 4, 5, 6, 7] F F' → F' 2 = 0 → xag X i X' → Q (some (.int (-100 - nI e))) (mem A F' X'))
    (hf : ∀ (key : Nat) (x : kS) (F' : qF) (X' : qX), k_read T n = .inl (key, x) → nt = 14 → qagF [2, 3, 4, 5, 6, 7] F F' → F' 2 = 0 → xag X i X' → Q (some (.int (-1000000003))) (mem A F' X'))
    (h1 : ∀ (key : Nat) (x : kS) (F' : qF) (X1 X2 : qX), k_read T n = .inl (key, x) → nt < 14 → qagF [2, 3, 4, 5, 6, 7] F F' → F' 2 = 0 → xag X i X1 → X1.2.2.2.2 i 0 = nI x.2.2.length → X1.2.2.2.2 i 1 = nI key → X1.2.2.2.2 i 2 = nI x.2.1 → (∀ k p, x.2.2[k]? = some p → X1.2.2.2.1 i k = encS key p.1 p.2) → ((∃ r, X.1 nt = some r ∧ X2 = xD (xT X1 nt i) r) ∨ (X.1 nt = none ∧ X2 = xD (xN (xT X1 nt i)) (xr (X.2.2.1 + 1)))) → Q (some (.int (nI nt))) (mem (va_up A 0 (upd (A 0) 1 (nI (nt + 1)))) F' X2)) : pz_C yX9_text KX9_text [.ref 0] (mem A F X) Q := by
  refine pz_C_of rfl rfl rfl (Nat.le_of_ble_eq_true rfl) (pz_wp_ok (pz_Is_ok SX9_text) [25] 100 ?_)
  have sub : ∀ F' : qF, qagF [3, 4, 5, 6, 7] F F' → qagF [2, 3, 4, 5, 6, 7] F (upd F' 2 0) := fun F' hF => (show qagF [2, 3, 4, 5, 6, 7] F F' from fun j hj => hF j (by simp at hj ⊢; omega)).trans (qagF.up (by simp))
  refine cR_finds hT hn h2 hd hi (fun F' X' key x hk hF hX e0 e1 e2 e3 => ?_) (fun F' X' e hk hF hX => ?_)
  · refine br1 (by decide) ?_
    refine qT (tP_text25 (A := A) (F := upd F' 2 0) (X := X') (y := -1) (i := i) (nt := nt) (hX.2.1.trans hd) (by rw [hX.2.2.1]; exact hi) (by rw [hX.2.2.1]; exact hc) hnt hb (fun g => hf key x _ X' hk g (sub F' hF) (upd_at _ _ _) hX) (fun X2 g h => ?_)) rfl rfl rfl
    rw [hX.1, hX.2.2.1] at h
    exact h1 key x _ X' X2 hk g (sub F' hF) (upd_at _ _ _) hX e0 e1 e2 e3 h
  · have he := k_read_e hk
    refine br2 (fun z => ?_) ?_
    · have z := Int32.lt_iff_toInt_lt.mp z
      rw [nIi (by omega)] at z
      have e0 : (0 : Int32).toInt = 0 := rfl
      omega
    · exact h0 e _ X' hk (sub F' hF) (upd_at _ _ _) hX
end POT
