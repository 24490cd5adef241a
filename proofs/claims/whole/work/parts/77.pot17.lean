/-! indexOf; writing into a text that was made -/
def nmi (i : Nat) (c : Int32) : Int32 := if i = 3 then (if c = 98 then 0 else if c = 116 then 1 else if c = 112 then 2 else -1) else if i = 4 then (if c = 97 then 0 else if c = 112 then 1 else -1) else (if c = 97 then 0 else if c = 99 then 1 else -1)
theorem b_small {m : Nat} (h : m < 128) : (nI m).toInt8.toInt32 = nI m := by
  apply (i_eq _ _).mpr
  rw [Int8.toInt_toInt32, Int32.toInt_toInt8, nIi (by omega), Int.bmod_eq_of_le (by omega) (by omega)]
def xF (X : qX) (i : Nat) (f : Nat → Int32) : qX := (X.1, X.2.1, X.2.2.1, X.2.2.2.1, va_up X.2.2.2.2 i f)
def xC (X : qX) (i : Nat) (g : Nat → Int32) : qX := (X.1, X.2.1, X.2.2.1, va_up X.2.2.2.1 i g, X.2.2.2.2)
theorem pz_set_l {α : Type} : ∀ (l r : List α) (k : Nat) (x : α), k < l.length → pz_set (l ++ r) k x = pz_set l k x ++ r
  | [], r, k, x, h => by rw [List.length_nil] at h; omega
  | a :: l, r, 0, x, h => rfl
  | a :: l, r, k + 1, x, h => by
    rw [List.length_cons] at h
    show a :: pz_set (l ++ r) k x = a :: (pz_set l k x ++ r)
    rw [pz_set_l l r k x (by omega)]
theorem qx_t_so (X : qX) (i : Nat) (f : Nat → Int32) : ∀ (n s k : Nat), k < n → s + k = i → pz_set (qx_t X n s) (2 * k) (.inr (.inr (4, [.ref (89 + 2 * i), .int (f 0), .int (f 1), .int (f 2)]))) = qx_t (xF X i f) n s
  | 0, s, k, h, _ => by omega
  | n + 1, s, 0, h, e => by
    have e : s = i := e
    subst e
    show (.inr (.inr (4, [.ref (89 + 2 * s), .int (f 0), .int (f 1), .int (f 2)]))) :: qx_c X s :: qx_t X n (s + 1) = qx_o (xF X s f) s (89 + 2 * s) :: qx_c (xF X s f) s :: qx_t (xF X s f) n (s + 1)
    have e1 : qx_o (xF X s f) s (89 + 2 * s) = (.inr (.inr (4, [.ref (89 + 2 * s), .int (f 0), .int (f 1), .int (f 2)]))) := by
      unfold qx_o xF
      dsimp only
      rw [vu_at]
    rw [e1, qx_t_X X (xF X s f) n (s + 1) (fun j h1 h2 => ⟨rfl, (vu_ne _ _ (by omega)).symm⟩)]
    rfl
  | n + 1, s, k + 1, h, e => by
    show qx_o X s (89 + 2 * s) :: qx_c X s :: pz_set (qx_t X n (s + 1)) (2 * k) _ = qx_o (xF X i f) s (89 + 2 * s) :: qx_c (xF X i f) s :: qx_t (xF X i f) n (s + 1)
    rw [qx_t_so X i f n (s + 1) k (by omega) (by omega)]
    have e1 : qx_o (xF X i f) s (89 + 2 * s) = qx_o X s (89 + 2 * s) := by
      unfold qx_o xF
      dsimp only
      rw [vu_ne _ _ (by omega)]
    rw [e1]
    rfl
theorem qx_t_sc (X : qX) (i : Nat) (g : Nat → Int32) : ∀ (n s k : Nat), k < n → s + k = i → pz_set (qx_t X n s) (2 * k + 1) (.inl (0, 96, g)) = qx_t (xC X i g) n s
  | 0, s, k, h, _ => by omega
  | n + 1, s, 0, h, e => by
    have e : s = i := e
    subst e
    show qx_o X s (89 + 2 * s) :: (.inl (0, 96, g)) :: qx_t X n (s + 1) = qx_o (xC X s g) s (89 + 2 * s) :: qx_c (xC X s g) s :: qx_t (xC X s g) n (s + 1)
    have e1 : qx_c (xC X s g) s = (.inl (0, 96, g)) := by
      unfold qx_c xC
      dsimp only
      rw [vu_at]
    rw [e1, qx_t_X X (xC X s g) n (s + 1) (fun j h1 h2 => ⟨(vu_ne _ _ (by omega)).symm, rfl⟩)]
    rfl
  | n + 1, s, k + 1, h, e => by
    show qx_o X s (89 + 2 * s) :: qx_c X s :: pz_set (qx_t X n (s + 1)) (2 * k + 1) _ = qx_o (xC X i g) s (89 + 2 * s) :: qx_c (xC X i g) s :: qx_t (xC X i g) n (s + 1)
    rw [qx_t_sc X i g n (s + 1) k (by omega) (by omega)]
    have e1 : qx_c (xC X i g) s = qx_c X s := by
      unfold qx_c xC
      dsimp only
      rw [vu_ne _ _ (by omega)]
    rw [e1]
    rfl
section POT
variable {A A1 : qA} {F : qF} {X : qX} {Q : pz_Q} {M : pz_M}
theorem mem_so {i : Nat} (hi : i ≤ X.2.2.1) (f : Nat → Int32) : pz_set (mem A F X) (xr i) (.inr (.inr (4, [.ref (xc i), .int (f 0), .int (f 1), .int (f 2)]))) = mem A F (xF X i f) := by
  unfold xr xc
  by_cases h : i = 0
  · subst h
    rw [if_pos rfl, if_pos rfl, mem_L, mem_L A F (xF X 0 f), pz_set_l _ _ _ _ (by rw [memL_len]; omega), qx_t_X (xF X 0 f) X _ 1 (fun j h1 h2 => ⟨rfl, vu_ne _ _ (by omega)⟩)]
    rfl
  · rw [if_neg h, if_neg h, mem_L, mem_L A F (xF X i f), show 88 + 2 * i = (memL A F X).length + 2 * (i - 1) by rw [memL_len]; omega, pz_set_app, qx_t_so X i f _ 1 (i - 1) (by omega) (by omega)]
    have e : memL A F (xF X i f) = memL A F X := by
      have e1 : ∀ Y : qX, memL A F Y = pz_set (memL A F (Y.1, Y.2.1, 0, Y.2.2.2.1, fun _ _ => 0)) 37 (qx_o Y 0 38) := fun Y => rfl
      rw [e1 (xF X i f), e1 X]
      have e2 : qx_o (xF X i f) 0 38 = qx_o X 0 38 := by
        unfold qx_o xF
        dsimp only
        rw [vu_ne _ _ (by omega)]
      rw [e2]
      rfl
    rw [e]
    rfl
theorem mem_sc {i : Nat} (hi : i ≤ X.2.2.1) (g : Nat → Int32) : pz_set (mem A F X) (xc i) (.inl (0, 96, g)) = mem A F (xC X i g) := by
  unfold xc
  by_cases h : i = 0
  · subst h
    rw [if_pos rfl, mem_L, mem_L A F (xC X 0 g), pz_set_l _ _ _ _ (by rw [memL_len]; omega), qx_t_X (xC X 0 g) X _ 1 (fun j h1 h2 => ⟨vu_ne _ _ (by omega), rfl⟩)]
    rfl
  · rw [if_neg h, mem_L, mem_L A F (xC X i g), show 89 + 2 * i = (memL A F X).length + (2 * (i - 1) + 1) by rw [memL_len]; omega, pz_set_app, qx_t_sc X i g _ 1 (i - 1) (by omega) (by omega)]
    have e : memL A F (xC X i g) = memL A F X := by
      have e1 : ∀ Y : qX, memL A F Y = pz_set (memL A F (Y.1, Y.2.1, 0, (fun _ _ => 0), Y.2.2.2.2)) 38 (qx_c Y 0) := fun Y => rfl
      rw [e1 (xC X i g), e1 X]
      have e2 : qx_c (xC X i g) 0 = qx_c X 0 := by
        unfold qx_c xC
        dsimp only
        rw [vu_ne _ _ (by omega)]
      rw [e2]
      rfl
    rw [e]
    rfl
theorem pz_T_alen {φ : pz_V → State → Prop} {κ : pz_K} {pc n r N : Nat} {f : Nat → Int32} {u : Nat × Nat} {L : pz_L} {S : List Value} (hS : pz_S κ pc (pz_alen n)) (hn : pz_nth M r = some (.inl (0, N, f))) (h : pz_T φ κ Q n u L (.int (nI N) :: S) M) : pz_T φ κ Q pc u L (.ref r :: S) M := by
  refine hS φ Q (fun pc u L S M => pz_T φ κ Q pc u L S M) u L _ M ?_ (fun _ _ _ _ _ z => z)
  unfold pz_alen
  dsimp only
  rw [hn]
  exact h
theorem pz_T_iast {φ : pz_V → State → Prop} {κ : pz_K} {pc n r N : Nat} {f : Nat → Int32} {x v : Int32} {u : Nat × Nat} {L : pz_L} {S : List Value} (hS : pz_S κ pc (pz_iast n)) (hn : pz_nth M r = some (.inl (0, N, f))) (hx : vp_in x N) (h : pz_T φ κ Q n u L S (pz_set M r (.inl (0, N, upd f x.toNatClampNeg v)))) : pz_T φ κ Q pc u L (.int v :: .int x :: .ref r :: S) M := by
  refine hS φ Q (fun pc u L S M => pz_T φ κ Q pc u L S M) u L _ M ?_ (fun _ _ _ _ _ z => z)
  unfold pz_iast
  dsimp only
  rw [hn]
  exact ⟨hx, h⟩
theorem pz_T_puti {φ : pz_V → State → Prop} {κ : pz_K} {pc ci j n r : Nat} {fs : List Value} {v : Value} {x : Int32} {u : Nat × Nat} {L : pz_L} {S : List Value} (hS : pz_S κ pc (pz_puti ci j n)) (hn : pz_nth M r = some (.inr (.inr (ci, fs)))) (hf : pz_nth fs j = some v) (h : pz_T φ κ Q n u L S (pz_set M r (.inr (.inr (ci, pz_set fs j (.int x)))))) : pz_T φ κ Q pc u L (.int x :: .ref r :: S) M := by
  refine hS φ Q (fun pc u L S M => pz_T φ κ Q pc u L S M) u L _ M ?_ (fun _ _ _ _ _ z => z)
  unfold pz_puti
  dsimp only
  rw [hn]
  dsimp only
  rw [show (ci == ci) = true from beq_self_eq_true ci, hf]
  exact h
/-- a text's field is written -/
theorem pz_T_putx {φ : pz_V → State → Prop} {κ : pz_K} {pc j n i : Nat} {x : Int32} {u : Nat × Nat} {L : pz_L} {S : List Value} (hS : pz_S κ pc (pz_puti 4 (j + 1) n)) (hi : i ≤ X.2.2.1) (hj : j < 3) (h : pz_T φ κ Q n u L S (mem A F (xF X i (upd (X.2.2.2.2 i) j x)))) : pz_T φ κ Q pc u L (.int x :: .ref (xr i) :: S) (mem A F X) := by
  have hj : j = 0 ∨ j = 1 ∨ j = 2 := by omega
  rcases hj with e | e | e <;> subst e <;>
  · refine pz_T_puti (r := xr i) hS (mem_xo hi) rfl ?_
    rw [← mem_so hi] at h
    exact h
set_option maxRecDepth 8000 in
theorem cX_adds {i m : Nat} {c : Int32} (hi : i ≤ X.2.2.1) (hm : m ≤ 96) (hs : X.2.2.2.2 i 0 = nI m) (h : m < 96 → Q none (mem A F (xF (xC X i (upd (X.2.2.2.1 i) m c)) i (upd (X.2.2.2.2 i) 0 (nI (m + 1)))))) (h0 : m = 96 → Q none (mem A F X)) : pz_C yX6_adds KX6_adds [.ref (xr i), .int c] (mem A F X) Q := by
  have cm := qcl _ hs (by omega)
  refine pz_C_of rfl rfl rfl (Nat.le_of_ble_eq_true rfl) (pz_wp_ok (pz_Is_ok SX6_adds) [1] 100 ?_)
  refine pz_T_get (r := xr i) (pz_Is_ok SX6_adds (1, pz_get 4 1 4) (List.mem_of_getElem? (i := 1) rfl)) (mem_xo hi) rfl ?_
  refine pz_wp_ok (pz_Is_ok SX6_adds) [5] 100 ?_
  refine pz_T_get (r := xr i) (pz_Is_ok SX6_adds (5, pz_get 4 0 8) (List.mem_of_getElem? (i := 3) rfl)) (mem_xo hi) rfl ?_
  refine pz_T_alen (r := xc i) (pz_Is_ok SX6_adds (8, pz_alen 9) (List.mem_of_getElem? (i := 4) rfl)) (mem_xc hi) ?_
  refine pz_wp_ok (pz_Is_ok SX6_adds) [13] 100 ?_
  refine ⟨fun g => ?_, fun g => ?_⟩
  · have g : nI 96 ≤ X.2.2.2.2 i 0 := g
    rw [hs] at g
    have g := (nI_leI (by omega) (by omega)).mp g
    exact h0 (by omega)
  have g : ¬ nI 96 ≤ X.2.2.2.2 i 0 := g
  rw [hs] at g
  have g : m < 96 := by
    rcases Nat.lt_or_ge m 96 with z | z
    · exact z
    · exact absurd (nI_le z (by omega)) g
  have h := h g
  refine pz_T_get (r := xr i) (pz_Is_ok SX6_adds (13, pz_get 4 0 16) (List.mem_of_getElem? (i := 7) rfl)) (mem_xo hi) rfl ?_
  refine pz_wp_ok (pz_Is_ok SX6_adds) [17] 100 ?_
  refine pz_T_get (r := xr i) (pz_Is_ok SX6_adds (17, pz_get 4 1 20) (List.mem_of_getElem? (i := 9) rfl)) (mem_xo hi) rfl ?_
  refine pz_wp_ok (pz_Is_ok SX6_adds) [21] 100 ?_
  refine pz_T_iast (r := xc i) (pz_Is_ok SX6_adds (21, pz_iast 22) (List.mem_of_getElem? (i := 11) rfl)) (mem_xc hi) (qin m hs g (by omega)) ?_
  rw [cm, mem_sc hi]
  refine pz_wp_ok (pz_Is_ok SX6_adds) [24] 100 ?_
  refine pz_T_get (r := xr i) (pz_Is_ok SX6_adds (24, pz_get 4 1 27) (List.mem_of_getElem? (i := 14) rfl)) (mem_xo (X := xC X i (upd (X.2.2.2.1 i) m c)) hi) rfl ?_
  refine pz_wp_ok (pz_Is_ok SX6_adds) [29] 100 ?_
  refine pz_T_putx (j := 0) (X := xC X i (upd (X.2.2.2.1 i) m c)) (pz_Is_ok SX6_adds (29, pz_puti 4 1 32) (List.mem_of_getElem? (i := 17) rfl)) hi (by omega) ?_
  refine pz_wp_ok (pz_Is_ok SX6_adds) [] 100 ?_
  have e1 : X.2.2.2.2 i 0 + 1 = nI (m + 1) := by rw [hs]; exact nI_1 m
  rw [← e1] at h
  exact h
theorem xF_xF (X : qX) (i : Nat) (f g : Nat → Int32) : xF (xF X i f) i g = xF X i g := by
  unfold xF
  rw [vu_vu]
theorem xF_at (X : qX) (i : Nat) (f : Nat → Int32) : (xF X i f).2.2.2.2 i = f := vu_at _ _ _
set_option maxRecDepth 8000 in
theorem cX_begins {i : Nat} {key : Int32} (hi : i ≤ X.2.2.1) (h : Q none (mem A F (xF X i (upd (upd (upd (X.2.2.2.2 i) 1 key) 0 0) 2 0)))) : pz_C yX6_begins KX6_begins [.ref (xr i), .int key] (mem A F X) Q := by
  refine pz_C_of rfl rfl rfl (Nat.le_of_ble_eq_true rfl) (pz_wp_ok (pz_Is_ok SX6_begins) [2] 100 ?_)
  refine pz_T_putx (j := 1) (pz_Is_ok SX6_begins (2, pz_puti 4 2 5) (List.mem_of_getElem? (i := 2) rfl)) hi (by omega) ?_
  refine pz_wp_ok (pz_Is_ok SX6_begins) [7] 100 ?_
  refine pz_T_putx (j := 0) (pz_Is_ok SX6_begins (7, pz_puti 4 1 10) (List.mem_of_getElem? (i := 5) rfl)) hi (by omega) ?_
  rw [xF_xF, xF_at]
  refine pz_wp_ok (pz_Is_ok SX6_begins) [12] 100 ?_
  refine pz_T_putx (j := 2) (pz_Is_ok SX6_begins (12, pz_puti 4 3 15) (List.mem_of_getElem? (i := 8) rfl)) hi (by omega) ?_
  rw [xF_xF, xF_at]
  refine pz_wp_ok (pz_Is_ok SX6_begins) [] 100 ?_
  exact h
theorem cJ1_can {m : Nat} (hm : m < 128) (h : Q (some (.int 1)) M) : pz_C yJ1_canEncode_9a6ad KJ1_canEncode_9a6ad [.int (nI m)] M Q := by
  refine pz_C_of rfl rfl rfl (Nat.le_of_ble_eq_true rfl) (pz_wp_ok (pz_Is_ok SJ1_canEncode_9a6ad) [] 100 ?_)
  refine br2 (i_nlt.mpr (nI_pos' (by omega))) ?_
  refine br2 (fun z => ?_) ⟨Or.inr rfl, h⟩
  have z : (255 : Int32) < nI m := z
  rw [i_lt, nIi (by omega), show (255 : Int32).toInt = 255 from rfl] at z
  omega
theorem cJ1_ixc {i m : Nat} (hi : 3 ≤ i ∧ i < 6) (hm : m < 128) (h : Q (some (.int (nmi i (nI m)))) M) : pz_C yJ1_indexOfChar_4cfef KJ1_indexOfChar_4cfef [.ref (1000020 + i), .int (nI m), .int 0, .int (nI (pz_len.getD i 0))] M Q := by
  have eb := b_small hm
  unfold nmi at h
  have : i = 3 ∨ i = 4 ∨ i = 5 := by omega
  rcases this with e | e | e <;> subst e
  · rw [if_pos rfl] at h
    refine pz_C_of rfl rfl rfl (Nat.le_of_ble_eq_true rfl) (pz_wp_ok (pz_Is_ok SJ1_indexOfChar_4cfef) [] 100 ?_)
    rw [← eb] at h
    refine br2 (by decide) ⟨qin 0 rfl (by decide) (by decide), ⟨fun g => ?_, fun g => ?_⟩⟩
    · have g : ¬ (98 : Int32) = (nI m).toInt8.toInt32 := g
      rw [if_neg (fun z => g z.symm)] at h
      refine br2 (by decide) ⟨qin 1 rfl (by decide) (by decide), ⟨fun g => ?_, fun g => ?_⟩⟩
      · have g : ¬ (116 : Int32) = (nI m).toInt8.toInt32 := g
        rw [if_neg (fun z => g z.symm)] at h
        refine br2 (by decide) ⟨qin 2 rfl (by decide) (by decide), ⟨fun g => ?_, fun g => ?_⟩⟩
        · have g : ¬ (112 : Int32) = (nI m).toInt8.toInt32 := g
          rw [if_neg (fun z => g z.symm)] at h
          exact br1 (by decide) h
        · have g : (112 : Int32) = (nI m).toInt8.toInt32 := g
          rw [if_pos g.symm] at h
          exact h
      · have g : (116 : Int32) = (nI m).toInt8.toInt32 := g
        rw [if_pos g.symm] at h
        exact h
    · have g : (98 : Int32) = (nI m).toInt8.toInt32 := g
      rw [if_pos g.symm] at h
      exact h
  · rw [if_neg (by decide), if_pos rfl] at h
    refine pz_C_of rfl rfl rfl (Nat.le_of_ble_eq_true rfl) (pz_wp_ok (pz_Is_ok SJ1_indexOfChar_4cfef) [] 100 ?_)
    rw [← eb] at h
    refine br2 (by decide) ⟨qin 0 rfl (by decide) (by decide), ⟨fun g => ?_, fun g => ?_⟩⟩
    · have g : ¬ (97 : Int32) = (nI m).toInt8.toInt32 := g
      rw [if_neg (fun z => g z.symm)] at h
      refine br2 (by decide) ⟨qin 1 rfl (by decide) (by decide), ⟨fun g => ?_, fun g => ?_⟩⟩
      · have g : ¬ (112 : Int32) = (nI m).toInt8.toInt32 := g
        rw [if_neg (fun z => g z.symm)] at h
        exact br1 (by decide) h
      · have g : (112 : Int32) = (nI m).toInt8.toInt32 := g
        rw [if_pos g.symm] at h
        exact h
    · have g : (97 : Int32) = (nI m).toInt8.toInt32 := g
      rw [if_pos g.symm] at h
      exact h
  · rw [if_neg (by decide), if_neg (by decide)] at h
    refine pz_C_of rfl rfl rfl (Nat.le_of_ble_eq_true rfl) (pz_wp_ok (pz_Is_ok SJ1_indexOfChar_4cfef) [] 100 ?_)
    rw [← eb] at h
    refine br2 (by decide) ⟨qin 0 rfl (by decide) (by decide), ⟨fun g => ?_, fun g => ?_⟩⟩
    · have g : ¬ (97 : Int32) = (nI m).toInt8.toInt32 := g
      rw [if_neg (fun z => g z.symm)] at h
      refine br2 (by decide) ⟨qin 1 rfl (by decide) (by decide), ⟨fun g => ?_, fun g => ?_⟩⟩
      · have g : ¬ (99 : Int32) = (nI m).toInt8.toInt32 := g
        rw [if_neg (fun z => g z.symm)] at h
        exact br1 (by decide) h
      · have g : (99 : Int32) = (nI m).toInt8.toInt32 := g
        rw [if_pos g.symm] at h
        exact h
    · have g : (97 : Int32) = (nI m).toInt8.toInt32 := g
      rw [if_pos g.symm] at h
      exact h
theorem cJ1_ix {i m : Nat} (hi : 3 ≤ i ∧ i < 6) (hm : m < 128) (h : Q (some (.int (nmi i (nI m)))) M) : pz_C yJ1_indexOf_4cfef KJ1_indexOf_4cfef [.ref (1000020 + i), .int (nI m), .int 0, .int (nI (pz_len.getD i 0))] M Q := by
  have : i = 3 ∨ i = 4 ∨ i = 5 := by omega
  rcases this with e | e | e <;> subst e <;>
  · refine pz_C_of rfl rfl rfl (Nat.le_of_ble_eq_true rfl) (pz_wp_ok (pz_Is_ok SJ1_indexOf_4cfef) [] 100 ?_)
    refine cJ1_can hm ?_
    refine br1 (by decide) ?_
    refine br1 (fun z => z (by decide)) ?_
    exact cJ1_ixc (by omega) hm h
theorem cJ_ix2 {i m : Nat} (hi : 3 ≤ i ∧ i < 6) (hm : m < 128) (h : Q (some (.int (nmi i (nI m)))) M) : pz_C yJ0_indexOf_7cf53 KJ0_indexOf_7cf53 [.ref (1000010 + i), .int (nI m), .int 0] M Q := by
  have : i = 3 ∨ i = 4 ∨ i = 5 := by omega
  rcases this with e | e | e <;> subst e <;>
  · refine pz_C_of rfl rfl rfl (Nat.le_of_ble_eq_true rfl) (pz_wp_ok (pz_Is_ok SJ0_indexOf_7cf53) [] 100 ?_)
    refine cJ_latin (by omega) ?_
    refine br2 (by decide) ?_
    refine cJ_length (by omega) ?_
    exact cJ1_ix (by omega) hm h
theorem cJ_ix {i m : Nat} {x : Int32} (hi : 3 ≤ i ∧ i < 6) (hx : x = nI m) (hm : m < 128) (h : Q (some (.int (nmi i (nI m)))) M) : pz_C yJ0_indexOf_0f7a4 KJ0_indexOf_0f7a4 [.ref (1000010 + i), .int x] M Q := by
  subst hx
  have : i = 3 ∨ i = 4 ∨ i = 5 := by omega
  rcases this with e | e | e <;> subst e <;>
  · refine pz_C_of rfl rfl rfl (Nat.le_of_ble_eq_true rfl) (pz_wp_ok (pz_Is_ok SJ0_indexOf_0f7a4) [] 100 ?_)
    exact cJ_ix2 (by omega) hm h
end POT
