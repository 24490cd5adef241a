/-! the texts in memory; Laws -/
def xr (i : Nat) : Nat := if i = 0 then 37 else 88 + 2 * i
def xc (i : Nat) : Nat := if i = 0 then 38 else 89 + 2 * i
theorem qx_t_o (X : qX) : ∀ (n s k : Nat), k < n → pz_nth (qx_t X n s) (2 * k) = some (qx_o X (s + k) (89 + 2 * (s + k)))
  | 0, s, k, h => by omega
  | n + 1, s, 0, h => rfl
  | n + 1, s, k + 1, h => by
    have := qx_t_o X n (s + 1) k (by omega)
    rw [show s + (k + 1) = s + 1 + k by omega]
    exact this
theorem qx_t_c (X : qX) : ∀ (n s k : Nat), k < n → pz_nth (qx_t X n s) (2 * k + 1) = some (qx_c X (s + k))
  | 0, s, k, h => by omega
  | n + 1, s, 0, h => rfl
  | n + 1, s, k + 1, h => by
    have := qx_t_c X n (s + 1) k (by omega)
    rw [show s + (k + 1) = s + 1 + k by omega]
    exact this
def mem0 (A : qA) (F : qF) (X : qX) : pz_M := (mem A F (X.1, X.2.1, 0, X.2.2.2))
theorem pz_nth_app {α : Type} : ∀ (l r : List α) (k : Nat), pz_nth (l ++ r) (l.length + k) = pz_nth r k
  | [], r, k => by rw [List.nil_append, List.length_nil, Nat.zero_add]
  | a :: l, r, k => by
    rw [List.cons_append, List.length_cons, show l.length + 1 + k = (l.length + k) + 1 by omega]
    exact pz_nth_app l r k
theorem pz_set_app {α : Type} : ∀ (l r : List α) (k : Nat) (x : α), pz_set (l ++ r) (l.length + k) x = l ++ pz_set r k x
  | [], r, k, x => by rw [List.nil_append, List.nil_append, List.length_nil, Nat.zero_add]
  | a :: l, r, k, x => by
    rw [List.cons_append, List.cons_append, List.length_cons, show l.length + 1 + k = (l.length + k) + 1 by omega]
    show a :: pz_set (l ++ r) (l.length + k) x = _
    rw [pz_set_app l r k x]
def memL (A : qA) (F : qF) (X : qX) : pz_M := mem A F (X.1, X.2.1, 0, X.2.2.2.1, X.2.2.2.2)
theorem qx_t_X (X X' : qX) : ∀ (n s : Nat), (∀ i, s ≤ i → i < s + n → X.2.2.2.1 i = X'.2.2.2.1 i ∧ X.2.2.2.2 i = X'.2.2.2.2 i) → qx_t X n s = qx_t X' n s
  | 0, _, _ => rfl
  | n + 1, s, h => by
    have h0 := h s (by omega) (by omega)
    rw [qx_t, qx_t, qx_t_X X X' n (s + 1) (fun i h1 h2 => h i (by omega) (by omega))]
    unfold qx_o qx_c
    rw [h0.1, h0.2]
theorem mem_L (A : qA) (F : qF) (X : qX) : mem A F X = memL A F X ++ qx_t X X.2.2.1 1 := by
  show _ = (mem A F (X.1, X.2.1, 0, X.2.2.2.1, X.2.2.2.2)) ++ _
  unfold mem
  rw [show qx_t (X.1, X.2.1, 0, X.2.2.2.1, X.2.2.2.2) (X.1, X.2.1, 0, X.2.2.2.1, X.2.2.2.2).2.2.1 1 = [] from rfl, List.append_nil]
  rfl
theorem memL_len (A : qA) (F : qF) (X : qX) : (memL A F X).length = 90 := rfl
theorem mem_len (A : qA) (F : qF) (X : qX) : (mem A F X).length = 90 + 2 * X.2.2.1 := by
  have : ∀ n s, (qx_t X n s).length = 2 * n := by
    intro n
    induction n with
    | zero => intro s; rfl
    | succ n ih => intro s; rw [qx_t, List.length_cons, List.length_cons, ih]; omega
  rw [mem_L, List.length_append, memL_len, this]
section POT
variable {A A1 : qA} {F : qF} {X : qX} {Q : pz_Q} {M : pz_M}
theorem mem_xo {i : Nat} (hi : i ≤ X.2.2.1) : pz_nth (mem A F X) (xr i) = some (qx_o X i (xc i)) := by
  unfold xr xc
  by_cases h : i = 0
  · subst h; rfl
  · rw [if_neg h, if_neg h, mem_L, show 88 + 2 * i = (memL A F X).length + 2 * (i - 1) by rw [memL_len]; omega, pz_nth_app, qx_t_o X _ 1 (i - 1) (by omega), show 1 + (i - 1) = i by omega]
theorem mem_xc {i : Nat} (hi : i ≤ X.2.2.1) : pz_nth (mem A F X) (xc i) = some (qx_c X i) := by
  unfold xc
  by_cases h : i = 0
  · subst h; rfl
  · rw [if_neg h, mem_L, show 89 + 2 * i = (memL A F X).length + (2 * (i - 1) + 1) by rw [memL_len]; omega, pz_nth_app, qx_t_c X _ 1 (i - 1) (by omega), show 1 + (i - 1) = i by omega]
theorem pz_T_get {φ : pz_V → State → Prop} {κ : pz_K} {pc ci j n r : Nat} {fs : List Value} {v : Value} {u : Nat × Nat} {L : pz_L} {S : List Value} (hS : pz_S κ pc (pz_get ci j n)) (hn : pz_nth M r = some (.inr (.inr (ci, fs)))) (hf : pz_nth fs j = some v) (h : pz_T φ κ Q n u L (v :: S) M) : pz_T φ κ Q pc u L (.ref r :: S) M := by
  refine hS φ Q (fun pc u L S M => pz_T φ κ Q pc u L S M) u L _ M ?_ (fun _ _ _ _ _ z => z)
  unfold pz_get
  dsimp only
  rw [hn]
  dsimp only
  rw [show (ci == ci) = true from beq_self_eq_true ci, hf]
  exact h
theorem pz_T_iald {φ : pz_V → State → Prop} {κ : pz_K} {pc n r N : Nat} {f : Nat → Int32} {x : Int32} {u : Nat × Nat} {L : pz_L} {S : List Value} (hS : pz_S κ pc (pz_iald n)) (hn : pz_nth M r = some (.inl (0, N, f))) (hx : vp_in x N) (h : pz_T φ κ Q n u L (.int (f x.toNatClampNeg) :: S) M) : pz_T φ κ Q pc u L (.int x :: .ref r :: S) M := by
  refine hS φ Q (fun pc u L S M => pz_T φ κ Q pc u L S M) u L _ M ?_ (fun _ _ _ _ _ z => z)
  unfold pz_iald
  dsimp only
  rw [hn]
  exact ⟨hx, h⟩
theorem cL_joined {v x y : Int32} (hv : v ∈ k_sgs) (h : Q (some (.int (f_join v x y))) M) : pz_C yX1_joined KX1_joined [.int v, .int x, .int y] M Q := by
  refine pz_C_of rfl rfl rfl (Nat.le_of_ble_eq_true rfl) (pz_wp_ok (pz_Is_ok SX1_joined) [1] 100 ?_)
  refine pz_T_sw (cs := [(38, 90), (42, 145), (43, 137), (45, 141), (60, 104), (61, 115), (62, 126), (124, 76)]) (d := 149) (pz_Is_ok SX1_joined (1, pz_sw [(38, 90), (42, 145), (43, 137), (45, 141), (60, 104), (61, 115), (62, 126), (124, 76)] 149) (List.mem_of_getElem? (i := 1) rfl)) ?_
  unfold f_join at h
  have hv : v = 38 ∨ v = 42 ∨ v = 43 ∨ v = 45 ∨ v = 47 ∨ v = 60 ∨ v = 61 ∨ v = 62 ∨ v = 124 := by
    unfold k_sgs at hv
    simpa using hv
  rcases hv with e | e | e | e | e | e | e | e | e <;> subst e
  · rw [if_pos rfl] at h
    rw [show pz_tgt 38 [(38, 90), (42, 145), (43, 137), (45, 141), (60, 104), (61, 115), (62, 126), (124, 76)] 149 = 90 by decide]
    refine pz_wp_ok (pz_Is_ok SX1_joined) [] 100 ?_
    refine ⟨fun g => ?_, fun g => ?_⟩
    · rw [if_pos g] at h; exact h
    · rw [if_neg g] at h
      refine ⟨fun g => ?_, fun g => ?_⟩
      · rw [if_pos g] at h; exact h
      · rw [if_neg g] at h; exact h
  · rw [if_neg (by decide), if_pos rfl] at h
    rw [show pz_tgt 42 [(38, 90), (42, 145), (43, 137), (45, 141), (60, 104), (61, 115), (62, 126), (124, 76)] 149 = 145 by decide]
    refine pz_wp_ok (pz_Is_ok SX1_joined) [] 100 ?_
    exact h
  · rw [if_neg (by decide), if_neg (by decide), if_pos rfl] at h
    rw [show pz_tgt 43 [(38, 90), (42, 145), (43, 137), (45, 141), (60, 104), (61, 115), (62, 126), (124, 76)] 149 = 137 by decide]
    refine pz_wp_ok (pz_Is_ok SX1_joined) [] 100 ?_
    exact h
  · rw [if_neg (by decide), if_neg (by decide), if_neg (by decide), if_pos rfl] at h
    rw [show pz_tgt 45 [(38, 90), (42, 145), (43, 137), (45, 141), (60, 104), (61, 115), (62, 126), (124, 76)] 149 = 141 by decide]
    refine pz_wp_ok (pz_Is_ok SX1_joined) [] 100 ?_
    exact h
  · rw [if_neg (by decide), if_neg (by decide), if_neg (by decide), if_neg (by decide), if_pos rfl] at h
    rw [show pz_tgt 47 [(38, 90), (42, 145), (43, 137), (45, 141), (60, 104), (61, 115), (62, 126), (124, 76)] 149 = 149 by decide]
    refine pz_wp_ok (pz_Is_ok SX1_joined) [] 100 ?_
    refine ⟨fun g => ?_, fun g => ?_⟩
    · rw [if_neg g] at h; exact ⟨g, h⟩
    · rw [if_pos g] at h; exact h
  · rw [if_neg (by decide), if_neg (by decide), if_neg (by decide), if_neg (by decide), if_neg (by decide), if_pos rfl] at h
    rw [show pz_tgt 60 [(38, 90), (42, 145), (43, 137), (45, 141), (60, 104), (61, 115), (62, 126), (124, 76)] 149 = 104 by decide]
    refine pz_wp_ok (pz_Is_ok SX1_joined) [] 100 ?_
    refine ⟨fun g => ?_, fun g => ?_⟩
    · rw [if_neg (i_nlt.mpr g)] at h; exact h
    · rw [if_pos (i_nle.mp g)] at h; exact h
  · rw [if_neg (by decide), if_neg (by decide), if_neg (by decide), if_neg (by decide), if_neg (by decide), if_neg (by decide), if_pos rfl] at h
    rw [show pz_tgt 61 [(38, 90), (42, 145), (43, 137), (45, 141), (60, 104), (61, 115), (62, 126), (124, 76)] 149 = 115 by decide]
    refine pz_wp_ok (pz_Is_ok SX1_joined) [] 100 ?_
    refine ⟨fun g => ?_, fun g => ?_⟩
    · rw [if_neg g] at h; exact h
    · rw [if_pos g] at h; exact h
  · rw [if_neg (by decide), if_neg (by decide), if_neg (by decide), if_neg (by decide), if_neg (by decide), if_neg (by decide), if_neg (by decide), if_pos rfl] at h
    rw [show pz_tgt 62 [(38, 90), (42, 145), (43, 137), (45, 141), (60, 104), (61, 115), (62, 126), (124, 76)] 149 = 126 by decide]
    refine pz_wp_ok (pz_Is_ok SX1_joined) [] 100 ?_
    refine ⟨fun g => ?_, fun g => ?_⟩
    · rw [if_neg (i_nlt.mpr g)] at h; exact h
    · rw [if_pos (i_nle.mp g)] at h; exact h
  · rw [if_neg (by decide), if_neg (by decide), if_neg (by decide), if_neg (by decide), if_neg (by decide), if_neg (by decide), if_neg (by decide), if_neg (by decide)] at h
    rw [show pz_tgt 124 [(38, 90), (42, 145), (43, 137), (45, 141), (60, 104), (61, 115), (62, 126), (124, 76)] 149 = 76 by decide]
    refine pz_wp_ok (pz_Is_ok SX1_joined) [] 100 ?_
    refine ⟨fun g => ?_, fun g => ?_⟩
    · rw [if_neg g] at h; exact h
    · rw [if_pos g] at h
      refine ⟨fun g => ?_, fun g => ?_⟩
      · rw [if_pos g] at h; exact h
      · rw [if_neg g] at h; exact h
/-- a step as the pot's texts keep it -/
def nmx (key : Nat) (v : Int32) : Nat := if key = 0 then (if v = 98 then 0 else if v = 116 then 1 else 2) else (if v = 97 then 0 else 1)
def encS (key : Nat) (w v : Int32) : Int32 := if w = 0 then v else if w = 1 then nI (10000 + nmx key v) else -v
def okSt (key : Nat) (w v : Int32) : Prop := (w = 0 ∧ ∃ j, j < 10000 ∧ v = nI j) ∨ (w = 1 ∧ alw key v) ∨ (w = 2 ∧ (v = 33 ∨ v ∈ k_sgs))
/-- text number k is object i, and it says what the town's row says -/
def rTx (X : qX) (t : Nat → Int32) (k i : Nat) : Prop := i ≤ X.2.2.1 ∧ X.1 k = some (xr i) ∧ X.2.2.2.2 i 0 = t (142 + 200 * k + 2) ∧ X.2.2.2.2 i 1 = t (142 + 200 * k) ∧ X.2.2.2.2 i 2 = t (142 + 200 * k + 1) ∧ ∀ j, j < f_m t k → X.2.2.2.1 i j = encS (t (142 + 200 * k)).toNatClampNeg (t (142 + 200 * k + 4 + 2 * j)) (t (142 + 200 * k + 4 + 2 * j + 1)) ∧ okSt (t (142 + 200 * k)).toNatClampNeg (t (142 + 200 * k + 4 + 2 * j)) (t (142 + 200 * k + 4 + 2 * j + 1))
def rTxs (X : qX) (t : Nat → Int32) : Prop := ∀ k, k < f_nt t → ∃ i, rTx X t k i
set_option maxRecDepth 8000 in
theorem tL_last {t : Nat → Int32} {key many : Int32} {n : Nat} (hn : n ≤ 14) (hr : ∀ k, k < n → ∃ i, rTx X t k i) (h : Q (some (.int (ov (f_cnt t key n)))) (mem A F X)) : ∀ k, k ≤ n → f_cnt t key n = f_cnt t key k → ∀ x3 : Int32, x3 = nI k - 1 → pz_T z0 KX1_last Q 9 (0, 0) [some (.ref 1), some (.int key), some (.int many), some (.int x3)] [] (mem A F X) := by
  intro k
  induction k with
  | zero =>
    intro hk he x3 hx
    rw [he] at h
    subst hx
    refine pz_wp_ok (pz_Is_ok SX1_last) [9] 100 ?_
    refine br1 (fun z => z (by decide)) ?_
    exact h
  | succ k ih =>
    intro hk he x3 hx
    have e3 : x3 = nI k := by rw [hx]; exact nI_sub1 (a := k + 1) (b := 1) (by omega)
    clear hx
    subst e3
    obtain ⟨i, r1, r2, r3, r4, r5⟩ := hr k (by omega)
    have ck := qcl (x := nI k) k rfl (by omega)
    rw [f_cnt] at he
    refine pz_wp_ok (pz_Is_ok SX1_last) [9, 19] 100 ?_
    refine br2 (i_nlt.mpr (nI_pos' (by omega))) ?_
    refine ⟨qin k rfl (by omega) (by omega), ?_⟩
    rw [ck, r2]
    refine pz_wp_ok (pz_Is_ok SX1_last) [9, 28] 100 ?_
    refine ⟨qin k rfl (by omega) (by omega), ?_⟩
    rw [ck, r2]
    refine pz_T_get (r := xr i) (pz_Is_ok SX1_last (28, pz_get 4 2 31) (List.mem_of_getElem? (i := 17) rfl)) (mem_xo r1) rfl ?_
    refine pz_wp_ok (pz_Is_ok SX1_last) [9] 100 ?_
    refine ⟨fun g => ?_, fun g => ?_⟩
    · have g : ¬ X.2.2.2.2 i 1 = key := g
      rw [r4] at g
      rw [if_neg g] at he
      exact ih (by omega) he (nI k + -1) (by rw [Int32.sub_eq_add_neg])
    · have g : X.2.2.2.2 i 1 = key := g
      rw [r4] at g
      rw [if_pos g] at he
      rw [he] at h
      exact h
set_option maxRecDepth 8000 in
theorem cL_last {t : Nat → Int32} {key x : Int32} {n : Nat} (hx : x = nI n) (hn : n ≤ 14) (hr : ∀ k, k < n → ∃ i, rTx X t k i) (h : Q (some (.int (ov (f_cnt t key n)))) (mem A F X)) : pz_C yX1_last KX1_last [.ref 1, .int key, .int x] (mem A F X) Q := by
  subst hx
  refine pz_C_of rfl rfl rfl (Nat.le_of_ble_eq_true rfl) (pz_wp_ok (pz_Is_ok SX1_last) [9] 100 ?_)
  have e : (if (14 : Int32) < nI n then (14 : Int32) else nI n) = nI n := by
    by_cases z : (14 : Int32) < nI n
    · rw [i_lt, nIi (by omega), show (14 : Int32).toInt = 14 from rfl] at z
      omega
    · rw [if_neg z]
  exact tL_last hn hr h n (Nat.le_refl _) rfl ((if (14 : Int32) < nI n then (14 : Int32) else nI n) - 1) (by rw [e])
set_option maxRecDepth 8000 in
theorem cL_numbered {t : Nat → Int32} {k : Option Nat} (hk : ∀ n, k = some n → n < 14) (h : Q (some (va_rf (k.bind X.1))) (mem A F X)) : pz_C yX1_numbered KX1_numbered [.ref 1, .int (ov k)] (mem A F X) Q := by
  refine pz_C_of rfl rfl rfl (Nat.le_of_ble_eq_true rfl) (pz_wp_ok (pz_Is_ok SX1_numbered) [20] 100 ?_)
  cases k with
  | none =>
    refine cP_within 0 13 rfl rfl (fun g => absurd g.1 (by decide)) (fun _ => ?_)
    refine br1 (fun z => z rfl) ?_
    refine pz_wp_ok (pz_Is_ok SX1_numbered) [] 100 ?_
    exact h
  | some n =>
    have hn := hk n rfl
    refine cP_within 0 13 rfl rfl (fun _ => ?_) (fun g => absurd ⟨by show _ ≤ (nI n).toInt; rw [nIi (by omega)]; omega, by show (nI n).toInt ≤ _; rw [nIi (by omega)]; omega⟩ g)
    refine br2 (by decide) ?_
    refine ⟨qin n rfl hn (by omega), ?_⟩
    have cn : (ov (some n)).toNatClampNeg = n := qcl (x := nI n) n rfl (by omega)
    rw [cn]
    have h : Q (some (va_rf (X.1 n))) (mem A F X) := h
    generalize X.1 n = o at h
    cases o with
    | none =>
      refine pz_wp_ok (pz_Is_ok SX1_numbered) [] 100 ?_
      exact h
    | some r =>
      refine pz_wp_ok (pz_Is_ok SX1_numbered) [] 100 ?_
      exact h
theorem cL_counting {t : Nat → Int32} {key x : Int32} {n : Nat} (hx : x = nI n) (hn : n ≤ 14) (hr : ∀ k, k < n → ∃ i, rTx X t k i) (h0 : f_cnt t key n = none → Q (some .null) (mem A F X)) (h1 : ∀ k i, f_cnt t key n = some k → k < n → rTx X t k i → Q (some (.ref (xr i))) (mem A F X)) : pz_C yX1_counting KX1_counting [.ref 1, .int key, .int x] (mem A F X) Q := by
  refine pz_C_of rfl rfl rfl (Nat.le_of_ble_eq_true rfl) (pz_wp_ok (pz_Is_ok SX1_counting) [] 100 ?_)
  refine cL_last hx hn hr ?_
  refine cL_numbered (t := t) (k := f_cnt t key n) (fun m hm => by have := (f_cnt_lt _ _ _ _ hm).1; omega) ?_
  cases hc : f_cnt t key n with
  | none => exact h0 hc
  | some k =>
    have hk := (f_cnt_lt _ _ _ _ hc).1
    obtain ⟨i, hi⟩ := hr k hk
    have e : (some k).bind X.1 = some (xr i) := hi.2.1
    rw [e]
    exact h1 k i hc hk hi
end POT
