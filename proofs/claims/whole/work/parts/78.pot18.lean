/-! the pot's reader: the next word or sign -/
theorem b_val {x : Int32} (h : qIn 0 255 x) : (x.toInt8.toInt32).toInt = if x.toInt < 128 then x.toInt else x.toInt - 256 := by
  rw [Int8.toInt_toInt32, Int32.toInt_toInt8, Int.bmod_def]
  obtain ⟨h1, h2⟩ := h
  have e : x.toInt % ((2 ^ 8 : Nat) : Int) = x.toInt := Int.emod_eq_of_lt h1 (by show x.toInt < 256; omega)
  rw [e]
  show (if x.toInt < ((256 : Int) + 1) / 2 then x.toInt else x.toInt - 256) = _
  by_cases g : x.toInt < 128
  · rw [if_pos (by omega), if_pos g]
  · rw [if_neg (by omega), if_neg g]
theorem b_eqc {x c : Int32} (h : qIn 0 255 x) (hc : qIn 0 127 c) : x.toInt8.toInt32 = c ↔ x = c := by
  rw [i_eq, i_eq, b_val h]
  obtain ⟨h1, h2⟩ := h
  obtain ⟨c1, c2⟩ := hc
  by_cases g : x.toInt < 128
  · rw [if_pos g]
  · rw [if_neg g]; omega
theorem b_in {x : Int32} {lo hi : Int} (h : qIn 0 255 x) (h1 : 0 ≤ lo) (h2 : hi ≤ 127) : qIn lo hi (x.toInt8.toInt32) ↔ qIn lo hi x := by
  show (lo ≤ (x.toInt8.toInt32).toInt ∧ (x.toInt8.toInt32).toInt ≤ hi) ↔ (lo ≤ x.toInt ∧ x.toInt ≤ hi)
  rw [b_val h]
  obtain ⟨g1, g2⟩ := h
  by_cases g : x.toInt < 128
  · rw [if_pos g]
  · rw [if_neg g]; omega
def rR (F : qF) (n : Nat) (x : Nat × Nat × Nat) : Prop := F 2 = nI n ∧ F 3 = nI x.1 ∧ F 4 = nI x.2.1 ∧ F 5 = nI x.2.2
def rT (f T : Nat → Int32) (n : Nat) : Prop := rB f T n ∧ ∀ j, j < n → qIn 0 255 (T j)
section POT
variable {A A1 : qA} {F : qF} {X : qX} {Q : pz_Q} {M : pz_M} {T : Nat → Int32} {n : Nat}
theorem cR_isLetter {x : Int32} {i : Nat} (hT : rT (A 5) T n) (hn : n ≤ 96) (hx : x = nI i) (hi : i < n) (h1 : qIn 97 122 (T i) → Q (some (.int 1)) (mem A F X)) (h0 : ¬ qIn 97 122 (T i) → Q (some (.int 0)) (mem A F X)) : pz_C yX3_isLetter KX3_isLetter [.ref 36, .int x] (mem A F X) Q := by
  refine pz_C_of rfl rfl rfl (Nat.le_of_ble_eq_true rfl) (pz_wp_ok (pz_Is_ok SX3_isLetter) [] 100 ?_)
  have cx := qcl _ hx (by omega)
  refine ⟨qin _ hx (by omega) (by omega), ?_⟩
  rw [cx, hT.1 i hi]
  have hb := b_in (lo := 97) (hi := 122) (hT.2 i hi) (by omega) (by omega)
  exact cP_within 97 122 rfl rfl (fun g => ⟨Or.inr rfl, h1 (hb.mp g)⟩) (fun g => ⟨Or.inl rfl, h0 (fun z => g (hb.mpr z))⟩)
theorem cR_isDigit {x : Int32} {i : Nat} (hT : rT (A 5) T n) (hn : n ≤ 96) (hx : x = nI i) (hi : i < n) (h1 : qIn 48 57 (T i) → Q (some (.int 1)) (mem A F X)) (h0 : ¬ qIn 48 57 (T i) → Q (some (.int 0)) (mem A F X)) : pz_C yX3_isDigit KX3_isDigit [.ref 36, .int x] (mem A F X) Q := by
  refine pz_C_of rfl rfl rfl (Nat.le_of_ble_eq_true rfl) (pz_wp_ok (pz_Is_ok SX3_isDigit) [] 100 ?_)
  have cx := qcl _ hx (by omega)
  refine ⟨qin _ hx (by omega) (by omega), ?_⟩
  rw [cx, hT.1 i hi]
  have hb := b_in (lo := 48) (hi := 57) (hT.2 i hi) (by omega) (by omega)
  exact cP_within 48 57 rfl rfl (fun g => ⟨Or.inr rfl, h1 (hb.mp g)⟩) (fun g => ⟨Or.inl rfl, h0 (fun z => g (hb.mpr z))⟩)
set_option maxRecDepth 8000 in
theorem tR_sp {g w : Int32} {s : Nat} (hT : rT (A 5) T n) (hn : n ≤ 96) (h2 : F 2 = nI n) (h : ∀ F1 : qF, qagF [4] F F1 → F1 4 = nI s → pz_T z0 KX3_goesOn Q 73 (0, 0) [some (.ref 36), some (.int g), some (.int w)] [] (mem A F1 X)) : ∀ (d i : Nat), n ≤ d + i → i ≤ n → s = k_skip (k_sp T n) d i → ∀ F1 : qF, qagF [4] F F1 → F1 4 = nI i → pz_T z0 KX3_goesOn Q 35 (0, 0) [some (.ref 36), some (.int g), some (.int w)] [] (mem A F1 X) := by
  intro d
  induction d with
  | zero =>
    intro i hi hi2 hs F1 hF e3
    have e1 : F1 2 = nI n := by rw [hF 2 (by simp)]; exact h2
    refine pz_wp_ok (pz_Is_ok SX3_goesOn) [35, 73] 100 ?_
    refine br1 (fun z => z ?_) ?_
    · show F1 2 ≤ F1 4
      rw [e1, e3]; exact nI_le (by omega) (by omega)
    · rw [k_skip] at hs
      subst hs
      exact h F1 hF e3
  | succ d ih =>
    intro i hi hi2 hs F1 hF e3
    have e1 : F1 2 = nI n := by rw [hF 2 (by simp)]; exact h2
    have c3 := qcl _ e3 (by omega)
    refine pz_wp_ok (pz_Is_ok SX3_goesOn) [35, 73] 100 ?_
    by_cases g1 : i < n
    · refine br2 (fun z => ?_) ?_
      · have z : F1 2 ≤ F1 4 := z
        rw [e1, e3] at z
        exact n_ge (by omega) (by omega) g1 z
      refine ⟨qin i e3 (by omega) (by omega), ?_⟩
      rw [c3, hT.1 i g1]
      have hb := b_eqc (c := 32) (hT.2 i g1) ⟨by decide, by decide⟩
      refine ⟨fun g2 => ?_, fun g2 => ?_⟩
      · have g2 : ¬ (T i).toInt8.toInt32 = 32 := g2
        rw [hb] at g2
        rw [k_skip_0 (fun z => g2 (k_sp_i.mp z).2)] at hs
        subst hs
        exact h F1 hF e3
      · have g2 : (T i).toInt8.toInt32 = 32 := g2
        rw [hb] at g2
        rw [k_skip_1 (k_sp_i.mpr ⟨g1, g2⟩)] at hs
        exact ih (i + 1) (by omega) (by omega) hs (upd F1 4 (F1 4 + 1)) (hF.trans (qagF.up (by simp))) (by rw [upd_at, e3]; exact nI_1 i)
    · refine br1 (fun z => z ?_) ?_
      · show F1 2 ≤ F1 4
        rw [e1, e3]; exact nI_le (by omega) (by omega)
      · rw [k_skip_0 (fun z => g1 (k_sp_i.mp z).1)] at hs
        subst hs
        exact h F1 hF e3
set_option maxRecDepth 8000 in
theorem tR_L {x1 x2 : Option Value} {s : Nat} (hT : rT (A 5) T n) (hn : n ≤ 96) (h2 : F 2 = nI n) (h : ∀ F1 : qF, qagF [5] F F1 → F1 5 = nI s → pz_T z0 KX3_goesOn Q 146 (0, 0) [some (.ref 36), x1, x2] [] (mem A F1 X)) : ∀ (d i : Nat), n ≤ d + i → i ≤ n → s = k_skip (k_L T n) d i → ∀ F1 : qF, qagF [5] F F1 → F1 5 = nI i → pz_T z0 KX3_goesOn Q 111 (0, 0) [some (.ref 36), x1, x2] [] (mem A F1 X) := by
  intro d
  induction d with
  | zero =>
    intro i hi hi2 hs F1 hF e3
    have e1 : F1 2 = nI n := by rw [hF 2 (by simp)]; exact h2
    refine pz_wp_ok (pz_Is_ok SX3_goesOn) [111, 146] 100 ?_
    refine br1 (fun z => z ?_) ?_
    · show F1 2 ≤ F1 5
      rw [e1, e3]; exact nI_le (by omega) (by omega)
    · rw [k_skip] at hs
      subst hs
      exact h F1 hF e3
  | succ d ih =>
    intro i hi hi2 hs F1 hF e3
    have e1 : F1 2 = nI n := by rw [hF 2 (by simp)]; exact h2
    refine pz_wp_ok (pz_Is_ok SX3_goesOn) [111, 146] 100 ?_
    by_cases g1 : i < n
    · refine br2 (fun z => ?_) ?_
      · have z : F1 2 ≤ F1 5 := z
        rw [e1, e3] at z
        exact n_ge (by omega) (by omega) g1 z
      refine cR_isLetter hT hn e3 g1 (fun g => ?_) (fun g => ?_)
      · refine br2 (by decide) ?_
        rw [k_skip_1 (k_L_i.mpr ⟨g1, g⟩)] at hs
        exact ih (i + 1) (by omega) (by omega) hs (upd F1 5 (F1 5 + 1)) (hF.trans (qagF.up (by simp))) (by rw [upd_at, e3]; exact nI_1 i)
      · refine br1 (fun z => z rfl) ?_
        rw [k_skip_0 (fun z => g (k_L_i.mp z).2)] at hs
        subst hs
        exact h F1 hF e3
    · refine br1 (fun z => z ?_) ?_
      · show F1 2 ≤ F1 5
        rw [e1, e3]; exact nI_le (by omega) (by omega)
      · rw [k_skip_0 (fun z => g1 (k_L_i.mp z).1)] at hs
        subst hs
        exact h F1 hF e3
set_option maxRecDepth 8000 in
theorem tR_D {x1 x2 : Option Value} {s : Nat} (hT : rT (A 5) T n) (hn : n ≤ 96) (h2 : F 2 = nI n) (h : ∀ F1 : qF, qagF [5] F F1 → F1 5 = nI s → pz_T z0 KX3_goesOn Q 200 (0, 0) [some (.ref 36), x1, x2] [] (mem A F1 X)) : ∀ (d i : Nat), n ≤ d + i → i ≤ n → s = k_skip (k_D T n) d i → ∀ F1 : qF, qagF [5] F F1 → F1 5 = nI i → pz_T z0 KX3_goesOn Q 165 (0, 0) [some (.ref 36), x1, x2] [] (mem A F1 X) := by
  intro d
  induction d with
  | zero =>
    intro i hi hi2 hs F1 hF e3
    have e1 : F1 2 = nI n := by rw [hF 2 (by simp)]; exact h2
    refine pz_wp_ok (pz_Is_ok SX3_goesOn) [165, 200] 100 ?_
    refine br1 (fun z => z ?_) ?_
    · show F1 2 ≤ F1 5
      rw [e1, e3]; exact nI_le (by omega) (by omega)
    · rw [k_skip] at hs
      subst hs
      exact h F1 hF e3
  | succ d ih =>
    intro i hi hi2 hs F1 hF e3
    have e1 : F1 2 = nI n := by rw [hF 2 (by simp)]; exact h2
    refine pz_wp_ok (pz_Is_ok SX3_goesOn) [165, 200] 100 ?_
    by_cases g1 : i < n
    · refine br2 (fun z => ?_) ?_
      · have z : F1 2 ≤ F1 5 := z
        rw [e1, e3] at z
        exact n_ge (by omega) (by omega) g1 z
      refine cR_isDigit hT hn e3 g1 (fun g => ?_) (fun g => ?_)
      · refine br2 (by decide) ?_
        rw [k_skip_1 (k_D_i.mpr ⟨g1, g⟩)] at hs
        exact ih (i + 1) (by omega) (by omega) hs (upd F1 5 (F1 5 + 1)) (hF.trans (qagF.up (by simp))) (by rw [upd_at, e3]; exact nI_1 i)
      · refine br1 (fun z => z rfl) ?_
        rw [k_skip_0 (fun z => g (k_D_i.mp z).2)] at hs
        subst hs
        exact h F1 hF e3
    · refine br1 (fun z => z ?_) ?_
      · show F1 2 ≤ F1 5
        rw [e1, e3]; exact nI_le (by omega) (by omega)
      · rw [k_skip_0 (fun z => g1 (k_D_i.mp z).1)] at hs
        subst hs
        exact h F1 hF e3
set_option maxRecDepth 8000 in
theorem tR_240 {s e q u : Nat} {b : Bool} {p : Prop} (hb : b = true ↔ p) (hs : s < 1000) (he : e < 1000) (hq : q < 5) (h3 : F 3 = nI q) (h4 : F 4 = nI s) (hu1 : (p ∧ s = e ∧ (q = 1 ∨ q = 2)) → u = 4) (hu2 : ¬ (p ∧ s = e ∧ (q = 1 ∨ q = 2)) → u = q) (h : ∀ F' : qF, qagF [3] F F' → F' 3 = nI u → Q none (mem A F' X)) : pz_T z0 KX3_goesOn Q 240 (0, 0) [some (.ref 36), some (.int (bI b)), some (.int (nI e))] [] (mem A F X) := by
  have no : ¬ (p ∧ s = e ∧ (q = 1 ∨ q = 2)) → Q none (mem A F X) := fun z => h F (qagF.refl _ _) (by rw [h3, hu2 z])
  have yes : (p ∧ s = e ∧ (q = 1 ∨ q = 2)) → Q none (mem A (upd F 3 4) X) := fun z => h _ (qagF.up (by simp)) (by rw [upd_at, hu1 z]; rfl)
  refine pz_wp_ok (pz_Is_ok SX3_goesOn) [] 100 ?_
  cases b with
  | false =>
    refine br1 (fun z => z rfl) ?_
    exact no (fun z => Bool.noConfusion (hb.mpr z.1))
  | true =>
    refine br2 (by decide) ?_
    refine ⟨fun g => ?_, fun g => ?_⟩
    · have g : ¬ F 4 = nI e := g
      rw [h4] at g
      exact no (fun z => g (by rw [z.2.1]))
    · have g : F 4 = nI e := g
      rw [h4] at g
      have g := (nI_eq (by omega) (by omega)).mp g
      refine ⟨fun g2 => ?_, fun g2 => ?_⟩
      · have g2 : F 3 = 1 := g2
        rw [h3] at g2
        have g2 : q = 1 := (nI_eq (a := q) (b := 1) (by omega) (by omega)).mp g2
        exact yes ⟨hb.mp rfl, g, Or.inl g2⟩
      · have g2 : ¬ F 3 = 1 := g2
        rw [h3] at g2
        refine ⟨fun g3 => ?_, fun g3 => ?_⟩
        · have g3 : ¬ F 3 = 2 := g3
          rw [h3] at g3
          exact no (fun z => z.2.2.elim (fun y => g2 (by rw [y]; rfl)) (fun y => g3 (by rw [y]; rfl)))
        · have g3 : F 3 = 2 := g3
          rw [h3] at g3
          have g3 : q = 2 := (nI_eq (a := q) (b := 2) (by omega) (by omega)).mp g3
          exact yes ⟨hb.mp rfl, g, Or.inr g3⟩
set_option maxRecDepth 8000 in
theorem tR_81 {s e : Nat} {b : Bool} {p : Prop} (hb : b = true ↔ p) (hT : rT (A 5) T n) (hn : n ≤ 96) (hs : s ≤ n) (he : e ≤ n) (h2 : F 2 = nI n) (h4 : F 4 = nI s) (h5 : F 5 = nI s) (pd : Decidable p) (h : ∀ F' : qF, qagF [3, 5] F F' → F' 3 = nI (k_tok2 T n (decide (p ∧ s = e)) s).1 → F' 5 = nI (k_tok2 T n (decide (p ∧ s = e)) s).2.2 → Q none (mem A F' X)) : pz_T z0 KX3_goesOn Q 81 (0, 0) [some (.ref 36), some (.int (bI b)), some (.int (nI e))] [] (mem A F X) := by
  refine pz_wp_ok (pz_Is_ok SX3_goesOn) [111, 165, 240] 100 ?_
  have hsd := fun (x : Nat → Nat × Nat × Nat) => x
  by_cases g0 : s = n
  · have ek : k_tok2 T n (decide (p ∧ s = e)) s = (0, s, s) := by unfold k_tok2; rw [if_pos g0]
    rw [ek] at h
    refine br2 (fun z => ?_) ?_
    · have z : F 4 < F 2 := z
      rw [h4, h2, i_lt, nIi (by omega), nIi (by omega)] at z
      omega
    refine tR_240 (s := s) (q := 0) (u := 0) hb (by omega) (by omega) (by omega) (upd_at _ _ _) (by rw [upd_ne _ _ (by omega)]; exact h4) (fun z => by omega) (fun _ => rfl) (fun F' hF e3 => ?_)
    exact h F' ((qagF.up (by simp)).trans (fun i hi => hF i (by simp at hi ⊢; omega))) e3 (by rw [hF 5 (by simp), upd_ne _ _ (by omega)]; exact h5)
  refine br1 (fun z => z ?_) ?_
  · show F 4 < F 2
    rw [h4, h2, i_lt, nIi (by omega), nIi (by omega)]
    omega
  have hsn : s < n := by omega
  refine cR_isLetter hT hn h4 hsn (fun g1 => ?_) (fun g1 => ?_)
  · refine br2 (by decide) ?_
    have ek : k_tok2 T n (decide (p ∧ s = e)) s = (if decide (p ∧ s = e) = true then 4 else 1, s, k_skip (k_L T n) 96 s) := by
      unfold k_tok2
      rw [if_neg g0, if_pos (k_L_i.mpr ⟨hsn, g1⟩)]
    rw [ek] at h
    refine tR_L (F := F) (s := k_skip (k_L T n) 96 s) hT hn h2 (fun F1 hF e5 => ?_) 96 s (by omega) hs rfl F (qagF.refl _ _) h5
    refine pz_wp_ok (pz_Is_ok SX3_goesOn) [240] 100 ?_
    refine tR_240 (s := s) (q := 1) (u := if decide (p ∧ s = e) = true then 4 else 1) hb (by omega) (by omega) (by omega) (upd_at _ _ _) (by rw [upd_ne _ _ (by omega), hF 4 (by simp)]; exact h4) (fun z => by rw [if_pos (decide_eq_true ⟨z.1, z.2.1⟩)]) (fun z => by rw [if_neg (fun y => z ⟨(of_decide_eq_true y).1, (of_decide_eq_true y).2, Or.inl rfl⟩)]) (fun F' hF' e3 => ?_)
    exact h F' (((show qagF [3, 5] F F1 from fun i hi => hF i (by simp at hi ⊢; omega)).trans (qagF.up (by simp))).trans (fun i hi => hF' i (by simp at hi ⊢; omega))) e3 (by rw [hF' 5 (by simp), upd_ne _ _ (by omega)]; exact e5)
  refine br1 (fun z => z rfl) ?_
  refine cR_isDigit hT hn h4 hsn (fun g2 => ?_) (fun g2 => ?_)
  · refine br2 (by decide) ?_
    have ek : k_tok2 T n (decide (p ∧ s = e)) s = (if decide (p ∧ s = e) = true ∨ 4 < k_skip (k_D T n) 96 s - s then 4 else 2, s, k_skip (k_D T n) 96 s) := by
      unfold k_tok2
      rw [if_neg g0, if_neg (fun z => g1 (k_L_i.mp z).2), if_pos (k_D_i.mpr ⟨hsn, g2⟩)]
    rw [ek] at h
    have a1 := k_skip_ge (k_D T n) 96 s
    have a2 := k_skip_in (p := k_D T n) (n := n) (fun j hj => (k_D_i.mp hj).1) 96 s hs
    refine tR_D (F := F) (s := k_skip (k_D T n) 96 s) hT hn h2 (fun F1 hF e5 => ?_) 96 s (by omega) hs rfl F (qagF.refl _ _) h5
    generalize k_skip (k_D T n) 96 s = e' at h a1 a2 e5
    have e4 : F1 4 = nI s := by rw [hF 4 (by simp)]; exact h4
    have ed : F1 5 - F1 4 = nI (e' - s) := by rw [e5, e4]; exact nI_sub1 a1
    have ag : ∀ v : Int32, qagF [3, 5] F (upd F1 3 v) := fun v => (show qagF [3, 5] F F1 from fun i hi => hF i (by simp at hi ⊢; omega)).trans (qagF.up (by simp))
    refine pz_wp_ok (pz_Is_ok SX3_goesOn) [240] 100 ?_
    refine ⟨fun g3 => ?_, fun g3 => ?_⟩
    · have g3 : F1 5 - F1 4 ≤ 4 := g3
      rw [ed] at g3
      have g3 : e' - s ≤ 4 := (nI_leI (a := e' - s) (b := 4) (by omega) (by omega)).mp g3
      refine tR_240 (s := s) (q := 2) (u := if decide (p ∧ s = e) = true ∨ 4 < e' - s then 4 else 2) hb (by omega) (by omega) (by omega) (upd_at _ _ _) (by rw [upd_ne _ _ (by omega)]; exact e4) (fun z => by rw [if_pos (Or.inl (decide_eq_true ⟨z.1, z.2.1⟩))]) (fun z => by rw [if_neg (fun y => y.elim (fun y => z ⟨(of_decide_eq_true y).1, (of_decide_eq_true y).2, Or.inr rfl⟩) (fun y => by omega))]) (fun F' hF' e3 => ?_)
      exact h F' ((ag _).trans (fun i hi => hF' i (by simp at hi ⊢; omega))) e3 (by rw [hF' 5 (by simp), upd_ne _ _ (by omega)]; exact e5)
    · have g3 : ¬ F1 5 - F1 4 ≤ 4 := g3
      rw [ed] at g3
      have g3 : ¬ e' - s ≤ 4 := fun z => g3 ((nI_leI (a := e' - s) (b := 4) (by omega) (by omega)).mpr z)
      refine tR_240 (s := s) (q := 4) (u := if decide (p ∧ s = e) = true ∨ 4 < e' - s then 4 else 2) hb (by omega) (by omega) (by omega) (upd_at _ _ _) (by rw [upd_ne _ _ (by omega)]; exact e4) (fun z => by omega) (fun z => by rw [if_pos (Or.inr (by omega))]) (fun F' hF' e3 => ?_)
      exact h F' ((ag _).trans (fun i hi => hF' i (by simp at hi ⊢; omega))) e3 (by rw [hF' 5 (by simp), upd_ne _ _ (by omega)]; exact e5)
  · refine br1 (fun z => z rfl) ?_
    have ek : k_tok2 T n (decide (p ∧ s = e)) s = (3, s, s + 1) := by
      unfold k_tok2
      rw [if_neg g0, if_neg (fun z => g1 (k_L_i.mp z).2), if_neg (fun z => g2 (k_D_i.mp z).2)]
    rw [ek] at h
    refine tR_240 (F := upd (upd F 5 (F 5 + 1)) 3 3) (s := s) (q := 3) (u := 3) hb (by omega) (by omega) (by omega) (upd_at _ _ _) (by rw [upd_ne _ _ (by omega), upd_ne _ _ (by omega)]; exact h4) (fun z => by omega) (fun _ => rfl) (fun F' hF e3 => ?_)
    exact h F' (((qagF.up (by simp)).trans (qagF.up (by simp))).trans (fun i hi => hF i (by simp at hi ⊢; omega))) e3 (by rw [hF 5 (by simp), upd_ne _ _ (by omega), upd_at, h5]; exact nI_1 s)
set_option maxRecDepth 8000 in
theorem cR_goesOn {srt e : Nat} (hT : rT (A 5) T n) (hn : n ≤ 96) (he : e ≤ n) (hs : srt < 5) (h2 : F 2 = nI n) (h3 : F 3 = nI srt) (h5 : F 5 = nI e) (h : ∀ F' : qF, qagF [3, 4, 5] F F' → rR F' n (k_tok T n srt e) → Q none (mem A F' X)) : pz_C yX3_goesOn KX3_goesOn [.ref 36] (mem A F X) Q := by
  refine pz_C_of rfl rfl rfl (Nat.le_of_ble_eq_true rfl) (pz_wp_ok (pz_Is_ok SX3_goesOn) [35] 100 ?_)
  rw [k_tok_2] at h
  have h1 := k_skip_ge (k_sp T n) 96 e
  have hk := k_skip_in (p := k_sp T n) (n := n) (fun j hj => (k_sp_i.mp hj).1) 96 e he
  have key : ∀ b : Bool, (b = true ↔ (srt = 1 ∨ srt = 2)) → pz_T z0 KX3_goesOn Q 35 (0, 0) [some (.ref 36), some (.int (bI b)), some (.int (F 5))] [] (mem A (upd F 4 (F 5)) X) := fun b hb => by
    refine tR_sp (F := upd F 4 (F 5)) (s := k_skip (k_sp T n) 96 e) hT hn (by rw [upd_ne _ _ (by omega)]; exact h2) (fun F1 hF e4 => ?_) 96 e (by omega) he rfl (upd F 4 (F 5)) (qagF.refl _ _) (by rw [upd_at]; exact h5)
    generalize k_skip (k_sp T n) 96 e = s at h h1 hk e4
    have ag1 : qagF [3, 4, 5] F F1 := (qagF.up (by simp)).trans (fun i hi => hF i (by simp at hi ⊢; omega))
    have k2 : (k_tok2 T n (decide ((srt = 1 ∨ srt = 2) ∧ s = e)) s).2.1 = s := by
      unfold k_tok2
      repeat' split
      all_goals rfl
    rw [h5]
    refine pz_wp_ok (pz_Is_ok SX3_goesOn) [81] 100 ?_
    refine tR_81 (F := upd F1 5 (F1 4)) (s := s) (e := e) hb hT hn hk he (by rw [upd_ne _ _ (by omega), hF 2 (by simp), upd_ne _ _ (by omega)]; exact h2) (by rw [upd_ne _ _ (by omega)]; exact e4) (by rw [upd_at]; exact e4) inferInstance (fun F' hF' e3 e5 => ?_)
    refine h F' ((ag1.trans (qagF.up (by simp))).trans (fun i hi => hF' i (by simp at hi ⊢; omega))) ⟨?_, e3, ?_, e5⟩
    · rw [hF' 2 (by simp), upd_ne _ _ (by omega), hF 2 (by simp), upd_ne _ _ (by omega)]; exact h2
    · rw [k2, hF' 4 (by simp), upd_ne _ _ (by omega)]; exact e4
  refine ⟨fun g1 => ?_, fun g1 => ?_⟩
  · have g1 : F 3 = 1 := g1
    rw [h3] at g1
    have g1 : srt = 1 := (nI_eq (a := srt) (b := 1) (by omega) (by omega)).mp g1
    exact key true ⟨fun _ => Or.inl g1, fun _ => rfl⟩
  · have g1 : ¬ F 3 = 1 := g1
    rw [h3] at g1
    refine ⟨fun g2 => ?_, fun g2 => ?_⟩
    · have g2 : ¬ F 3 = 2 := g2
      rw [h3] at g2
      exact key false ⟨fun z => Bool.noConfusion z, fun z => z.elim (fun q => absurd (by rw [q]; rfl) g1) (fun q => absurd (by rw [q]; rfl) g2)⟩
    · have g2 : F 3 = 2 := g2
      rw [h3] at g2
      have g2 : srt = 2 := (nI_eq (a := srt) (b := 2) (by omega) (by omega)).mp g2
      exact key true ⟨fun _ => Or.inr g2, fun _ => rfl⟩
end POT
