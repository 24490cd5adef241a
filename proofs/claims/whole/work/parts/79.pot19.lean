/-! the pot's reader: signs, numbers, words, names -/
theorem ch_small : ∀ m, m < 128 → ((nI m).toUInt32 % 65536).toInt32 = nI m := by decide
theorem b_letter {x : Int32} (h : qIn 0 127 x) : x.toInt8.toInt32 = x := by
  obtain ⟨m, m1, m2, m3⟩ := qIn_nat h
  rw [m3]
  exact b_small (by omega)
theorem nmi_alw {key : Nat} {v : Int32} (hk : key < 3) : nmi (3 + key) v = if alwb key v = true then nI (nmx key v) else -1 := by
  have : key = 0 ∨ key = 1 ∨ key = 2 := by omega
  rcases this with e | e | e <;> subst e
  · unfold nmi nmx
    rw [if_pos rfl]
    by_cases h1 : v = 98
    · subst h1; rfl
    · by_cases h2 : v = 116
      · subst h2; rfl
      · by_cases h3 : v = 112
        · subst h3; rfl
        · rw [if_neg h1, if_neg h2, if_neg h3, if_neg (fun z => by
            rcases alwb_i.mp z with ⟨-, y | y | y⟩ | ⟨y, -⟩ | ⟨y, -⟩
            · exact h1 y
            · exact h2 y
            · exact h3 y
            · omega
            · omega)]
  · unfold nmi nmx
    rw [if_neg (by decide), if_pos rfl]
    by_cases h1 : v = 97
    · subst h1; rfl
    · by_cases h2 : v = 112
      · subst h2; rfl
      · rw [if_neg h1, if_neg h2, if_neg (fun z => by
          rcases alwb_i.mp z with ⟨y, -⟩ | ⟨-, y | y⟩ | ⟨y, -⟩
          · omega
          · exact h1 y
          · exact h2 y
          · omega)]
  · unfold nmi nmx
    rw [if_neg (by decide), if_neg (by decide)]
    by_cases h1 : v = 97
    · subst h1; rfl
    · by_cases h2 : v = 99
      · subst h2; rfl
      · rw [if_neg h1, if_neg h2, if_neg (fun z => by
          rcases alwb_i.mp z with ⟨y, -⟩ | ⟨y, -⟩ | ⟨-, y | y⟩
          · omega
          · omega
          · exact h1 y
          · exact h2 y)]
section POT
variable {A A1 : qA} {F : qF} {X : qX} {Q : pz_Q} {M : pz_M} {T : Nat → Int32} {n : Nat} {x : Nat × Nat × Nat}
theorem pz_T_cv0 {φ : pz_V → State → Prop} {κ κ' : pz_K} {pc ci na n r : Nat} {y : MethodName} {fs av S' : List Value} {u : Nat × Nat} {L : pz_L} {S : List Value} (hS : pz_S κ pc (pz_cv0 y κ' ci na n)) (ht : pz_take na [] S = some (.ref r :: av, S')) (hn : pz_nth M r = some (.inr (.inr (ci, fs)))) (hc : Nat.ble (pz_cat S') 8 = true) (h : pz_C y κ' (.ref r :: av) M (fun v M' => pz_T φ κ Q n u L (pz_ps v S') M')) : pz_T φ κ Q pc u L S M := by
  refine hS φ Q (fun pc u L S M => pz_T φ κ Q pc u L S M) u L _ M ?_ (fun _ _ _ _ _ z => z)
  unfold pz_cv0
  rw [ht]
  dsimp only
  rw [hn]
  dsimp only
  rw [show (ci == ci) = true from beq_self_eq_true ci]
  dsimp only
  rw [hc]
  exact h
theorem mem_xd {i : Nat} (hd : X.2.1 = xr i) (hi : i ≤ X.2.2.1) : pz_nth (mem A F X) X.2.1 = some (qx_o X i (xc i)) := by
  rw [hd]
  exact mem_xo hi
set_option maxRecDepth 8000 in
theorem cR_isSign {c : Int32} (hT : rT (A 5) T n) (hn : n ≤ 96) (hR : rR F n x) (hk : k_ok T n x) (hc : qIn 0 127 c) (h1 : x.1 = 3 ∧ T x.2.1 = c → Q (some (.int 1)) (mem A F X)) (h0 : ¬ (x.1 = 3 ∧ T x.2.1 = c) → Q (some (.int 0)) (mem A F X)) : pz_C yX3_isSign KX3_isSign [.ref 36, .int c] (mem A F X) Q := by
  obtain ⟨r1, r2, r3, r4⟩ := hR
  obtain ⟨k1, k2, k3, k4, -⟩ := hk
  refine pz_C_of rfl rfl rfl (Nat.le_of_ble_eq_true rfl) (pz_wp_ok (pz_Is_ok SX3_isSign) [] 100 ?_)
  have cs := qcl _ r3 (by omega)
  refine ⟨fun g => ?_, fun g => ?_⟩
  · have g : ¬ F 3 = 3 := g
    rw [r2] at g
    exact ⟨Or.inl rfl, h0 (fun z => g (by rw [z.1]; rfl))⟩
  · have g : F 3 = 3 := g
    rw [r2] at g
    have g : x.1 = 3 := (nI_eq (a := x.1) (b := 3) (by omega) (by omega)).mp g
    have hlt := k4 (by omega)
    refine ⟨qin _ r3 (by omega) (by omega), ?_⟩
    rw [cs, hT.1 _ (by omega)]
    have hb := b_eqc (hT.2 x.2.1 (by omega)) hc
    refine ⟨fun g2 => ?_, fun g2 => ?_⟩
    · have g2 : ¬ (T x.2.1).toInt8.toInt32 = c := g2
      rw [hb] at g2
      exact ⟨Or.inl rfl, h0 (fun z => g2 z.2)⟩
    · have g2 : (T x.2.1).toInt8.toInt32 = c := g2
      rw [hb] at g2
      exact ⟨Or.inr rfl, h1 ⟨g, g2⟩⟩
set_option maxRecDepth 8000 in
theorem tR_number (hT : rT (A 5) T n) (hn : n ≤ 96) (hR : rR F n x) (hk : k_ok T n x) (hx : x.1 = 2) (h : Q (some (.int (k_num T x.2.1 (x.2.2 - x.2.1)))) (mem A F X)) : ∀ (d i : Nat), i + d = x.2.2 - x.2.1 → pz_T z0 KX3_numberHere Q 7 (0, 0) [some (.ref 36), some (.int (k_num T x.2.1 i)), some (.int (nI (x.2.1 + i)))] [] (mem A F X) := by
  obtain ⟨r1, r2, r3, r4⟩ := hR
  obtain ⟨k1, k2, k3, k4, k5, k6⟩ := hk
  have hd := (k6 hx).1
  intro d
  induction d with
  | zero =>
    intro i hi
    have hi : i = x.2.2 - x.2.1 := by omega
    subst hi
    refine pz_wp_ok (pz_Is_ok SX3_numberHere) [7] 100 ?_
    refine br1 (fun z => z ?_) h
    show F 5 ≤ nI (x.2.1 + (x.2.2 - x.2.1))
    rw [r4]
    exact nI_le (by omega) (by omega)
  | succ d ih =>
    intro i hi
    have ci := qcl (x := nI (x.2.1 + i)) (x.2.1 + i) rfl (by omega)
    refine pz_wp_ok (pz_Is_ok SX3_numberHere) [7] 100 ?_
    refine br2 (fun z => ?_) ?_
    · have z : F 5 ≤ nI (x.2.1 + i) := z
      rw [r4] at z
      exact n_ge (by omega) (by omega) (by omega) z
    refine ⟨qin (x.2.1 + i) rfl (by omega) (by omega), ?_⟩
    have hdi := hd (x.2.1 + i) (by omega) (by omega)
    rw [ci, hT.1 _ (by omega), b_letter ⟨by have := hdi.1; omega, by have := hdi.2; omega⟩]
    refine qT (ih (i + 1) (by omega)) ?_ rfl rfl
    rw [k_num, show x.2.1 + (i + 1) = x.2.1 + i + 1 by omega, ← nI_1 (x.2.1 + i)]
    rfl
theorem cR_number (hT : rT (A 5) T n) (hn : n ≤ 96) (hR : rR F n x) (hk : k_ok T n x) (hx : x.1 = 2) (h : Q (some (.int (k_num T x.2.1 (x.2.2 - x.2.1)))) (mem A F X)) : pz_C yX3_numberHere KX3_numberHere [.ref 36] (mem A F X) Q := by
  refine pz_C_of rfl rfl rfl (Nat.le_of_ble_eq_true rfl) (pz_wp_ok (pz_Is_ok SX3_numberHere) [7] 100 ?_)
  have r3 := hR.2.2.1
  have := tR_number hT hn hR hk hx h (x.2.2 - x.2.1) 0 (by omega)
  rw [Nat.add_zero, ← r3] at this
  exact this
set_option maxRecDepth 8000 in
theorem tR_word0 (hT : rT (A 5) T n) (hn : n ≤ 96) (h4 : F 4 = nI x.2.1) (hb : x.2.1 + 4 ≤ n) : ∀ (d j : Nat), j + d = 4 → ((∀ k, j ≤ k → k < 4 → T (x.2.1 + k) = (pz_byt.getD 0 []).getD k 0) → Q (some (.int 1)) (mem A F X)) → (¬ (∀ k, j ≤ k → k < 4 → T (x.2.1 + k) = (pz_byt.getD 0 []).getD k 0) → Q (some (.int 0)) (mem A F X)) → pz_T z0 KX3_isWord Q 28 (0, 0) [some (.ref 36), some (.ref 1000010), some (.int (nI j))] [] (mem A F X) := by
  intro d
  induction d with
  | zero =>
    intro j hj h1 h0
    have hj : j = 4 := by omega
    subst hj
    refine pz_wp_ok (pz_Is_ok SX3_isWord) [28] 100 ?_
    refine cJ_length (i := 0) (by omega) ?_
    refine br1 (fun z => z (by decide)) ?_
    exact ⟨Or.inr rfl, h1 (fun k a b => by omega)⟩
  | succ d ih =>
    intro j hj h1 h0
    have es : F 4 + nI j = nI (x.2.1 + j) := by rw [h4]; exact nI_add _ _
    have cs := qcl _ es (by omega)
    refine pz_wp_ok (pz_Is_ok SX3_isWord) [28] 100 ?_
    refine cJ_length (i := 0) (by omega) ?_
    refine br2 (n_ge (b := 4) (by omega) (by omega) (by omega)) ?_
    refine ⟨qin _ es (by omega) (by omega), ?_⟩
    rw [cs, hT.1 _ (by omega)]
    refine cJ_charAt (i := 0) (j := j) (by omega) rfl (show j < 4 by omega) ?_
    have hc : qIn 0 127 ((pz_byt.getD 0 []).getD j 0) := by
      have : j = 0 ∨ j = 1 ∨ j = 2 ∨ j = 3 := by omega
      rcases this with e | e | e | e <;> subst e <;> exact ⟨by decide, by decide⟩
    have hbq := b_eqc (hT.2 (x.2.1 + j) (by omega)) hc
    refine ⟨fun g => ?_, fun g => ?_⟩
    · have g : (T (x.2.1 + j)).toInt8.toInt32 = (pz_byt.getD 0 []).getD j 0 := g
      rw [hbq] at g
      refine qT (ih (j + 1) (by omega) (fun z => h1 (fun k a b => ?_)) (fun z => h0 (fun y => z (fun k a b => y k (by omega) b)))) (by rw [← nI_1 j]; rfl) rfl rfl
      by_cases e : k = j
      · rw [e]; exact g
      · exact z k (by omega) b
    · have g : ¬ (T (x.2.1 + j)).toInt8.toInt32 = (pz_byt.getD 0 []).getD j 0 := g
      rw [hbq] at g
      exact ⟨Or.inl rfl, h0 (fun y => g (y j (Nat.le_refl _) (by omega)))⟩
set_option maxRecDepth 8000 in
theorem cR_isWord0 (hT : rT (A 5) T n) (hn : n ≤ 96) (hR : rR F n x) (hk : k_ok T n x) (h1 : k_wd T x 98 111 105 108 = true → Q (some (.int 1)) (mem A F X)) (h0 : ¬ k_wd T x 98 111 105 108 = true → Q (some (.int 0)) (mem A F X)) : pz_C yX3_isWord KX3_isWord [.ref 36, .ref 1000010] (mem A F X) Q := by
  obtain ⟨r1, r2, r3, r4⟩ := hR
  obtain ⟨k1, k2, k3, k4, -⟩ := hk
  unfold k_wd at h1 h0
  rw [decide_eq_true_iff] at h1 h0
  have ed : F 5 - F 4 = nI (x.2.2 - x.2.1) := by rw [r4, r3]; exact nI_sub1 k1
  have e34 : (if (108 : Int32) = 0 then 3 else 4) = 4 := by decide
  rw [e34] at h1 h0
  refine pz_C_of rfl rfl rfl (Nat.le_of_ble_eq_true rfl) (pz_wp_ok (pz_Is_ok SX3_isWord) [28] 100 ?_)
  refine ⟨fun g => ?_, fun g => ?_⟩
  · have g : ¬ F 3 = 1 := g
    rw [r2] at g
    exact ⟨Or.inl rfl, h0 (fun z => g (by rw [z.1]; rfl))⟩
  have g : F 3 = 1 := g
  rw [r2] at g
  have g1 : x.1 = 1 := (nI_eq (a := x.1) (b := 1) (by omega) (by omega)).mp g
  refine cJ_length (i := 0) (by omega) ?_
  refine ⟨fun g => ?_, fun g => ?_⟩
  · have g : F 5 - F 4 = nI 4 := g
    rw [ed] at g
    have g2 := (nI_eq (by omega) (by omega)).mp g
    refine tR_word0 hT hn r3 (by omega) 4 0 (by omega) (fun z => h1 ⟨g1, g2, z 0 (by omega) (by omega), z 1 (by omega) (by omega), z 2 (by omega) (by omega), Or.inr (z 3 (by omega) (by omega))⟩) (fun z => h0 (fun y => z (fun k a b => ?_)))
    have : k = 0 ∨ k = 1 ∨ k = 2 ∨ k = 3 := by omega
    rcases this with e | e | e | e <;> subst e
    · exact y.2.2.1
    · exact y.2.2.2.1
    · exact y.2.2.2.2.1
    · exact y.2.2.2.2.2.elim (fun q => absurd q (by decide)) id
  · have g : ¬ F 5 - F 4 = nI 4 := g
    rw [ed] at g
    exact ⟨Or.inl rfl, h0 (fun z => g (by rw [z.2.1]))⟩
set_option maxRecDepth 8000 in
theorem tR_word1 (hT : rT (A 5) T n) (hn : n ≤ 96) (h4 : F 4 = nI x.2.1) (hb : x.2.1 + 3 ≤ n) : ∀ (d j : Nat), j + d = 3 → ((∀ k, j ≤ k → k < 3 → T (x.2.1 + k) = (pz_byt.getD 1 []).getD k 0) → Q (some (.int 1)) (mem A F X)) → (¬ (∀ k, j ≤ k → k < 3 → T (x.2.1 + k) = (pz_byt.getD 1 []).getD k 0) → Q (some (.int 0)) (mem A F X)) → pz_T z0 KX3_isWord Q 28 (0, 0) [some (.ref 36), some (.ref 1000011), some (.int (nI j))] [] (mem A F X) := by
  intro d
  induction d with
  | zero =>
    intro j hj h1 h0
    have hj : j = 3 := by omega
    subst hj
    refine pz_wp_ok (pz_Is_ok SX3_isWord) [28] 100 ?_
    refine cJ_length (i := 1) (by omega) ?_
    refine br1 (fun z => z (by decide)) ?_
    exact ⟨Or.inr rfl, h1 (fun k a b => by omega)⟩
  | succ d ih =>
    intro j hj h1 h0
    have es : F 4 + nI j = nI (x.2.1 + j) := by rw [h4]; exact nI_add _ _
    have cs := qcl _ es (by omega)
    refine pz_wp_ok (pz_Is_ok SX3_isWord) [28] 100 ?_
    refine cJ_length (i := 1) (by omega) ?_
    refine br2 (n_ge (b := 3) (by omega) (by omega) (by omega)) ?_
    refine ⟨qin _ es (by omega) (by omega), ?_⟩
    rw [cs, hT.1 _ (by omega)]
    refine cJ_charAt (i := 1) (j := j) (by omega) rfl (show j < 3 by omega) ?_
    have hc : qIn 0 127 ((pz_byt.getD 1 []).getD j 0) := by
      have : j = 0 ∨ j = 1 ∨ j = 2 := by omega
      rcases this with e | e | e <;> subst e <;> exact ⟨by decide, by decide⟩
    have hbq := b_eqc (hT.2 (x.2.1 + j) (by omega)) hc
    refine ⟨fun g => ?_, fun g => ?_⟩
    · have g : (T (x.2.1 + j)).toInt8.toInt32 = (pz_byt.getD 1 []).getD j 0 := g
      rw [hbq] at g
      refine qT (ih (j + 1) (by omega) (fun z => h1 (fun k a b => ?_)) (fun z => h0 (fun y => z (fun k a b => y k (by omega) b)))) (by rw [← nI_1 j]; rfl) rfl rfl
      by_cases e : k = j
      · rw [e]; exact g
      · exact z k (by omega) b
    · have g : ¬ (T (x.2.1 + j)).toInt8.toInt32 = (pz_byt.getD 1 []).getD j 0 := g
      rw [hbq] at g
      exact ⟨Or.inl rfl, h0 (fun y => g (y j (Nat.le_refl _) (by omega)))⟩
set_option maxRecDepth 8000 in
theorem cR_isWord1 (hT : rT (A 5) T n) (hn : n ≤ 96) (hR : rR F n x) (hk : k_ok T n x) (h1 : k_wd T x 102 101 101 0 = true → Q (some (.int 1)) (mem A F X)) (h0 : ¬ k_wd T x 102 101 101 0 = true → Q (some (.int 0)) (mem A F X)) : pz_C yX3_isWord KX3_isWord [.ref 36, .ref 1000011] (mem A F X) Q := by
  obtain ⟨r1, r2, r3, r4⟩ := hR
  obtain ⟨k1, k2, k3, k4, -⟩ := hk
  unfold k_wd at h1 h0
  rw [decide_eq_true_iff] at h1 h0
  have ed : F 5 - F 4 = nI (x.2.2 - x.2.1) := by rw [r4, r3]; exact nI_sub1 k1
  have e34 : (if (0 : Int32) = 0 then 3 else 4) = 3 := by decide
  rw [e34] at h1 h0
  refine pz_C_of rfl rfl rfl (Nat.le_of_ble_eq_true rfl) (pz_wp_ok (pz_Is_ok SX3_isWord) [28] 100 ?_)
  refine ⟨fun g => ?_, fun g => ?_⟩
  · have g : ¬ F 3 = 1 := g
    rw [r2] at g
    exact ⟨Or.inl rfl, h0 (fun z => g (by rw [z.1]; rfl))⟩
  have g : F 3 = 1 := g
  rw [r2] at g
  have g1 : x.1 = 1 := (nI_eq (a := x.1) (b := 1) (by omega) (by omega)).mp g
  refine cJ_length (i := 1) (by omega) ?_
  refine ⟨fun g => ?_, fun g => ?_⟩
  · have g : F 5 - F 4 = nI 3 := g
    rw [ed] at g
    have g2 := (nI_eq (by omega) (by omega)).mp g
    refine tR_word1 hT hn r3 (by omega) 3 0 (by omega) (fun z => h1 ⟨g1, g2, z 0 (by omega) (by omega), z 1 (by omega) (by omega), z 2 (by omega) (by omega), Or.inl rfl⟩) (fun z => h0 (fun y => z (fun k a b => ?_)))
    have : k = 0 ∨ k = 1 ∨ k = 2 := by omega
    rcases this with e | e | e <;> subst e
    · exact y.2.2.1
    · exact y.2.2.2.1
    · exact y.2.2.2.2.1
  · have g : ¬ F 5 - F 4 = nI 3 := g
    rw [ed] at g
    exact ⟨Or.inl rfl, h0 (fun z => g (by rw [z.2.1]))⟩
set_option maxRecDepth 8000 in
theorem tR_word2 (hT : rT (A 5) T n) (hn : n ≤ 96) (h4 : F 4 = nI x.2.1) (hb : x.2.1 + 4 ≤ n) : ∀ (d j : Nat), j + d = 4 → ((∀ k, j ≤ k → k < 4 → T (x.2.1 + k) = (pz_byt.getD 2 []).getD k 0) → Q (some (.int 1)) (mem A F X)) → (¬ (∀ k, j ≤ k → k < 4 → T (x.2.1 + k) = (pz_byt.getD 2 []).getD k 0) → Q (some (.int 0)) (mem A F X)) → pz_T z0 KX3_isWord Q 28 (0, 0) [some (.ref 36), some (.ref 1000012), some (.int (nI j))] [] (mem A F X) := by
  intro d
  induction d with
  | zero =>
    intro j hj h1 h0
    have hj : j = 4 := by omega
    subst hj
    refine pz_wp_ok (pz_Is_ok SX3_isWord) [28] 100 ?_
    refine cJ_length (i := 2) (by omega) ?_
    refine br1 (fun z => z (by decide)) ?_
    exact ⟨Or.inr rfl, h1 (fun k a b => by omega)⟩
  | succ d ih =>
    intro j hj h1 h0
    have es : F 4 + nI j = nI (x.2.1 + j) := by rw [h4]; exact nI_add _ _
    have cs := qcl _ es (by omega)
    refine pz_wp_ok (pz_Is_ok SX3_isWord) [28] 100 ?_
    refine cJ_length (i := 2) (by omega) ?_
    refine br2 (n_ge (b := 4) (by omega) (by omega) (by omega)) ?_
    refine ⟨qin _ es (by omega) (by omega), ?_⟩
    rw [cs, hT.1 _ (by omega)]
    refine cJ_charAt (i := 2) (j := j) (by omega) rfl (show j < 4 by omega) ?_
    have hc : qIn 0 127 ((pz_byt.getD 2 []).getD j 0) := by
      have : j = 0 ∨ j = 1 ∨ j = 2 ∨ j = 3 := by omega
      rcases this with e | e | e | e <;> subst e <;> exact ⟨by decide, by decide⟩
    have hbq := b_eqc (hT.2 (x.2.1 + j) (by omega)) hc
    refine ⟨fun g => ?_, fun g => ?_⟩
    · have g : (T (x.2.1 + j)).toInt8.toInt32 = (pz_byt.getD 2 []).getD j 0 := g
      rw [hbq] at g
      refine qT (ih (j + 1) (by omega) (fun z => h1 (fun k a b => ?_)) (fun z => h0 (fun y => z (fun k a b => y k (by omega) b)))) (by rw [← nI_1 j]; rfl) rfl rfl
      by_cases e : k = j
      · rw [e]; exact g
      · exact z k (by omega) b
    · have g : ¬ (T (x.2.1 + j)).toInt8.toInt32 = (pz_byt.getD 2 []).getD j 0 := g
      rw [hbq] at g
      exact ⟨Or.inl rfl, h0 (fun y => g (y j (Nat.le_refl _) (by omega)))⟩
set_option maxRecDepth 8000 in
theorem cR_isWord2 (hT : rT (A 5) T n) (hn : n ≤ 96) (hR : rR F n x) (hk : k_ok T n x) (h1 : k_wd T x 102 105 110 101 = true → Q (some (.int 1)) (mem A F X)) (h0 : ¬ k_wd T x 102 105 110 101 = true → Q (some (.int 0)) (mem A F X)) : pz_C yX3_isWord KX3_isWord [.ref 36, .ref 1000012] (mem A F X) Q := by
  obtain ⟨r1, r2, r3, r4⟩ := hR
  obtain ⟨k1, k2, k3, k4, -⟩ := hk
  unfold k_wd at h1 h0
  rw [decide_eq_true_iff] at h1 h0
  have ed : F 5 - F 4 = nI (x.2.2 - x.2.1) := by rw [r4, r3]; exact nI_sub1 k1
  have e34 : (if (101 : Int32) = 0 then 3 else 4) = 4 := by decide
  rw [e34] at h1 h0
  refine pz_C_of rfl rfl rfl (Nat.le_of_ble_eq_true rfl) (pz_wp_ok (pz_Is_ok SX3_isWord) [28] 100 ?_)
  refine ⟨fun g => ?_, fun g => ?_⟩
  · have g : ¬ F 3 = 1 := g
    rw [r2] at g
    exact ⟨Or.inl rfl, h0 (fun z => g (by rw [z.1]; rfl))⟩
  have g : F 3 = 1 := g
  rw [r2] at g
  have g1 : x.1 = 1 := (nI_eq (a := x.1) (b := 1) (by omega) (by omega)).mp g
  refine cJ_length (i := 2) (by omega) ?_
  refine ⟨fun g => ?_, fun g => ?_⟩
  · have g : F 5 - F 4 = nI 4 := g
    rw [ed] at g
    have g2 := (nI_eq (by omega) (by omega)).mp g
    refine tR_word2 hT hn r3 (by omega) 4 0 (by omega) (fun z => h1 ⟨g1, g2, z 0 (by omega) (by omega), z 1 (by omega) (by omega), z 2 (by omega) (by omega), Or.inr (z 3 (by omega) (by omega))⟩) (fun z => h0 (fun y => z (fun k a b => ?_)))
    have : k = 0 ∨ k = 1 ∨ k = 2 ∨ k = 3 := by omega
    rcases this with e | e | e | e <;> subst e
    · exact y.2.2.1
    · exact y.2.2.2.1
    · exact y.2.2.2.2.1
    · exact y.2.2.2.2.2.elim (fun q => absurd q (by decide)) id
  · have g : ¬ F 5 - F 4 = nI 4 := g
    rw [ed] at g
    exact ⟨Or.inl rfl, h0 (fun z => g (by rw [z.2.1]))⟩
set_option maxRecDepth 8000 in
theorem cR_key (hT : rT (A 5) T n) (hn : n ≤ 96) (hR : rR F n x) (hk : k_ok T n x) (h : Q (some (.int (ov (k_key T x)))) (mem A F X)) : pz_C yX3_keyHere KX3_keyHere [.ref 36] (mem A F X) Q := by
  refine pz_C_of rfl rfl rfl (Nat.le_of_ble_eq_true rfl) (pz_wp_ok (pz_Is_ok SX3_keyHere) [] 100 ?_)
  unfold k_key at h
  refine cR_isWord0 hT hn hR hk (fun g => ?_) (fun g => ?_)
  · refine br2 (by decide) ?_
    rw [if_pos g] at h
    exact h
  rw [if_neg g] at h
  refine br1 (fun z => z rfl) ?_
  refine cR_isWord1 hT hn hR hk (fun g => ?_) (fun g => ?_)
  · refine br2 (by decide) ?_
    rw [if_pos g] at h
    exact h
  rw [if_neg g] at h
  refine br1 (fun z => z rfl) ?_
  refine cR_isWord2 hT hn hR hk (fun g => ?_) (fun g => ?_)
  · refine br2 (by decide) ?_
    rw [if_pos g] at h
    exact h
  rw [if_neg g] at h
  refine br1 (fun z => z rfl) ?_
  exact h
def k_nm (T : Nat → Int32) (key : Nat) (x : Nat × Nat × Nat) : Int32 := if x.1 = 1 ∧ x.2.2 - x.2.1 = 1 ∧ alwb key (T x.2.1) = true then nI (nmx key (T x.2.1)) else -1
set_option maxRecDepth 8000 in
theorem cR_name {i key : Nat} (hT : rT (A 5) T n) (hn : n ≤ 96) (hR : rR F n x) (hk : k_ok T n x) (hd : X.2.1 = xr i) (hi : i ≤ X.2.2.1) (hkey : X.2.2.2.2 i 1 = nI key) (hk3 : key < 3) (h : Q (some (.int (k_nm T key x))) (mem A F X)) : pz_C yX3_nameHere KX3_nameHere [.ref 36] (mem A F X) Q := by
  obtain ⟨r1, r2, r3, r4⟩ := hR
  obtain ⟨k1, k2, k3, k4, k5, -⟩ := hk
  have ed : F 5 - F 4 = nI (x.2.2 - x.2.1) := by rw [r4, r3]; exact nI_sub1 k1
  have cs := qcl _ r3 (by omega)
  unfold k_nm at h
  refine pz_C_of rfl rfl rfl (Nat.le_of_ble_eq_true rfl) (pz_wp_ok (pz_Is_ok SX3_nameHere) [27] 100 ?_)
  refine ⟨fun g => ?_, fun g => ?_⟩
  · have g : ¬ F 3 = 1 := g
    rw [r2] at g
    rw [if_neg (fun z => g (by rw [z.1]; rfl))] at h
    exact h
  have g : F 3 = 1 := g
  rw [r2] at g
  have g1 : x.1 = 1 := (nI_eq (a := x.1) (b := 1) (by omega) (by omega)).mp g
  refine ⟨fun g => ?_, fun g => ?_⟩
  · have g : F 5 - F 4 = 1 := g
    rw [ed] at g
    have g2 : x.2.2 - x.2.1 = 1 := (nI_eq (a := x.2.2 - x.2.1) (b := 1) (by omega) (by omega)).mp g
    have hl := k5 g1 x.2.1 (Nat.le_refl _) (by omega)
    have hl7 : qIn 0 127 (T x.2.1) := ⟨by have := hl.1; omega, by have := hl.2; omega⟩
    obtain ⟨m, m1, m2, m3⟩ := qIn_nat hl7
    have fin : ∀ q : Nat, 3 ≤ q ∧ q < 6 → q = 3 + key → pz_T z0 KX3_nameHere Q 56 (0, 0) [some (.ref 36), none] [.ref (1000010 + q)] (mem A F X) := fun q hq he => by
      have hh : Q (some (.int (nmi q (T x.2.1)))) (mem A F X) := by
        rw [he, nmi_alw hk3]
        by_cases z : alwb key (T x.2.1) = true
        · rw [if_pos ⟨g1, g2, z⟩] at h
          rw [if_pos z]
          exact h
        · rw [if_neg (fun y => z y.2.2)] at h
          rw [if_neg z]
          exact h
      have : q = 3 ∨ q = 4 ∨ q = 5 := by omega
      rcases this with e | e | e <;> subst e <;>
      · refine pz_wp_ok (pz_Is_ok SX3_nameHere) [] 100 ?_
        refine ⟨qin _ r3 (by omega) (by omega), ?_⟩
        rw [cs, hT.1 _ (by omega), b_letter hl7, m3]
        rw [m3] at hh
        exact cJ_ix (by omega) (ch_small m (by omega)) (by omega) hh
    refine pz_T_get (r := X.2.1) (pz_Is_ok SX3_nameHere (27, pz_get 4 2 30) (List.mem_of_getElem? (i := 15) rfl)) (mem_xd hd hi) rfl ?_
    refine pz_wp_ok (pz_Is_ok SX3_nameHere) [42, 56] 100 ?_
    refine ⟨fun g3 => ?_, fun g3 => ?_⟩
    · have g3 : ¬ X.2.2.2.2 i 1 = 0 := g3
      rw [hkey] at g3
      have g3 : ¬ key = 0 := fun z => g3 (by rw [z]; rfl)
      refine pz_T_get (r := X.2.1) (pz_Is_ok SX3_nameHere (42, pz_get 4 2 45) (List.mem_of_getElem? (i := 21) rfl)) (mem_xd hd hi) rfl ?_
      refine pz_wp_ok (pz_Is_ok SX3_nameHere) [56] 100 ?_
      refine ⟨fun g4 => ?_, fun g4 => ?_⟩
      · have g4 : ¬ X.2.2.2.2 i 1 = 1 := g4
        rw [hkey] at g4
        have g4 : ¬ key = 1 := fun z => g4 (by rw [z]; rfl)
        exact fin 5 (by omega) (by omega)
      · have g4 : X.2.2.2.2 i 1 = 1 := g4
        rw [hkey] at g4
        have g4 : key = 1 := (nI_eq (a := key) (b := 1) (by omega) (by omega)).mp g4
        exact fin 4 (by omega) (by omega)
    · have g3 : X.2.2.2.2 i 1 = 0 := g3
      rw [hkey] at g3
      have g3 : key = 0 := (nI_eq (a := key) (b := 0) (by omega) (by omega)).mp g3
      exact fin 3 (by omega) (by omega)
  · have g : ¬ F 5 - F 4 = 1 := g
    rw [ed] at g
    rw [if_neg (fun z => g (by rw [z.2.1]; rfl))] at h
    exact h
end POT
