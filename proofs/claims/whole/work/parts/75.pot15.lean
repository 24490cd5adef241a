/-! the pot's calls: slots -/
section POT
variable {A A1 : qA} {F : qF} {X : qX} {Q : pz_Q} {M : pz_M}
theorem cP_heldBad {s th : Int32} (hs : ¬ qIn 0 4 s) (h : Q (some (.int BAD)) (mem A F X)) : pz_C yX9_unlessHeld KX9_unlessHeld [.ref 0, .int s, .int th] (mem A F X) Q := by
  refine pz_C_of rfl rfl rfl (Nat.le_of_ble_eq_true rfl) (pz_wp_ok (pz_Is_ok SX9_unlessHeld) [] 100 ?_)
  refine cP_isSlot (fun g => absurd g hs) (fun _ => ?_)
  exact br2 (fun z => z rfl) h
theorem cP_askBad {s k : Int32} (hs : ¬ (qIn 0 4 s ∧ qIn 0 5 k)) (h : Q (some (.int BAD)) (mem A F X)) (hs2 : ¬ qIn 0 4 s) : pz_C yX9_ask KX9_ask [.ref 0, .int s, .int k] (mem A F X) Q := by
  refine pz_C_of rfl rfl rfl (Nat.le_of_ble_eq_true rfl) (pz_wp_ok (pz_Is_ok SX9_ask) [] 100 ?_)
  refine cP_isKind (fun g => ?_) (fun _ => br2 (fun z => z rfl) h)
  refine br1 (by decide) ?_
  refine cP_heldBad hs2 ?_
  exact br2 (by decide) h
theorem cP_itemBad {s k : Int32} (hs : ¬ qIn 0 4 s) (h : Q (some (.int BAD)) (mem A F X)) : pz_C yX9_item KX9_item [.ref 0, .int s, .int k] (mem A F X) Q := by
  refine pz_C_of rfl rfl rfl (Nat.le_of_ble_eq_true rfl) (pz_wp_ok (pz_Is_ok SX9_item) [] 100 ?_)
  refine cP_heldBad hs ?_
  exact br2 (by decide) h
theorem cP_restBad {s k : Int32} (hs : ¬ qIn 0 4 s) (h : Q (some (.int BAD)) (mem A F X)) : pz_C yX9_rest KX9_rest [.ref 0, .int s, .int k] (mem A F X) Q := by
  refine pz_C_of rfl rfl rfl (Nat.le_of_ble_eq_true rfl) (pz_wp_ok (pz_Is_ok SX9_rest) [] 100 ?_)
  refine cP_heldBad hs ?_
  exact br2 (by decide) h
set_option maxRecDepth 8000 in
theorem cP_layBad {s th k : Int32} (hok : okS (A 0)) (hb : ¬ (qIn 0 4 s ∧ (th = 0 ∨ th = 3 ∨ (th = 1 ∧ qIn 0 ((f_n (A 0) : Int) - 1) k) ∨ (th = 2 ∧ qIn 0 3 k)))) (h : Q (some (.int BAD)) (mem A F X)) : pz_C yX9_lay KX9_lay [.ref 0, .int s, .int th, .int k] (mem A F X) Q := by
  refine pz_C_of rfl rfl rfl (Nat.le_of_ble_eq_true rfl) (pz_wp_ok (pz_Is_ok SX9_lay) [47] 100 ?_)
  obtain ⟨n1, n2⟩ := hok.n
  refine cP_isSlot (fun g => ?_) (fun _ => br1 (fun z => z rfl) h)
  refine br2 (by decide) ?_
  refine cP_within 0 3 rfl rfl (fun g3 => ?_) (fun _ => br1 (fun z => z rfl) h)
  refine br2 (by decide) ?_
  have h4 : th = 0 ∨ th = 1 ∨ th = 2 ∨ th = 3 := by
    obtain ⟨m, m1, m2, m3⟩ := qIn_nat g3
    have : m = 0 ∨ m = 1 ∨ m = 2 ∨ m = 3 := by omega
    rcases this with e | e | e | e <;> subst e <;> subst m3
    · exact Or.inl rfl
    · exact Or.inr (Or.inl rfl)
    · exact Or.inr (Or.inr (Or.inl rfl))
    · exact Or.inr (Or.inr (Or.inr rfl))
  rcases h4 with e | e | e | e <;> subst e
  · exact absurd ⟨g, Or.inl rfl⟩ hb
  · refine br2 (fun z => z rfl) ?_
    refine cT0_hasEater n2 (by omega) (fun g2 => absurd ⟨g, Or.inr (Or.inr (Or.inl ⟨rfl, g2⟩))⟩ hb) (fun _ => ?_)
    exact br1 (fun z => z rfl) h
  · refine br1 (by decide) ?_
    refine br2 (fun z => z rfl) ?_
    refine cP_isSheet (fun g2 => absurd ⟨g, Or.inr (Or.inr (Or.inr ⟨rfl, g2⟩))⟩ hb) (fun _ => ?_)
    exact br2 (fun z => z rfl) h
  · exact absurd ⟨g, Or.inr (Or.inl rfl)⟩ hb
theorem cP0_held {x : Int32} (h1 : F 20 = 0 → Q (some (.int (-1000000011))) (mem A F X)) (h2 : ¬ F 20 = 0 → F 20 = x → Q (some (.int 0)) (mem A F X)) (h3 : ¬ F 20 = 0 → ¬ F 20 = x → Q (some (.int (-1000000012))) (mem A F X)) : pz_C yX9_unlessHeld KX9_unlessHeld [.ref 0, .int 0, .int x] (mem A F X) Q := by
  refine pz_C_of rfl rfl rfl (Nat.le_of_ble_eq_true rfl) (pz_wp_ok (pz_Is_ok SX9_unlessHeld) [] 100 ?_)
  refine cP_isSlot (fun _ => ?_) (fun g => absurd ⟨by decide, by decide⟩ g)
  refine br1 (by decide) ?_
  refine ⟨qin 0 rfl (by omega) (by omega), ?_⟩
  refine ⟨fun g => ?_, fun g => ?_⟩
  · have g : ¬ F 20 = 0 := g
    refine ⟨qin 0 rfl (by omega) (by omega), ?_⟩
    refine ⟨fun g2 => ?_, fun g2 => ?_⟩
    · exact h3 g g2
    · exact h2 g g2
  · exact h1 g
set_option maxRecDepth 8000 in
theorem cP0_ask {k : Int32} (hk : F 20 = 1 → qIn 0 5 (F 25)) (h1 : ¬ qIn 0 5 k → Q (some (.int BAD)) (mem A F X)) (h : qIn 0 5 k → Q (some (.int (v_ask (F 20) (F 25) (f_worth (F 25) (F 30)) k))) (mem A F X)) : pz_C yX9_ask KX9_ask [.ref 0, .int 0, .int k] (mem A F X) Q := by
  refine pz_C_of rfl rfl rfl (Nat.le_of_ble_eq_true rfl) (pz_wp_ok (pz_Is_ok SX9_ask) [] 100 ?_)
  unfold v_ask at h
  refine cP_isKind (fun g => ?_) (fun g => br2 (fun z => z rfl) (h1 g))
  refine br1 (by decide) ?_
  have h := h g
  refine cP0_held (fun g1 => ?_) (fun g1 g2 => ?_) (fun g1 g2 => ?_)
  · rw [if_pos g1] at h
    exact br2 (by decide) h
  · rw [if_neg g1] at h
    refine br1 (fun z => z rfl) ?_
    refine ⟨qin 0 rfl (by omega) (by omega), ?_⟩
    refine cP_isUnder (hk g2) g (fun b hb => ?_)
    cases b with
    | true =>
      rw [if_pos ⟨g2, hb.mp rfl⟩] at h
      refine br2 (by decide) ?_
      exact cP_worth h
    | false =>
      rw [if_neg (fun z => Bool.noConfusion (hb.mpr z.2))] at h
      refine br1 (fun z => z rfl) ?_
      exact h
  · rw [if_neg g1, if_neg (fun z => g2 z.1)] at h
    exact br2 (by decide) h
set_option maxRecDepth 8000 in
theorem cP0_item {p : Int32} (hz : F 20 = 2 → ∃ z, z ≤ 24 ∧ F 45 = nI z) (h : Q (some (.int (v_item (F 20) (F 45) (A 14) p))) (mem A F X)) : pz_C yX9_item KX9_item [.ref 0, .int 0, .int p] (mem A F X) Q := by
  refine pz_C_of rfl rfl rfl (Nat.le_of_ble_eq_true rfl) (pz_wp_ok (pz_Is_ok SX9_item) [] 100 ?_)
  unfold v_item at h
  refine cP0_held (fun g1 => ?_) (fun g1 g2 => ?_) (fun g1 g2 => ?_)
  · rw [if_neg (by rw [g1]; decide), if_pos g1] at h
    exact br2 (by decide) h
  · rw [if_pos g2] at h
    obtain ⟨z, z1, z2⟩ := hz g2
    have cz := qcl _ z2 (by omega)
    rw [cz] at h
    refine br1 (fun z => z rfl) ?_
    refine ⟨qin 0 rfl (by omega) (by omega), ?_⟩
    refine cS4_hasPlace z2 (by omega) (fun g3 => ?_) (fun g3 => ?_)
    · rw [if_pos g3] at h
      refine br1 (by decide) ?_
      obtain ⟨b1, b2, b3⟩ := qI (m := 24) g3 (by omega)
      refine cS4_isNumber b1 b2 (fun g4 => ?_) (fun g4 => ?_)
      · rw [if_neg g4] at h
        refine br2 (by decide) ?_
        exact ⟨qin _ b1 b2 (by omega), h⟩
      · rw [if_pos g4] at h
        refine br1 (fun z => z rfl) ?_
        exact h
    · rw [if_neg g3] at h
      refine br2 (fun z => z rfl) ?_
      exact h
  · rw [if_neg g2, if_neg g1] at h
    exact br2 (by decide) h
set_option maxRecDepth 8000 in
theorem cP0_rest {n : Int32} (h : Q (some (.int (v_rest (F 20) (F 35) n))) (mem A F X)) : pz_C yX9_rest KX9_rest [.ref 0, .int 0, .int n] (mem A F X) Q := by
  refine pz_C_of rfl rfl rfl (Nat.le_of_ble_eq_true rfl) (pz_wp_ok (pz_Is_ok SX9_rest) [] 100 ?_)
  unfold v_rest at h
  refine cP0_held (fun g1 => ?_) (fun g1 g2 => ?_) (fun g1 g2 => ?_)
  · rw [if_neg (by rw [g1]; decide), if_pos g1] at h
    exact br2 (by decide) h
  · rw [if_pos g2] at h
    refine br1 (fun z => z rfl) ?_
    refine ⟨fun g3 => ?_, fun g3 => ?_⟩
    · have g3 : ¬ n = 0 := g3
      rw [if_neg g3] at h
      refine ⟨qin 0 rfl (by omega) (by omega), ?_⟩
      exact ⟨g3, h⟩
    · have g3 : n = 0 := g3
      rw [if_pos g3] at h
      exact h
  · rw [if_neg g2, if_neg g1] at h
    exact br2 (by decide) h
set_option maxRecDepth 8000 in
theorem cP0_lay0 {k : Int32} (h : Q (some (.int (F 20))) (mem A (upd F 20 0) X)) : pz_C yX9_lay KX9_lay [.ref 0, .int 0, .int 0, .int k] (mem A F X) Q := by
  refine pz_C_of rfl rfl rfl (Nat.le_of_ble_eq_true rfl) (pz_wp_ok (pz_Is_ok SX9_lay) [] 100 ?_)
  refine cP_isSlot (fun _ => ?_) (fun g => absurd ⟨by decide, by decide⟩ g)
  refine br2 (by decide) ?_
  refine cP_within 0 3 rfl rfl (fun _ => ?_) (fun g => absurd ⟨by decide, by decide⟩ g)
  refine br2 (by decide) ?_
  refine br1 (by decide) ?_
  refine br1 (by decide) ?_
  refine br1 (by decide) ?_
  refine ⟨qin 0 rfl (by omega) (by omega), ?_⟩
  refine br1 (by decide) ?_
  refine br1 (by decide) ?_
  refine br1 (by decide) ?_
  exact h
set_option maxRecDepth 8000 in
theorem cP0_lay3 {k : Int32} (h : Q (some (.int (F 20))) (mem A (upd (upd F 20 3) 35 k) X)) : pz_C yX9_lay KX9_lay [.ref 0, .int 0, .int 3, .int k] (mem A F X) Q := by
  refine pz_C_of rfl rfl rfl (Nat.le_of_ble_eq_true rfl) (pz_wp_ok (pz_Is_ok SX9_lay) [] 100 ?_)
  refine cP_isSlot (fun _ => ?_) (fun g => absurd ⟨by decide, by decide⟩ g)
  refine br2 (by decide) ?_
  refine cP_within 0 3 rfl rfl (fun _ => ?_) (fun g => absurd ⟨by decide, by decide⟩ g)
  refine br2 (by decide) ?_
  refine br1 (by decide) ?_
  refine br1 (by decide) ?_
  refine br1 (by decide) ?_
  refine ⟨qin 0 rfl (by omega) (by omega), ?_⟩
  refine br1 (by decide) ?_
  refine br1 (by decide) ?_
  refine br2 (fun z => z rfl) ?_
  exact h
set_option maxRecDepth 8000 in
theorem cP0_lay1 {k : Int32} (hok : okS (A 0)) (hk : qIn 0 ((f_n (A 0) : Int) - 1) k) (h : Q (some (.int (F 20))) (mem A (upd (upd (upd F 20 1) 25 (A 0 (118 + 3 * k.toNatClampNeg + 0))) 30 (A 0 (118 + 3 * k.toNatClampNeg + 2))) X)) : pz_C yX9_lay KX9_lay [.ref 0, .int 0, .int 1, .int k] (mem A F X) Q := by
  refine pz_C_of rfl rfl rfl (Nat.le_of_ble_eq_true rfl) (pz_wp_ok (pz_Is_ok SX9_lay) [] 100 ?_)
  obtain ⟨n1, n2⟩ := hok.n
  obtain ⟨b1, b2, b3⟩ := qI (m := 8) hk (by omega)
  refine cP_isSlot (fun _ => ?_) (fun g => absurd ⟨by decide, by decide⟩ g)
  refine br2 (by decide) ?_
  refine cP_within 0 3 rfl rfl (fun _ => ?_) (fun g => absurd ⟨by decide, by decide⟩ g)
  refine br2 (by decide) ?_
  refine br2 (fun z => z rfl) ?_
  refine cT0_hasEater n2 (by omega) (fun _ => ?_) (fun g => absurd hk g)
  refine br2 (by decide) ?_
  refine br1 (by decide) ?_
  refine br1 (by decide) ?_
  refine ⟨qin 0 rfl (by omega) (by omega), ?_⟩
  refine br2 (fun z => z rfl) ?_
  refine ⟨qin _ b1 b2 (by omega), ?_⟩
  refine ⟨qin _ b1 b2 (by omega), ?_⟩
  rw [qm_k b2, qm_a b2]
  exact h
theorem cP1_held {x : Int32} (h1 : F 21 = 0 → Q (some (.int (-1000000011))) (mem A F X)) (h2 : ¬ F 21 = 0 → F 21 = x → Q (some (.int 0)) (mem A F X)) (h3 : ¬ F 21 = 0 → ¬ F 21 = x → Q (some (.int (-1000000012))) (mem A F X)) : pz_C yX9_unlessHeld KX9_unlessHeld [.ref 0, .int 1, .int x] (mem A F X) Q := by
  refine pz_C_of rfl rfl rfl (Nat.le_of_ble_eq_true rfl) (pz_wp_ok (pz_Is_ok SX9_unlessHeld) [] 100 ?_)
  refine cP_isSlot (fun _ => ?_) (fun g => absurd ⟨by decide, by decide⟩ g)
  refine br1 (by decide) ?_
  refine ⟨qin 1 rfl (by omega) (by omega), ?_⟩
  refine ⟨fun g => ?_, fun g => ?_⟩
  · have g : ¬ F 21 = 0 := g
    refine ⟨qin 1 rfl (by omega) (by omega), ?_⟩
    refine ⟨fun g2 => ?_, fun g2 => ?_⟩
    · exact h3 g g2
    · exact h2 g g2
  · exact h1 g
set_option maxRecDepth 8000 in
theorem cP1_ask {k : Int32} (hk : F 21 = 1 → qIn 0 5 (F 26)) (h1 : ¬ qIn 0 5 k → Q (some (.int BAD)) (mem A F X)) (h : qIn 0 5 k → Q (some (.int (v_ask (F 21) (F 26) (f_worth (F 26) (F 31)) k))) (mem A F X)) : pz_C yX9_ask KX9_ask [.ref 0, .int 1, .int k] (mem A F X) Q := by
  refine pz_C_of rfl rfl rfl (Nat.le_of_ble_eq_true rfl) (pz_wp_ok (pz_Is_ok SX9_ask) [] 100 ?_)
  unfold v_ask at h
  refine cP_isKind (fun g => ?_) (fun g => br2 (fun z => z rfl) (h1 g))
  refine br1 (by decide) ?_
  have h := h g
  refine cP1_held (fun g1 => ?_) (fun g1 g2 => ?_) (fun g1 g2 => ?_)
  · rw [if_pos g1] at h
    exact br2 (by decide) h
  · rw [if_neg g1] at h
    refine br1 (fun z => z rfl) ?_
    refine ⟨qin 1 rfl (by omega) (by omega), ?_⟩
    refine cP_isUnder (hk g2) g (fun b hb => ?_)
    cases b with
    | true =>
      rw [if_pos ⟨g2, hb.mp rfl⟩] at h
      refine br2 (by decide) ?_
      exact cP_worth h
    | false =>
      rw [if_neg (fun z => Bool.noConfusion (hb.mpr z.2))] at h
      refine br1 (fun z => z rfl) ?_
      exact h
  · rw [if_neg g1, if_neg (fun z => g2 z.1)] at h
    exact br2 (by decide) h
set_option maxRecDepth 8000 in
theorem cP1_item {p : Int32} (hz : F 21 = 2 → ∃ z, z ≤ 24 ∧ F 46 = nI z) (h : Q (some (.int (v_item (F 21) (F 46) (A 15) p))) (mem A F X)) : pz_C yX9_item KX9_item [.ref 0, .int 1, .int p] (mem A F X) Q := by
  refine pz_C_of rfl rfl rfl (Nat.le_of_ble_eq_true rfl) (pz_wp_ok (pz_Is_ok SX9_item) [] 100 ?_)
  unfold v_item at h
  refine cP1_held (fun g1 => ?_) (fun g1 g2 => ?_) (fun g1 g2 => ?_)
  · rw [if_neg (by rw [g1]; decide), if_pos g1] at h
    exact br2 (by decide) h
  · rw [if_pos g2] at h
    obtain ⟨z, z1, z2⟩ := hz g2
    have cz := qcl _ z2 (by omega)
    rw [cz] at h
    refine br1 (fun z => z rfl) ?_
    refine ⟨qin 1 rfl (by omega) (by omega), ?_⟩
    refine cS5_hasPlace z2 (by omega) (fun g3 => ?_) (fun g3 => ?_)
    · rw [if_pos g3] at h
      refine br1 (by decide) ?_
      obtain ⟨b1, b2, b3⟩ := qI (m := 24) g3 (by omega)
      refine cS5_isNumber b1 b2 (fun g4 => ?_) (fun g4 => ?_)
      · rw [if_neg g4] at h
        refine br2 (by decide) ?_
        exact ⟨qin _ b1 b2 (by omega), h⟩
      · rw [if_pos g4] at h
        refine br1 (fun z => z rfl) ?_
        exact h
    · rw [if_neg g3] at h
      refine br2 (fun z => z rfl) ?_
      exact h
  · rw [if_neg g2, if_neg g1] at h
    exact br2 (by decide) h
set_option maxRecDepth 8000 in
theorem cP1_rest {n : Int32} (h : Q (some (.int (v_rest (F 21) (F 36) n))) (mem A F X)) : pz_C yX9_rest KX9_rest [.ref 0, .int 1, .int n] (mem A F X) Q := by
  refine pz_C_of rfl rfl rfl (Nat.le_of_ble_eq_true rfl) (pz_wp_ok (pz_Is_ok SX9_rest) [] 100 ?_)
  unfold v_rest at h
  refine cP1_held (fun g1 => ?_) (fun g1 g2 => ?_) (fun g1 g2 => ?_)
  · rw [if_neg (by rw [g1]; decide), if_pos g1] at h
    exact br2 (by decide) h
  · rw [if_pos g2] at h
    refine br1 (fun z => z rfl) ?_
    refine ⟨fun g3 => ?_, fun g3 => ?_⟩
    · have g3 : ¬ n = 0 := g3
      rw [if_neg g3] at h
      refine ⟨qin 1 rfl (by omega) (by omega), ?_⟩
      exact ⟨g3, h⟩
    · have g3 : n = 0 := g3
      rw [if_pos g3] at h
      exact h
  · rw [if_neg g2, if_neg g1] at h
    exact br2 (by decide) h
set_option maxRecDepth 8000 in
theorem cP1_lay0 {k : Int32} (h : Q (some (.int (F 21))) (mem A (upd F 21 0) X)) : pz_C yX9_lay KX9_lay [.ref 0, .int 1, .int 0, .int k] (mem A F X) Q := by
  refine pz_C_of rfl rfl rfl (Nat.le_of_ble_eq_true rfl) (pz_wp_ok (pz_Is_ok SX9_lay) [] 100 ?_)
  refine cP_isSlot (fun _ => ?_) (fun g => absurd ⟨by decide, by decide⟩ g)
  refine br2 (by decide) ?_
  refine cP_within 0 3 rfl rfl (fun _ => ?_) (fun g => absurd ⟨by decide, by decide⟩ g)
  refine br2 (by decide) ?_
  refine br1 (by decide) ?_
  refine br1 (by decide) ?_
  refine br1 (by decide) ?_
  refine ⟨qin 1 rfl (by omega) (by omega), ?_⟩
  refine br1 (by decide) ?_
  refine br1 (by decide) ?_
  refine br1 (by decide) ?_
  exact h
set_option maxRecDepth 8000 in
theorem cP1_lay3 {k : Int32} (h : Q (some (.int (F 21))) (mem A (upd (upd F 21 3) 36 k) X)) : pz_C yX9_lay KX9_lay [.ref 0, .int 1, .int 3, .int k] (mem A F X) Q := by
  refine pz_C_of rfl rfl rfl (Nat.le_of_ble_eq_true rfl) (pz_wp_ok (pz_Is_ok SX9_lay) [] 100 ?_)
  refine cP_isSlot (fun _ => ?_) (fun g => absurd ⟨by decide, by decide⟩ g)
  refine br2 (by decide) ?_
  refine cP_within 0 3 rfl rfl (fun _ => ?_) (fun g => absurd ⟨by decide, by decide⟩ g)
  refine br2 (by decide) ?_
  refine br1 (by decide) ?_
  refine br1 (by decide) ?_
  refine br1 (by decide) ?_
  refine ⟨qin 1 rfl (by omega) (by omega), ?_⟩
  refine br1 (by decide) ?_
  refine br1 (by decide) ?_
  refine br2 (fun z => z rfl) ?_
  exact h
set_option maxRecDepth 8000 in
theorem cP1_lay1 {k : Int32} (hok : okS (A 0)) (hk : qIn 0 ((f_n (A 0) : Int) - 1) k) (h : Q (some (.int (F 21))) (mem A (upd (upd (upd F 21 1) 26 (A 0 (118 + 3 * k.toNatClampNeg + 0))) 31 (A 0 (118 + 3 * k.toNatClampNeg + 2))) X)) : pz_C yX9_lay KX9_lay [.ref 0, .int 1, .int 1, .int k] (mem A F X) Q := by
  refine pz_C_of rfl rfl rfl (Nat.le_of_ble_eq_true rfl) (pz_wp_ok (pz_Is_ok SX9_lay) [] 100 ?_)
  obtain ⟨n1, n2⟩ := hok.n
  obtain ⟨b1, b2, b3⟩ := qI (m := 8) hk (by omega)
  refine cP_isSlot (fun _ => ?_) (fun g => absurd ⟨by decide, by decide⟩ g)
  refine br2 (by decide) ?_
  refine cP_within 0 3 rfl rfl (fun _ => ?_) (fun g => absurd ⟨by decide, by decide⟩ g)
  refine br2 (by decide) ?_
  refine br2 (fun z => z rfl) ?_
  refine cT0_hasEater n2 (by omega) (fun _ => ?_) (fun g => absurd hk g)
  refine br2 (by decide) ?_
  refine br1 (by decide) ?_
  refine br1 (by decide) ?_
  refine ⟨qin 1 rfl (by omega) (by omega), ?_⟩
  refine br2 (fun z => z rfl) ?_
  refine ⟨qin _ b1 b2 (by omega), ?_⟩
  refine ⟨qin _ b1 b2 (by omega), ?_⟩
  rw [qm_k b2, qm_a b2]
  exact h
theorem cP2_held {x : Int32} (h1 : F 22 = 0 → Q (some (.int (-1000000011))) (mem A F X)) (h2 : ¬ F 22 = 0 → F 22 = x → Q (some (.int 0)) (mem A F X)) (h3 : ¬ F 22 = 0 → ¬ F 22 = x → Q (some (.int (-1000000012))) (mem A F X)) : pz_C yX9_unlessHeld KX9_unlessHeld [.ref 0, .int 2, .int x] (mem A F X) Q := by
  refine pz_C_of rfl rfl rfl (Nat.le_of_ble_eq_true rfl) (pz_wp_ok (pz_Is_ok SX9_unlessHeld) [] 100 ?_)
  refine cP_isSlot (fun _ => ?_) (fun g => absurd ⟨by decide, by decide⟩ g)
  refine br1 (by decide) ?_
  refine ⟨qin 2 rfl (by omega) (by omega), ?_⟩
  refine ⟨fun g => ?_, fun g => ?_⟩
  · have g : ¬ F 22 = 0 := g
    refine ⟨qin 2 rfl (by omega) (by omega), ?_⟩
    refine ⟨fun g2 => ?_, fun g2 => ?_⟩
    · exact h3 g g2
    · exact h2 g g2
  · exact h1 g
set_option maxRecDepth 8000 in
theorem cP2_ask {k : Int32} (hk : F 22 = 1 → qIn 0 5 (F 27)) (h1 : ¬ qIn 0 5 k → Q (some (.int BAD)) (mem A F X)) (h : qIn 0 5 k → Q (some (.int (v_ask (F 22) (F 27) (f_worth (F 27) (F 32)) k))) (mem A F X)) : pz_C yX9_ask KX9_ask [.ref 0, .int 2, .int k] (mem A F X) Q := by
  refine pz_C_of rfl rfl rfl (Nat.le_of_ble_eq_true rfl) (pz_wp_ok (pz_Is_ok SX9_ask) [] 100 ?_)
  unfold v_ask at h
  refine cP_isKind (fun g => ?_) (fun g => br2 (fun z => z rfl) (h1 g))
  refine br1 (by decide) ?_
  have h := h g
  refine cP2_held (fun g1 => ?_) (fun g1 g2 => ?_) (fun g1 g2 => ?_)
  · rw [if_pos g1] at h
    exact br2 (by decide) h
  · rw [if_neg g1] at h
    refine br1 (fun z => z rfl) ?_
    refine ⟨qin 2 rfl (by omega) (by omega), ?_⟩
    refine cP_isUnder (hk g2) g (fun b hb => ?_)
    cases b with
    | true =>
      rw [if_pos ⟨g2, hb.mp rfl⟩] at h
      refine br2 (by decide) ?_
      exact cP_worth h
    | false =>
      rw [if_neg (fun z => Bool.noConfusion (hb.mpr z.2))] at h
      refine br1 (fun z => z rfl) ?_
      exact h
  · rw [if_neg g1, if_neg (fun z => g2 z.1)] at h
    exact br2 (by decide) h
set_option maxRecDepth 8000 in
theorem cP2_item {p : Int32} (hz : F 22 = 2 → ∃ z, z ≤ 24 ∧ F 47 = nI z) (h : Q (some (.int (v_item (F 22) (F 47) (A 16) p))) (mem A F X)) : pz_C yX9_item KX9_item [.ref 0, .int 2, .int p] (mem A F X) Q := by
  refine pz_C_of rfl rfl rfl (Nat.le_of_ble_eq_true rfl) (pz_wp_ok (pz_Is_ok SX9_item) [] 100 ?_)
  unfold v_item at h
  refine cP2_held (fun g1 => ?_) (fun g1 g2 => ?_) (fun g1 g2 => ?_)
  · rw [if_neg (by rw [g1]; decide), if_pos g1] at h
    exact br2 (by decide) h
  · rw [if_pos g2] at h
    obtain ⟨z, z1, z2⟩ := hz g2
    have cz := qcl _ z2 (by omega)
    rw [cz] at h
    refine br1 (fun z => z rfl) ?_
    refine ⟨qin 2 rfl (by omega) (by omega), ?_⟩
    refine cS6_hasPlace z2 (by omega) (fun g3 => ?_) (fun g3 => ?_)
    · rw [if_pos g3] at h
      refine br1 (by decide) ?_
      obtain ⟨b1, b2, b3⟩ := qI (m := 24) g3 (by omega)
      refine cS6_isNumber b1 b2 (fun g4 => ?_) (fun g4 => ?_)
      · rw [if_neg g4] at h
        refine br2 (by decide) ?_
        exact ⟨qin _ b1 b2 (by omega), h⟩
      · rw [if_pos g4] at h
        refine br1 (fun z => z rfl) ?_
        exact h
    · rw [if_neg g3] at h
      refine br2 (fun z => z rfl) ?_
      exact h
  · rw [if_neg g2, if_neg g1] at h
    exact br2 (by decide) h
set_option maxRecDepth 8000 in
theorem cP2_rest {n : Int32} (h : Q (some (.int (v_rest (F 22) (F 37) n))) (mem A F X)) : pz_C yX9_rest KX9_rest [.ref 0, .int 2, .int n] (mem A F X) Q := by
  refine pz_C_of rfl rfl rfl (Nat.le_of_ble_eq_true rfl) (pz_wp_ok (pz_Is_ok SX9_rest) [] 100 ?_)
  unfold v_rest at h
  refine cP2_held (fun g1 => ?_) (fun g1 g2 => ?_) (fun g1 g2 => ?_)
  · rw [if_neg (by rw [g1]; decide), if_pos g1] at h
    exact br2 (by decide) h
  · rw [if_pos g2] at h
    refine br1 (fun z => z rfl) ?_
    refine ⟨fun g3 => ?_, fun g3 => ?_⟩
    · have g3 : ¬ n = 0 := g3
      rw [if_neg g3] at h
      refine ⟨qin 2 rfl (by omega) (by omega), ?_⟩
      exact ⟨g3, h⟩
    · have g3 : n = 0 := g3
      rw [if_pos g3] at h
      exact h
  · rw [if_neg g2, if_neg g1] at h
    exact br2 (by decide) h
set_option maxRecDepth 8000 in
theorem cP2_lay0 {k : Int32} (h : Q (some (.int (F 22))) (mem A (upd F 22 0) X)) : pz_C yX9_lay KX9_lay [.ref 0, .int 2, .int 0, .int k] (mem A F X) Q := by
  refine pz_C_of rfl rfl rfl (Nat.le_of_ble_eq_true rfl) (pz_wp_ok (pz_Is_ok SX9_lay) [] 100 ?_)
  refine cP_isSlot (fun _ => ?_) (fun g => absurd ⟨by decide, by decide⟩ g)
  refine br2 (by decide) ?_
  refine cP_within 0 3 rfl rfl (fun _ => ?_) (fun g => absurd ⟨by decide, by decide⟩ g)
  refine br2 (by decide) ?_
  refine br1 (by decide) ?_
  refine br1 (by decide) ?_
  refine br1 (by decide) ?_
  refine ⟨qin 2 rfl (by omega) (by omega), ?_⟩
  refine br1 (by decide) ?_
  refine br1 (by decide) ?_
  refine br1 (by decide) ?_
  exact h
set_option maxRecDepth 8000 in
theorem cP2_lay3 {k : Int32} (h : Q (some (.int (F 22))) (mem A (upd (upd F 22 3) 37 k) X)) : pz_C yX9_lay KX9_lay [.ref 0, .int 2, .int 3, .int k] (mem A F X) Q := by
  refine pz_C_of rfl rfl rfl (Nat.le_of_ble_eq_true rfl) (pz_wp_ok (pz_Is_ok SX9_lay) [] 100 ?_)
  refine cP_isSlot (fun _ => ?_) (fun g => absurd ⟨by decide, by decide⟩ g)
  refine br2 (by decide) ?_
  refine cP_within 0 3 rfl rfl (fun _ => ?_) (fun g => absurd ⟨by decide, by decide⟩ g)
  refine br2 (by decide) ?_
  refine br1 (by decide) ?_
  refine br1 (by decide) ?_
  refine br1 (by decide) ?_
  refine ⟨qin 2 rfl (by omega) (by omega), ?_⟩
  refine br1 (by decide) ?_
  refine br1 (by decide) ?_
  refine br2 (fun z => z rfl) ?_
  exact h
set_option maxRecDepth 8000 in
theorem cP2_lay1 {k : Int32} (hok : okS (A 0)) (hk : qIn 0 ((f_n (A 0) : Int) - 1) k) (h : Q (some (.int (F 22))) (mem A (upd (upd (upd F 22 1) 27 (A 0 (118 + 3 * k.toNatClampNeg + 0))) 32 (A 0 (118 + 3 * k.toNatClampNeg + 2))) X)) : pz_C yX9_lay KX9_lay [.ref 0, .int 2, .int 1, .int k] (mem A F X) Q := by
  refine pz_C_of rfl rfl rfl (Nat.le_of_ble_eq_true rfl) (pz_wp_ok (pz_Is_ok SX9_lay) [] 100 ?_)
  obtain ⟨n1, n2⟩ := hok.n
  obtain ⟨b1, b2, b3⟩ := qI (m := 8) hk (by omega)
  refine cP_isSlot (fun _ => ?_) (fun g => absurd ⟨by decide, by decide⟩ g)
  refine br2 (by decide) ?_
  refine cP_within 0 3 rfl rfl (fun _ => ?_) (fun g => absurd ⟨by decide, by decide⟩ g)
  refine br2 (by decide) ?_
  refine br2 (fun z => z rfl) ?_
  refine cT0_hasEater n2 (by omega) (fun _ => ?_) (fun g => absurd hk g)
  refine br2 (by decide) ?_
  refine br1 (by decide) ?_
  refine br1 (by decide) ?_
  refine ⟨qin 2 rfl (by omega) (by omega), ?_⟩
  refine br2 (fun z => z rfl) ?_
  refine ⟨qin _ b1 b2 (by omega), ?_⟩
  refine ⟨qin _ b1 b2 (by omega), ?_⟩
  rw [qm_k b2, qm_a b2]
  exact h
theorem cP3_held {x : Int32} (h1 : F 23 = 0 → Q (some (.int (-1000000011))) (mem A F X)) (h2 : ¬ F 23 = 0 → F 23 = x → Q (some (.int 0)) (mem A F X)) (h3 : ¬ F 23 = 0 → ¬ F 23 = x → Q (some (.int (-1000000012))) (mem A F X)) : pz_C yX9_unlessHeld KX9_unlessHeld [.ref 0, .int 3, .int x] (mem A F X) Q := by
  refine pz_C_of rfl rfl rfl (Nat.le_of_ble_eq_true rfl) (pz_wp_ok (pz_Is_ok SX9_unlessHeld) [] 100 ?_)
  refine cP_isSlot (fun _ => ?_) (fun g => absurd ⟨by decide, by decide⟩ g)
  refine br1 (by decide) ?_
  refine ⟨qin 3 rfl (by omega) (by omega), ?_⟩
  refine ⟨fun g => ?_, fun g => ?_⟩
  · have g : ¬ F 23 = 0 := g
    refine ⟨qin 3 rfl (by omega) (by omega), ?_⟩
    refine ⟨fun g2 => ?_, fun g2 => ?_⟩
    · exact h3 g g2
    · exact h2 g g2
  · exact h1 g
set_option maxRecDepth 8000 in
theorem cP3_ask {k : Int32} (hk : F 23 = 1 → qIn 0 5 (F 28)) (h1 : ¬ qIn 0 5 k → Q (some (.int BAD)) (mem A F X)) (h : qIn 0 5 k → Q (some (.int (v_ask (F 23) (F 28) (f_worth (F 28) (F 33)) k))) (mem A F X)) : pz_C yX9_ask KX9_ask [.ref 0, .int 3, .int k] (mem A F X) Q := by
  refine pz_C_of rfl rfl rfl (Nat.le_of_ble_eq_true rfl) (pz_wp_ok (pz_Is_ok SX9_ask) [] 100 ?_)
  unfold v_ask at h
  refine cP_isKind (fun g => ?_) (fun g => br2 (fun z => z rfl) (h1 g))
  refine br1 (by decide) ?_
  have h := h g
  refine cP3_held (fun g1 => ?_) (fun g1 g2 => ?_) (fun g1 g2 => ?_)
  · rw [if_pos g1] at h
    exact br2 (by decide) h
  · rw [if_neg g1] at h
    refine br1 (fun z => z rfl) ?_
    refine ⟨qin 3 rfl (by omega) (by omega), ?_⟩
    refine cP_isUnder (hk g2) g (fun b hb => ?_)
    cases b with
    | true =>
      rw [if_pos ⟨g2, hb.mp rfl⟩] at h
      refine br2 (by decide) ?_
      exact cP_worth h
    | false =>
      rw [if_neg (fun z => Bool.noConfusion (hb.mpr z.2))] at h
      refine br1 (fun z => z rfl) ?_
      exact h
  · rw [if_neg g1, if_neg (fun z => g2 z.1)] at h
    exact br2 (by decide) h
set_option maxRecDepth 8000 in
theorem cP3_item {p : Int32} (hz : F 23 = 2 → ∃ z, z ≤ 24 ∧ F 48 = nI z) (h : Q (some (.int (v_item (F 23) (F 48) (A 17) p))) (mem A F X)) : pz_C yX9_item KX9_item [.ref 0, .int 3, .int p] (mem A F X) Q := by
  refine pz_C_of rfl rfl rfl (Nat.le_of_ble_eq_true rfl) (pz_wp_ok (pz_Is_ok SX9_item) [] 100 ?_)
  unfold v_item at h
  refine cP3_held (fun g1 => ?_) (fun g1 g2 => ?_) (fun g1 g2 => ?_)
  · rw [if_neg (by rw [g1]; decide), if_pos g1] at h
    exact br2 (by decide) h
  · rw [if_pos g2] at h
    obtain ⟨z, z1, z2⟩ := hz g2
    have cz := qcl _ z2 (by omega)
    rw [cz] at h
    refine br1 (fun z => z rfl) ?_
    refine ⟨qin 3 rfl (by omega) (by omega), ?_⟩
    refine cS7_hasPlace z2 (by omega) (fun g3 => ?_) (fun g3 => ?_)
    · rw [if_pos g3] at h
      refine br1 (by decide) ?_
      obtain ⟨b1, b2, b3⟩ := qI (m := 24) g3 (by omega)
      refine cS7_isNumber b1 b2 (fun g4 => ?_) (fun g4 => ?_)
      · rw [if_neg g4] at h
        refine br2 (by decide) ?_
        exact ⟨qin _ b1 b2 (by omega), h⟩
      · rw [if_pos g4] at h
        refine br1 (fun z => z rfl) ?_
        exact h
    · rw [if_neg g3] at h
      refine br2 (fun z => z rfl) ?_
      exact h
  · rw [if_neg g2, if_neg g1] at h
    exact br2 (by decide) h
set_option maxRecDepth 8000 in
theorem cP3_rest {n : Int32} (h : Q (some (.int (v_rest (F 23) (F 38) n))) (mem A F X)) : pz_C yX9_rest KX9_rest [.ref 0, .int 3, .int n] (mem A F X) Q := by
  refine pz_C_of rfl rfl rfl (Nat.le_of_ble_eq_true rfl) (pz_wp_ok (pz_Is_ok SX9_rest) [] 100 ?_)
  unfold v_rest at h
  refine cP3_held (fun g1 => ?_) (fun g1 g2 => ?_) (fun g1 g2 => ?_)
  · rw [if_neg (by rw [g1]; decide), if_pos g1] at h
    exact br2 (by decide) h
  · rw [if_pos g2] at h
    refine br1 (fun z => z rfl) ?_
    refine ⟨fun g3 => ?_, fun g3 => ?_⟩
    · have g3 : ¬ n = 0 := g3
      rw [if_neg g3] at h
      refine ⟨qin 3 rfl (by omega) (by omega), ?_⟩
      exact ⟨g3, h⟩
    · have g3 : n = 0 := g3
      rw [if_pos g3] at h
      exact h
  · rw [if_neg g2, if_neg g1] at h
    exact br2 (by decide) h
set_option maxRecDepth 8000 in
theorem cP3_lay0 {k : Int32} (h : Q (some (.int (F 23))) (mem A (upd F 23 0) X)) : pz_C yX9_lay KX9_lay [.ref 0, .int 3, .int 0, .int k] (mem A F X) Q := by
  refine pz_C_of rfl rfl rfl (Nat.le_of_ble_eq_true rfl) (pz_wp_ok (pz_Is_ok SX9_lay) [] 100 ?_)
  refine cP_isSlot (fun _ => ?_) (fun g => absurd ⟨by decide, by decide⟩ g)
  refine br2 (by decide) ?_
  refine cP_within 0 3 rfl rfl (fun _ => ?_) (fun g => absurd ⟨by decide, by decide⟩ g)
  refine br2 (by decide) ?_
  refine br1 (by decide) ?_
  refine br1 (by decide) ?_
  refine br1 (by decide) ?_
  refine ⟨qin 3 rfl (by omega) (by omega), ?_⟩
  refine br1 (by decide) ?_
  refine br1 (by decide) ?_
  refine br1 (by decide) ?_
  exact h
set_option maxRecDepth 8000 in
theorem cP3_lay3 {k : Int32} (h : Q (some (.int (F 23))) (mem A (upd (upd F 23 3) 38 k) X)) : pz_C yX9_lay KX9_lay [.ref 0, .int 3, .int 3, .int k] (mem A F X) Q := by
  refine pz_C_of rfl rfl rfl (Nat.le_of_ble_eq_true rfl) (pz_wp_ok (pz_Is_ok SX9_lay) [] 100 ?_)
  refine cP_isSlot (fun _ => ?_) (fun g => absurd ⟨by decide, by decide⟩ g)
  refine br2 (by decide) ?_
  refine cP_within 0 3 rfl rfl (fun _ => ?_) (fun g => absurd ⟨by decide, by decide⟩ g)
  refine br2 (by decide) ?_
  refine br1 (by decide) ?_
  refine br1 (by decide) ?_
  refine br1 (by decide) ?_
  refine ⟨qin 3 rfl (by omega) (by omega), ?_⟩
  refine br1 (by decide) ?_
  refine br1 (by decide) ?_
  refine br2 (fun z => z rfl) ?_
  exact h
set_option maxRecDepth 8000 in
theorem cP3_lay1 {k : Int32} (hok : okS (A 0)) (hk : qIn 0 ((f_n (A 0) : Int) - 1) k) (h : Q (some (.int (F 23))) (mem A (upd (upd (upd F 23 1) 28 (A 0 (118 + 3 * k.toNatClampNeg + 0))) 33 (A 0 (118 + 3 * k.toNatClampNeg + 2))) X)) : pz_C yX9_lay KX9_lay [.ref 0, .int 3, .int 1, .int k] (mem A F X) Q := by
  refine pz_C_of rfl rfl rfl (Nat.le_of_ble_eq_true rfl) (pz_wp_ok (pz_Is_ok SX9_lay) [] 100 ?_)
  obtain ⟨n1, n2⟩ := hok.n
  obtain ⟨b1, b2, b3⟩ := qI (m := 8) hk (by omega)
  refine cP_isSlot (fun _ => ?_) (fun g => absurd ⟨by decide, by decide⟩ g)
  refine br2 (by decide) ?_
  refine cP_within 0 3 rfl rfl (fun _ => ?_) (fun g => absurd ⟨by decide, by decide⟩ g)
  refine br2 (by decide) ?_
  refine br2 (fun z => z rfl) ?_
  refine cT0_hasEater n2 (by omega) (fun _ => ?_) (fun g => absurd hk g)
  refine br2 (by decide) ?_
  refine br1 (by decide) ?_
  refine br1 (by decide) ?_
  refine ⟨qin 3 rfl (by omega) (by omega), ?_⟩
  refine br2 (fun z => z rfl) ?_
  refine ⟨qin _ b1 b2 (by omega), ?_⟩
  refine ⟨qin _ b1 b2 (by omega), ?_⟩
  rw [qm_k b2, qm_a b2]
  exact h
theorem cP4_held {x : Int32} (h1 : F 24 = 0 → Q (some (.int (-1000000011))) (mem A F X)) (h2 : ¬ F 24 = 0 → F 24 = x → Q (some (.int 0)) (mem A F X)) (h3 : ¬ F 24 = 0 → ¬ F 24 = x → Q (some (.int (-1000000012))) (mem A F X)) : pz_C yX9_unlessHeld KX9_unlessHeld [.ref 0, .int 4, .int x] (mem A F X) Q := by
  refine pz_C_of rfl rfl rfl (Nat.le_of_ble_eq_true rfl) (pz_wp_ok (pz_Is_ok SX9_unlessHeld) [] 100 ?_)
  refine cP_isSlot (fun _ => ?_) (fun g => absurd ⟨by decide, by decide⟩ g)
  refine br1 (by decide) ?_
  refine ⟨qin 4 rfl (by omega) (by omega), ?_⟩
  refine ⟨fun g => ?_, fun g => ?_⟩
  · have g : ¬ F 24 = 0 := g
    refine ⟨qin 4 rfl (by omega) (by omega), ?_⟩
    refine ⟨fun g2 => ?_, fun g2 => ?_⟩
    · exact h3 g g2
    · exact h2 g g2
  · exact h1 g
set_option maxRecDepth 8000 in
theorem cP4_ask {k : Int32} (hk : F 24 = 1 → qIn 0 5 (F 29)) (h1 : ¬ qIn 0 5 k → Q (some (.int BAD)) (mem A F X)) (h : qIn 0 5 k → Q (some (.int (v_ask (F 24) (F 29) (f_worth (F 29) (F 34)) k))) (mem A F X)) : pz_C yX9_ask KX9_ask [.ref 0, .int 4, .int k] (mem A F X) Q := by
  refine pz_C_of rfl rfl rfl (Nat.le_of_ble_eq_true rfl) (pz_wp_ok (pz_Is_ok SX9_ask) [] 100 ?_)
  unfold v_ask at h
  refine cP_isKind (fun g => ?_) (fun g => br2 (fun z => z rfl) (h1 g))
  refine br1 (by decide) ?_
  have h := h g
  refine cP4_held (fun g1 => ?_) (fun g1 g2 => ?_) (fun g1 g2 => ?_)
  · rw [if_pos g1] at h
    exact br2 (by decide) h
  · rw [if_neg g1] at h
    refine br1 (fun z => z rfl) ?_
    refine ⟨qin 4 rfl (by omega) (by omega), ?_⟩
    refine cP_isUnder (hk g2) g (fun b hb => ?_)
    cases b with
    | true =>
      rw [if_pos ⟨g2, hb.mp rfl⟩] at h
      refine br2 (by decide) ?_
      exact cP_worth h
    | false =>
      rw [if_neg (fun z => Bool.noConfusion (hb.mpr z.2))] at h
      refine br1 (fun z => z rfl) ?_
      exact h
  · rw [if_neg g1, if_neg (fun z => g2 z.1)] at h
    exact br2 (by decide) h
set_option maxRecDepth 8000 in
theorem cP4_item {p : Int32} (hz : F 24 = 2 → ∃ z, z ≤ 24 ∧ F 49 = nI z) (h : Q (some (.int (v_item (F 24) (F 49) (A 18) p))) (mem A F X)) : pz_C yX9_item KX9_item [.ref 0, .int 4, .int p] (mem A F X) Q := by
  refine pz_C_of rfl rfl rfl (Nat.le_of_ble_eq_true rfl) (pz_wp_ok (pz_Is_ok SX9_item) [] 100 ?_)
  unfold v_item at h
  refine cP4_held (fun g1 => ?_) (fun g1 g2 => ?_) (fun g1 g2 => ?_)
  · rw [if_neg (by rw [g1]; decide), if_pos g1] at h
    exact br2 (by decide) h
  · rw [if_pos g2] at h
    obtain ⟨z, z1, z2⟩ := hz g2
    have cz := qcl _ z2 (by omega)
    rw [cz] at h
    refine br1 (fun z => z rfl) ?_
    refine ⟨qin 4 rfl (by omega) (by omega), ?_⟩
    refine cS8_hasPlace z2 (by omega) (fun g3 => ?_) (fun g3 => ?_)
    · rw [if_pos g3] at h
      refine br1 (by decide) ?_
      obtain ⟨b1, b2, b3⟩ := qI (m := 24) g3 (by omega)
      refine cS8_isNumber b1 b2 (fun g4 => ?_) (fun g4 => ?_)
      · rw [if_neg g4] at h
        refine br2 (by decide) ?_
        exact ⟨qin _ b1 b2 (by omega), h⟩
      · rw [if_pos g4] at h
        refine br1 (fun z => z rfl) ?_
        exact h
    · rw [if_neg g3] at h
      refine br2 (fun z => z rfl) ?_
      exact h
  · rw [if_neg g2, if_neg g1] at h
    exact br2 (by decide) h
set_option maxRecDepth 8000 in
theorem cP4_rest {n : Int32} (h : Q (some (.int (v_rest (F 24) (F 39) n))) (mem A F X)) : pz_C yX9_rest KX9_rest [.ref 0, .int 4, .int n] (mem A F X) Q := by
  refine pz_C_of rfl rfl rfl (Nat.le_of_ble_eq_true rfl) (pz_wp_ok (pz_Is_ok SX9_rest) [] 100 ?_)
  unfold v_rest at h
  refine cP4_held (fun g1 => ?_) (fun g1 g2 => ?_) (fun g1 g2 => ?_)
  · rw [if_neg (by rw [g1]; decide), if_pos g1] at h
    exact br2 (by decide) h
  · rw [if_pos g2] at h
    refine br1 (fun z => z rfl) ?_
    refine ⟨fun g3 => ?_, fun g3 => ?_⟩
    · have g3 : ¬ n = 0 := g3
      rw [if_neg g3] at h
      refine ⟨qin 4 rfl (by omega) (by omega), ?_⟩
      exact ⟨g3, h⟩
    · have g3 : n = 0 := g3
      rw [if_pos g3] at h
      exact h
  · rw [if_neg g2, if_neg g1] at h
    exact br2 (by decide) h
set_option maxRecDepth 8000 in
theorem cP4_lay0 {k : Int32} (h : Q (some (.int (F 24))) (mem A (upd F 24 0) X)) : pz_C yX9_lay KX9_lay [.ref 0, .int 4, .int 0, .int k] (mem A F X) Q := by
  refine pz_C_of rfl rfl rfl (Nat.le_of_ble_eq_true rfl) (pz_wp_ok (pz_Is_ok SX9_lay) [] 100 ?_)
  refine cP_isSlot (fun _ => ?_) (fun g => absurd ⟨by decide, by decide⟩ g)
  refine br2 (by decide) ?_
  refine cP_within 0 3 rfl rfl (fun _ => ?_) (fun g => absurd ⟨by decide, by decide⟩ g)
  refine br2 (by decide) ?_
  refine br1 (by decide) ?_
  refine br1 (by decide) ?_
  refine br1 (by decide) ?_
  refine ⟨qin 4 rfl (by omega) (by omega), ?_⟩
  refine br1 (by decide) ?_
  refine br1 (by decide) ?_
  refine br1 (by decide) ?_
  exact h
set_option maxRecDepth 8000 in
theorem cP4_lay3 {k : Int32} (h : Q (some (.int (F 24))) (mem A (upd (upd F 24 3) 39 k) X)) : pz_C yX9_lay KX9_lay [.ref 0, .int 4, .int 3, .int k] (mem A F X) Q := by
  refine pz_C_of rfl rfl rfl (Nat.le_of_ble_eq_true rfl) (pz_wp_ok (pz_Is_ok SX9_lay) [] 100 ?_)
  refine cP_isSlot (fun _ => ?_) (fun g => absurd ⟨by decide, by decide⟩ g)
  refine br2 (by decide) ?_
  refine cP_within 0 3 rfl rfl (fun _ => ?_) (fun g => absurd ⟨by decide, by decide⟩ g)
  refine br2 (by decide) ?_
  refine br1 (by decide) ?_
  refine br1 (by decide) ?_
  refine br1 (by decide) ?_
  refine ⟨qin 4 rfl (by omega) (by omega), ?_⟩
  refine br1 (by decide) ?_
  refine br1 (by decide) ?_
  refine br2 (fun z => z rfl) ?_
  exact h
set_option maxRecDepth 8000 in
theorem cP4_lay1 {k : Int32} (hok : okS (A 0)) (hk : qIn 0 ((f_n (A 0) : Int) - 1) k) (h : Q (some (.int (F 24))) (mem A (upd (upd (upd F 24 1) 29 (A 0 (118 + 3 * k.toNatClampNeg + 0))) 34 (A 0 (118 + 3 * k.toNatClampNeg + 2))) X)) : pz_C yX9_lay KX9_lay [.ref 0, .int 4, .int 1, .int k] (mem A F X) Q := by
  refine pz_C_of rfl rfl rfl (Nat.le_of_ble_eq_true rfl) (pz_wp_ok (pz_Is_ok SX9_lay) [] 100 ?_)
  obtain ⟨n1, n2⟩ := hok.n
  obtain ⟨b1, b2, b3⟩ := qI (m := 8) hk (by omega)
  refine cP_isSlot (fun _ => ?_) (fun g => absurd ⟨by decide, by decide⟩ g)
  refine br2 (by decide) ?_
  refine cP_within 0 3 rfl rfl (fun _ => ?_) (fun g => absurd ⟨by decide, by decide⟩ g)
  refine br2 (by decide) ?_
  refine br2 (fun z => z rfl) ?_
  refine cT0_hasEater n2 (by omega) (fun _ => ?_) (fun g => absurd hk g)
  refine br2 (by decide) ?_
  refine br1 (by decide) ?_
  refine br1 (by decide) ?_
  refine ⟨qin 4 rfl (by omega) (by omega), ?_⟩
  refine br2 (fun z => z rfl) ?_
  refine ⟨qin _ b1 b2 (by omega), ?_⟩
  refine ⟨qin _ b1 b2 (by omega), ?_⟩
  rw [qm_k b2, qm_a b2]
  exact h
set_option maxRecDepth 8000 in
theorem cP00_lay2 (h1 : F 10 = -1 → Q (some (.int (-1000000011))) (mem A F X)) (h : ¬ F 10 = -1 → Q (some (.int (F 20))) (mem (va_up A 14 (qcp 24 (A 10) (A 14))) (upd (upd (upd F 20 2) 40 (F 10)) 45 (F 14)) X)) : pz_C yX9_lay KX9_lay [.ref 0, .int 0, .int 2, .int 0] (mem A F X) Q := by
  refine pz_C_of rfl rfl rfl (Nat.le_of_ble_eq_true rfl) (pz_wp_ok (pz_Is_ok SX9_lay) [] 100 ?_)
  refine cP_isSlot (fun _ => ?_) (fun g => absurd ⟨by decide, by decide⟩ g)
  refine br2 (by decide) ?_
  refine cP_within 0 3 rfl rfl (fun _ => ?_) (fun g => absurd ⟨by decide, by decide⟩ g)
  refine br2 (by decide) ?_
  refine br1 (by decide) ?_
  refine br2 (fun z => z rfl) ?_
  refine cP_isSheet (fun _ => ?_) (fun g => absurd ⟨by decide, by decide⟩ g)
  refine br1 (by decide) ?_
  refine br2 (fun z => z rfl) ?_
  refine ⟨qin 0 rfl (by omega) (by omega), ?_⟩
  refine cS0_isMissing (fun g => ?_) (fun g => ?_)
  · refine br2 (by decide) ?_
    exact h1 g
  refine br1 (fun z => z rfl) ?_
  refine ⟨qin 0 rfl (by omega) (by omega), ?_⟩
  refine br1 (by decide) ?_
  refine br2 (fun z => z rfl) ?_
  refine ⟨qin 0 rfl (by omega) (by omega), ?_⟩
  refine qC (cS4_of0 (A := A) (F := upd F 20 2) (X := X) ?_) rfl rfl
  exact h g
set_option maxRecDepth 8000 in
theorem cP01_lay2 (h1 : F 11 = -1 → Q (some (.int (-1000000011))) (mem A F X)) (h : ¬ F 11 = -1 → Q (some (.int (F 20))) (mem (va_up A 14 (qcp 24 (A 11) (A 14))) (upd (upd (upd F 20 2) 40 (F 11)) 45 (F 15)) X)) : pz_C yX9_lay KX9_lay [.ref 0, .int 0, .int 2, .int 1] (mem A F X) Q := by
  refine pz_C_of rfl rfl rfl (Nat.le_of_ble_eq_true rfl) (pz_wp_ok (pz_Is_ok SX9_lay) [] 100 ?_)
  refine cP_isSlot (fun _ => ?_) (fun g => absurd ⟨by decide, by decide⟩ g)
  refine br2 (by decide) ?_
  refine cP_within 0 3 rfl rfl (fun _ => ?_) (fun g => absurd ⟨by decide, by decide⟩ g)
  refine br2 (by decide) ?_
  refine br1 (by decide) ?_
  refine br2 (fun z => z rfl) ?_
  refine cP_isSheet (fun _ => ?_) (fun g => absurd ⟨by decide, by decide⟩ g)
  refine br1 (by decide) ?_
  refine br2 (fun z => z rfl) ?_
  refine ⟨qin 1 rfl (by omega) (by omega), ?_⟩
  refine cS1_isMissing (fun g => ?_) (fun g => ?_)
  · refine br2 (by decide) ?_
    exact h1 g
  refine br1 (fun z => z rfl) ?_
  refine ⟨qin 0 rfl (by omega) (by omega), ?_⟩
  refine br1 (by decide) ?_
  refine br2 (fun z => z rfl) ?_
  refine ⟨qin 1 rfl (by omega) (by omega), ?_⟩
  refine qC (cS4_of1 (A := A) (F := upd F 20 2) (X := X) ?_) rfl rfl
  exact h g
set_option maxRecDepth 8000 in
theorem cP02_lay2 (h1 : F 12 = -1 → Q (some (.int (-1000000011))) (mem A F X)) (h : ¬ F 12 = -1 → Q (some (.int (F 20))) (mem (va_up A 14 (qcp 24 (A 12) (A 14))) (upd (upd (upd F 20 2) 40 (F 12)) 45 (F 16)) X)) : pz_C yX9_lay KX9_lay [.ref 0, .int 0, .int 2, .int 2] (mem A F X) Q := by
  refine pz_C_of rfl rfl rfl (Nat.le_of_ble_eq_true rfl) (pz_wp_ok (pz_Is_ok SX9_lay) [] 100 ?_)
  refine cP_isSlot (fun _ => ?_) (fun g => absurd ⟨by decide, by decide⟩ g)
  refine br2 (by decide) ?_
  refine cP_within 0 3 rfl rfl (fun _ => ?_) (fun g => absurd ⟨by decide, by decide⟩ g)
  refine br2 (by decide) ?_
  refine br1 (by decide) ?_
  refine br2 (fun z => z rfl) ?_
  refine cP_isSheet (fun _ => ?_) (fun g => absurd ⟨by decide, by decide⟩ g)
  refine br1 (by decide) ?_
  refine br2 (fun z => z rfl) ?_
  refine ⟨qin 2 rfl (by omega) (by omega), ?_⟩
  refine cS2_isMissing (fun g => ?_) (fun g => ?_)
  · refine br2 (by decide) ?_
    exact h1 g
  refine br1 (fun z => z rfl) ?_
  refine ⟨qin 0 rfl (by omega) (by omega), ?_⟩
  refine br1 (by decide) ?_
  refine br2 (fun z => z rfl) ?_
  refine ⟨qin 2 rfl (by omega) (by omega), ?_⟩
  refine qC (cS4_of2 (A := A) (F := upd F 20 2) (X := X) ?_) rfl rfl
  exact h g
set_option maxRecDepth 8000 in
theorem cP03_lay2 (h1 : F 13 = -1 → Q (some (.int (-1000000011))) (mem A F X)) (h : ¬ F 13 = -1 → Q (some (.int (F 20))) (mem (va_up A 14 (qcp 24 (A 13) (A 14))) (upd (upd (upd F 20 2) 40 (F 13)) 45 (F 17)) X)) : pz_C yX9_lay KX9_lay [.ref 0, .int 0, .int 2, .int 3] (mem A F X) Q := by
  refine pz_C_of rfl rfl rfl (Nat.le_of_ble_eq_true rfl) (pz_wp_ok (pz_Is_ok SX9_lay) [] 100 ?_)
  refine cP_isSlot (fun _ => ?_) (fun g => absurd ⟨by decide, by decide⟩ g)
  refine br2 (by decide) ?_
  refine cP_within 0 3 rfl rfl (fun _ => ?_) (fun g => absurd ⟨by decide, by decide⟩ g)
  refine br2 (by decide) ?_
  refine br1 (by decide) ?_
  refine br2 (fun z => z rfl) ?_
  refine cP_isSheet (fun _ => ?_) (fun g => absurd ⟨by decide, by decide⟩ g)
  refine br1 (by decide) ?_
  refine br2 (fun z => z rfl) ?_
  refine ⟨qin 3 rfl (by omega) (by omega), ?_⟩
  refine cS3_isMissing (fun g => ?_) (fun g => ?_)
  · refine br2 (by decide) ?_
    exact h1 g
  refine br1 (fun z => z rfl) ?_
  refine ⟨qin 0 rfl (by omega) (by omega), ?_⟩
  refine br1 (by decide) ?_
  refine br2 (fun z => z rfl) ?_
  refine ⟨qin 3 rfl (by omega) (by omega), ?_⟩
  refine qC (cS4_of3 (A := A) (F := upd F 20 2) (X := X) ?_) rfl rfl
  exact h g
set_option maxRecDepth 8000 in
theorem cP10_lay2 (h1 : F 10 = -1 → Q (some (.int (-1000000011))) (mem A F X)) (h : ¬ F 10 = -1 → Q (some (.int (F 21))) (mem (va_up A 15 (qcp 24 (A 10) (A 15))) (upd (upd (upd F 21 2) 41 (F 10)) 46 (F 14)) X)) : pz_C yX9_lay KX9_lay [.ref 0, .int 1, .int 2, .int 0] (mem A F X) Q := by
  refine pz_C_of rfl rfl rfl (Nat.le_of_ble_eq_true rfl) (pz_wp_ok (pz_Is_ok SX9_lay) [] 100 ?_)
  refine cP_isSlot (fun _ => ?_) (fun g => absurd ⟨by decide, by decide⟩ g)
  refine br2 (by decide) ?_
  refine cP_within 0 3 rfl rfl (fun _ => ?_) (fun g => absurd ⟨by decide, by decide⟩ g)
  refine br2 (by decide) ?_
  refine br1 (by decide) ?_
  refine br2 (fun z => z rfl) ?_
  refine cP_isSheet (fun _ => ?_) (fun g => absurd ⟨by decide, by decide⟩ g)
  refine br1 (by decide) ?_
  refine br2 (fun z => z rfl) ?_
  refine ⟨qin 0 rfl (by omega) (by omega), ?_⟩
  refine cS0_isMissing (fun g => ?_) (fun g => ?_)
  · refine br2 (by decide) ?_
    exact h1 g
  refine br1 (fun z => z rfl) ?_
  refine ⟨qin 1 rfl (by omega) (by omega), ?_⟩
  refine br1 (by decide) ?_
  refine br2 (fun z => z rfl) ?_
  refine ⟨qin 0 rfl (by omega) (by omega), ?_⟩
  refine qC (cS5_of0 (A := A) (F := upd F 21 2) (X := X) ?_) rfl rfl
  exact h g
set_option maxRecDepth 8000 in
theorem cP11_lay2 (h1 : F 11 = -1 → Q (some (.int (-1000000011))) (mem A F X)) (h : ¬ F 11 = -1 → Q (some (.int (F 21))) (mem (va_up A 15 (qcp 24 (A 11) (A 15))) (upd (upd (upd F 21 2) 41 (F 11)) 46 (F 15)) X)) : pz_C yX9_lay KX9_lay [.ref 0, .int 1, .int 2, .int 1] (mem A F X) Q := by
  refine pz_C_of rfl rfl rfl (Nat.le_of_ble_eq_true rfl) (pz_wp_ok (pz_Is_ok SX9_lay) [] 100 ?_)
  refine cP_isSlot (fun _ => ?_) (fun g => absurd ⟨by decide, by decide⟩ g)
  refine br2 (by decide) ?_
  refine cP_within 0 3 rfl rfl (fun _ => ?_) (fun g => absurd ⟨by decide, by decide⟩ g)
  refine br2 (by decide) ?_
  refine br1 (by decide) ?_
  refine br2 (fun z => z rfl) ?_
  refine cP_isSheet (fun _ => ?_) (fun g => absurd ⟨by decide, by decide⟩ g)
  refine br1 (by decide) ?_
  refine br2 (fun z => z rfl) ?_
  refine ⟨qin 1 rfl (by omega) (by omega), ?_⟩
  refine cS1_isMissing (fun g => ?_) (fun g => ?_)
  · refine br2 (by decide) ?_
    exact h1 g
  refine br1 (fun z => z rfl) ?_
  refine ⟨qin 1 rfl (by omega) (by omega), ?_⟩
  refine br1 (by decide) ?_
  refine br2 (fun z => z rfl) ?_
  refine ⟨qin 1 rfl (by omega) (by omega), ?_⟩
  refine qC (cS5_of1 (A := A) (F := upd F 21 2) (X := X) ?_) rfl rfl
  exact h g
set_option maxRecDepth 8000 in
theorem cP12_lay2 (h1 : F 12 = -1 → Q (some (.int (-1000000011))) (mem A F X)) (h : ¬ F 12 = -1 → Q (some (.int (F 21))) (mem (va_up A 15 (qcp 24 (A 12) (A 15))) (upd (upd (upd F 21 2) 41 (F 12)) 46 (F 16)) X)) : pz_C yX9_lay KX9_lay [.ref 0, .int 1, .int 2, .int 2] (mem A F X) Q := by
  refine pz_C_of rfl rfl rfl (Nat.le_of_ble_eq_true rfl) (pz_wp_ok (pz_Is_ok SX9_lay) [] 100 ?_)
  refine cP_isSlot (fun _ => ?_) (fun g => absurd ⟨by decide, by decide⟩ g)
  refine br2 (by decide) ?_
  refine cP_within 0 3 rfl rfl (fun _ => ?_) (fun g => absurd ⟨by decide, by decide⟩ g)
  refine br2 (by decide) ?_
  refine br1 (by decide) ?_
  refine br2 (fun z => z rfl) ?_
  refine cP_isSheet (fun _ => ?_) (fun g => absurd ⟨by decide, by decide⟩ g)
  refine br1 (by decide) ?_
  refine br2 (fun z => z rfl) ?_
  refine ⟨qin 2 rfl (by omega) (by omega), ?_⟩
  refine cS2_isMissing (fun g => ?_) (fun g => ?_)
  · refine br2 (by decide) ?_
    exact h1 g
  refine br1 (fun z => z rfl) ?_
  refine ⟨qin 1 rfl (by omega) (by omega), ?_⟩
  refine br1 (by decide) ?_
  refine br2 (fun z => z rfl) ?_
  refine ⟨qin 2 rfl (by omega) (by omega), ?_⟩
  refine qC (cS5_of2 (A := A) (F := upd F 21 2) (X := X) ?_) rfl rfl
  exact h g
set_option maxRecDepth 8000 in
theorem cP13_lay2 (h1 : F 13 = -1 → Q (some (.int (-1000000011))) (mem A F X)) (h : ¬ F 13 = -1 → Q (some (.int (F 21))) (mem (va_up A 15 (qcp 24 (A 13) (A 15))) (upd (upd (upd F 21 2) 41 (F 13)) 46 (F 17)) X)) : pz_C yX9_lay KX9_lay [.ref 0, .int 1, .int 2, .int 3] (mem A F X) Q := by
  refine pz_C_of rfl rfl rfl (Nat.le_of_ble_eq_true rfl) (pz_wp_ok (pz_Is_ok SX9_lay) [] 100 ?_)
  refine cP_isSlot (fun _ => ?_) (fun g => absurd ⟨by decide, by decide⟩ g)
  refine br2 (by decide) ?_
  refine cP_within 0 3 rfl rfl (fun _ => ?_) (fun g => absurd ⟨by decide, by decide⟩ g)
  refine br2 (by decide) ?_
  refine br1 (by decide) ?_
  refine br2 (fun z => z rfl) ?_
  refine cP_isSheet (fun _ => ?_) (fun g => absurd ⟨by decide, by decide⟩ g)
  refine br1 (by decide) ?_
  refine br2 (fun z => z rfl) ?_
  refine ⟨qin 3 rfl (by omega) (by omega), ?_⟩
  refine cS3_isMissing (fun g => ?_) (fun g => ?_)
  · refine br2 (by decide) ?_
    exact h1 g
  refine br1 (fun z => z rfl) ?_
  refine ⟨qin 1 rfl (by omega) (by omega), ?_⟩
  refine br1 (by decide) ?_
  refine br2 (fun z => z rfl) ?_
  refine ⟨qin 3 rfl (by omega) (by omega), ?_⟩
  refine qC (cS5_of3 (A := A) (F := upd F 21 2) (X := X) ?_) rfl rfl
  exact h g
set_option maxRecDepth 8000 in
theorem cP20_lay2 (h1 : F 10 = -1 → Q (some (.int (-1000000011))) (mem A F X)) (h : ¬ F 10 = -1 → Q (some (.int (F 22))) (mem (va_up A 16 (qcp 24 (A 10) (A 16))) (upd (upd (upd F 22 2) 42 (F 10)) 47 (F 14)) X)) : pz_C yX9_lay KX9_lay [.ref 0, .int 2, .int 2, .int 0] (mem A F X) Q := by
  refine pz_C_of rfl rfl rfl (Nat.le_of_ble_eq_true rfl) (pz_wp_ok (pz_Is_ok SX9_lay) [] 100 ?_)
  refine cP_isSlot (fun _ => ?_) (fun g => absurd ⟨by decide, by decide⟩ g)
  refine br2 (by decide) ?_
  refine cP_within 0 3 rfl rfl (fun _ => ?_) (fun g => absurd ⟨by decide, by decide⟩ g)
  refine br2 (by decide) ?_
  refine br1 (by decide) ?_
  refine br2 (fun z => z rfl) ?_
  refine cP_isSheet (fun _ => ?_) (fun g => absurd ⟨by decide, by decide⟩ g)
  refine br1 (by decide) ?_
  refine br2 (fun z => z rfl) ?_
  refine ⟨qin 0 rfl (by omega) (by omega), ?_⟩
  refine cS0_isMissing (fun g => ?_) (fun g => ?_)
  · refine br2 (by decide) ?_
    exact h1 g
  refine br1 (fun z => z rfl) ?_
  refine ⟨qin 2 rfl (by omega) (by omega), ?_⟩
  refine br1 (by decide) ?_
  refine br2 (fun z => z rfl) ?_
  refine ⟨qin 0 rfl (by omega) (by omega), ?_⟩
  refine qC (cS6_of0 (A := A) (F := upd F 22 2) (X := X) ?_) rfl rfl
  exact h g
set_option maxRecDepth 8000 in
theorem cP21_lay2 (h1 : F 11 = -1 → Q (some (.int (-1000000011))) (mem A F X)) (h : ¬ F 11 = -1 → Q (some (.int (F 22))) (mem (va_up A 16 (qcp 24 (A 11) (A 16))) (upd (upd (upd F 22 2) 42 (F 11)) 47 (F 15)) X)) : pz_C yX9_lay KX9_lay [.ref 0, .int 2, .int 2, .int 1] (mem A F X) Q := by
  refine pz_C_of rfl rfl rfl (Nat.le_of_ble_eq_true rfl) (pz_wp_ok (pz_Is_ok SX9_lay) [] 100 ?_)
  refine cP_isSlot (fun _ => ?_) (fun g => absurd ⟨by decide, by decide⟩ g)
  refine br2 (by decide) ?_
  refine cP_within 0 3 rfl rfl (fun _ => ?_) (fun g => absurd ⟨by decide, by decide⟩ g)
  refine br2 (by decide) ?_
  refine br1 (by decide) ?_
  refine br2 (fun z => z rfl) ?_
  refine cP_isSheet (fun _ => ?_) (fun g => absurd ⟨by decide, by decide⟩ g)
  refine br1 (by decide) ?_
  refine br2 (fun z => z rfl) ?_
  refine ⟨qin 1 rfl (by omega) (by omega), ?_⟩
  refine cS1_isMissing (fun g => ?_) (fun g => ?_)
  · refine br2 (by decide) ?_
    exact h1 g
  refine br1 (fun z => z rfl) ?_
  refine ⟨qin 2 rfl (by omega) (by omega), ?_⟩
  refine br1 (by decide) ?_
  refine br2 (fun z => z rfl) ?_
  refine ⟨qin 1 rfl (by omega) (by omega), ?_⟩
  refine qC (cS6_of1 (A := A) (F := upd F 22 2) (X := X) ?_) rfl rfl
  exact h g
set_option maxRecDepth 8000 in
theorem cP22_lay2 (h1 : F 12 = -1 → Q (some (.int (-1000000011))) (mem A F X)) (h : ¬ F 12 = -1 → Q (some (.int (F 22))) (mem (va_up A 16 (qcp 24 (A 12) (A 16))) (upd (upd (upd F 22 2) 42 (F 12)) 47 (F 16)) X)) : pz_C yX9_lay KX9_lay [.ref 0, .int 2, .int 2, .int 2] (mem A F X) Q := by
  refine pz_C_of rfl rfl rfl (Nat.le_of_ble_eq_true rfl) (pz_wp_ok (pz_Is_ok SX9_lay) [] 100 ?_)
  refine cP_isSlot (fun _ => ?_) (fun g => absurd ⟨by decide, by decide⟩ g)
  refine br2 (by decide) ?_
  refine cP_within 0 3 rfl rfl (fun _ => ?_) (fun g => absurd ⟨by decide, by decide⟩ g)
  refine br2 (by decide) ?_
  refine br1 (by decide) ?_
  refine br2 (fun z => z rfl) ?_
  refine cP_isSheet (fun _ => ?_) (fun g => absurd ⟨by decide, by decide⟩ g)
  refine br1 (by decide) ?_
  refine br2 (fun z => z rfl) ?_
  refine ⟨qin 2 rfl (by omega) (by omega), ?_⟩
  refine cS2_isMissing (fun g => ?_) (fun g => ?_)
  · refine br2 (by decide) ?_
    exact h1 g
  refine br1 (fun z => z rfl) ?_
  refine ⟨qin 2 rfl (by omega) (by omega), ?_⟩
  refine br1 (by decide) ?_
  refine br2 (fun z => z rfl) ?_
  refine ⟨qin 2 rfl (by omega) (by omega), ?_⟩
  refine qC (cS6_of2 (A := A) (F := upd F 22 2) (X := X) ?_) rfl rfl
  exact h g
set_option maxRecDepth 8000 in
theorem cP23_lay2 (h1 : F 13 = -1 → Q (some (.int (-1000000011))) (mem A F X)) (h : ¬ F 13 = -1 → Q (some (.int (F 22))) (mem (va_up A 16 (qcp 24 (A 13) (A 16))) (upd (upd (upd F 22 2) 42 (F 13)) 47 (F 17)) X)) : pz_C yX9_lay KX9_lay [.ref 0, .int 2, .int 2, .int 3] (mem A F X) Q := by
  refine pz_C_of rfl rfl rfl (Nat.le_of_ble_eq_true rfl) (pz_wp_ok (pz_Is_ok SX9_lay) [] 100 ?_)
  refine cP_isSlot (fun _ => ?_) (fun g => absurd ⟨by decide, by decide⟩ g)
  refine br2 (by decide) ?_
  refine cP_within 0 3 rfl rfl (fun _ => ?_) (fun g => absurd ⟨by decide, by decide⟩ g)
  refine br2 (by decide) ?_
  refine br1 (by decide) ?_
  refine br2 (fun z => z rfl) ?_
  refine cP_isSheet (fun _ => ?_) (fun g => absurd ⟨by decide, by decide⟩ g)
  refine br1 (by decide) ?_
  refine br2 (fun z => z rfl) ?_
  refine ⟨qin 3 rfl (by omega) (by omega), ?_⟩
  refine cS3_isMissing (fun g => ?_) (fun g => ?_)
  · refine br2 (by decide) ?_
    exact h1 g
  refine br1 (fun z => z rfl) ?_
  refine ⟨qin 2 rfl (by omega) (by omega), ?_⟩
  refine br1 (by decide) ?_
  refine br2 (fun z => z rfl) ?_
  refine ⟨qin 3 rfl (by omega) (by omega), ?_⟩
  refine qC (cS6_of3 (A := A) (F := upd F 22 2) (X := X) ?_) rfl rfl
  exact h g
set_option maxRecDepth 8000 in
theorem cP30_lay2 (h1 : F 10 = -1 → Q (some (.int (-1000000011))) (mem A F X)) (h : ¬ F 10 = -1 → Q (some (.int (F 23))) (mem (va_up A 17 (qcp 24 (A 10) (A 17))) (upd (upd (upd F 23 2) 43 (F 10)) 48 (F 14)) X)) : pz_C yX9_lay KX9_lay [.ref 0, .int 3, .int 2, .int 0] (mem A F X) Q := by
  refine pz_C_of rfl rfl rfl (Nat.le_of_ble_eq_true rfl) (pz_wp_ok (pz_Is_ok SX9_lay) [] 100 ?_)
  refine cP_isSlot (fun _ => ?_) (fun g => absurd ⟨by decide, by decide⟩ g)
  refine br2 (by decide) ?_
  refine cP_within 0 3 rfl rfl (fun _ => ?_) (fun g => absurd ⟨by decide, by decide⟩ g)
  refine br2 (by decide) ?_
  refine br1 (by decide) ?_
  refine br2 (fun z => z rfl) ?_
  refine cP_isSheet (fun _ => ?_) (fun g => absurd ⟨by decide, by decide⟩ g)
  refine br1 (by decide) ?_
  refine br2 (fun z => z rfl) ?_
  refine ⟨qin 0 rfl (by omega) (by omega), ?_⟩
  refine cS0_isMissing (fun g => ?_) (fun g => ?_)
  · refine br2 (by decide) ?_
    exact h1 g
  refine br1 (fun z => z rfl) ?_
  refine ⟨qin 3 rfl (by omega) (by omega), ?_⟩
  refine br1 (by decide) ?_
  refine br2 (fun z => z rfl) ?_
  refine ⟨qin 0 rfl (by omega) (by omega), ?_⟩
  refine qC (cS7_of0 (A := A) (F := upd F 23 2) (X := X) ?_) rfl rfl
  exact h g
set_option maxRecDepth 8000 in
theorem cP31_lay2 (h1 : F 11 = -1 → Q (some (.int (-1000000011))) (mem A F X)) (h : ¬ F 11 = -1 → Q (some (.int (F 23))) (mem (va_up A 17 (qcp 24 (A 11) (A 17))) (upd (upd (upd F 23 2) 43 (F 11)) 48 (F 15)) X)) : pz_C yX9_lay KX9_lay [.ref 0, .int 3, .int 2, .int 1] (mem A F X) Q := by
  refine pz_C_of rfl rfl rfl (Nat.le_of_ble_eq_true rfl) (pz_wp_ok (pz_Is_ok SX9_lay) [] 100 ?_)
  refine cP_isSlot (fun _ => ?_) (fun g => absurd ⟨by decide, by decide⟩ g)
  refine br2 (by decide) ?_
  refine cP_within 0 3 rfl rfl (fun _ => ?_) (fun g => absurd ⟨by decide, by decide⟩ g)
  refine br2 (by decide) ?_
  refine br1 (by decide) ?_
  refine br2 (fun z => z rfl) ?_
  refine cP_isSheet (fun _ => ?_) (fun g => absurd ⟨by decide, by decide⟩ g)
  refine br1 (by decide) ?_
  refine br2 (fun z => z rfl) ?_
  refine ⟨qin 1 rfl (by omega) (by omega), ?_⟩
  refine cS1_isMissing (fun g => ?_) (fun g => ?_)
  · refine br2 (by decide) ?_
    exact h1 g
  refine br1 (fun z => z rfl) ?_
  refine ⟨qin 3 rfl (by omega) (by omega), ?_⟩
  refine br1 (by decide) ?_
  refine br2 (fun z => z rfl) ?_
  refine ⟨qin 1 rfl (by omega) (by omega), ?_⟩
  refine qC (cS7_of1 (A := A) (F := upd F 23 2) (X := X) ?_) rfl rfl
  exact h g
set_option maxRecDepth 8000 in
theorem cP32_lay2 (h1 : F 12 = -1 → Q (some (.int (-1000000011))) (mem A F X)) (h : ¬ F 12 = -1 → Q (some (.int (F 23))) (mem (va_up A 17 (qcp 24 (A 12) (A 17))) (upd (upd (upd F 23 2) 43 (F 12)) 48 (F 16)) X)) : pz_C yX9_lay KX9_lay [.ref 0, .int 3, .int 2, .int 2] (mem A F X) Q := by
  refine pz_C_of rfl rfl rfl (Nat.le_of_ble_eq_true rfl) (pz_wp_ok (pz_Is_ok SX9_lay) [] 100 ?_)
  refine cP_isSlot (fun _ => ?_) (fun g => absurd ⟨by decide, by decide⟩ g)
  refine br2 (by decide) ?_
  refine cP_within 0 3 rfl rfl (fun _ => ?_) (fun g => absurd ⟨by decide, by decide⟩ g)
  refine br2 (by decide) ?_
  refine br1 (by decide) ?_
  refine br2 (fun z => z rfl) ?_
  refine cP_isSheet (fun _ => ?_) (fun g => absurd ⟨by decide, by decide⟩ g)
  refine br1 (by decide) ?_
  refine br2 (fun z => z rfl) ?_
  refine ⟨qin 2 rfl (by omega) (by omega), ?_⟩
  refine cS2_isMissing (fun g => ?_) (fun g => ?_)
  · refine br2 (by decide) ?_
    exact h1 g
  refine br1 (fun z => z rfl) ?_
  refine ⟨qin 3 rfl (by omega) (by omega), ?_⟩
  refine br1 (by decide) ?_
  refine br2 (fun z => z rfl) ?_
  refine ⟨qin 2 rfl (by omega) (by omega), ?_⟩
  refine qC (cS7_of2 (A := A) (F := upd F 23 2) (X := X) ?_) rfl rfl
  exact h g
set_option maxRecDepth 8000 in
theorem cP33_lay2 (h1 : F 13 = -1 → Q (some (.int (-1000000011))) (mem A F X)) (h : ¬ F 13 = -1 → Q (some (.int (F 23))) (mem (va_up A 17 (qcp 24 (A 13) (A 17))) (upd (upd (upd F 23 2) 43 (F 13)) 48 (F 17)) X)) : pz_C yX9_lay KX9_lay [.ref 0, .int 3, .int 2, .int 3] (mem A F X) Q := by
  refine pz_C_of rfl rfl rfl (Nat.le_of_ble_eq_true rfl) (pz_wp_ok (pz_Is_ok SX9_lay) [] 100 ?_)
  refine cP_isSlot (fun _ => ?_) (fun g => absurd ⟨by decide, by decide⟩ g)
  refine br2 (by decide) ?_
  refine cP_within 0 3 rfl rfl (fun _ => ?_) (fun g => absurd ⟨by decide, by decide⟩ g)
  refine br2 (by decide) ?_
  refine br1 (by decide) ?_
  refine br2 (fun z => z rfl) ?_
  refine cP_isSheet (fun _ => ?_) (fun g => absurd ⟨by decide, by decide⟩ g)
  refine br1 (by decide) ?_
  refine br2 (fun z => z rfl) ?_
  refine ⟨qin 3 rfl (by omega) (by omega), ?_⟩
  refine cS3_isMissing (fun g => ?_) (fun g => ?_)
  · refine br2 (by decide) ?_
    exact h1 g
  refine br1 (fun z => z rfl) ?_
  refine ⟨qin 3 rfl (by omega) (by omega), ?_⟩
  refine br1 (by decide) ?_
  refine br2 (fun z => z rfl) ?_
  refine ⟨qin 3 rfl (by omega) (by omega), ?_⟩
  refine qC (cS7_of3 (A := A) (F := upd F 23 2) (X := X) ?_) rfl rfl
  exact h g
set_option maxRecDepth 8000 in
theorem cP40_lay2 (h1 : F 10 = -1 → Q (some (.int (-1000000011))) (mem A F X)) (h : ¬ F 10 = -1 → Q (some (.int (F 24))) (mem (va_up A 18 (qcp 24 (A 10) (A 18))) (upd (upd (upd F 24 2) 44 (F 10)) 49 (F 14)) X)) : pz_C yX9_lay KX9_lay [.ref 0, .int 4, .int 2, .int 0] (mem A F X) Q := by
  refine pz_C_of rfl rfl rfl (Nat.le_of_ble_eq_true rfl) (pz_wp_ok (pz_Is_ok SX9_lay) [] 100 ?_)
  refine cP_isSlot (fun _ => ?_) (fun g => absurd ⟨by decide, by decide⟩ g)
  refine br2 (by decide) ?_
  refine cP_within 0 3 rfl rfl (fun _ => ?_) (fun g => absurd ⟨by decide, by decide⟩ g)
  refine br2 (by decide) ?_
  refine br1 (by decide) ?_
  refine br2 (fun z => z rfl) ?_
  refine cP_isSheet (fun _ => ?_) (fun g => absurd ⟨by decide, by decide⟩ g)
  refine br1 (by decide) ?_
  refine br2 (fun z => z rfl) ?_
  refine ⟨qin 0 rfl (by omega) (by omega), ?_⟩
  refine cS0_isMissing (fun g => ?_) (fun g => ?_)
  · refine br2 (by decide) ?_
    exact h1 g
  refine br1 (fun z => z rfl) ?_
  refine ⟨qin 4 rfl (by omega) (by omega), ?_⟩
  refine br1 (by decide) ?_
  refine br2 (fun z => z rfl) ?_
  refine ⟨qin 0 rfl (by omega) (by omega), ?_⟩
  refine qC (cS8_of0 (A := A) (F := upd F 24 2) (X := X) ?_) rfl rfl
  exact h g
set_option maxRecDepth 8000 in
theorem cP41_lay2 (h1 : F 11 = -1 → Q (some (.int (-1000000011))) (mem A F X)) (h : ¬ F 11 = -1 → Q (some (.int (F 24))) (mem (va_up A 18 (qcp 24 (A 11) (A 18))) (upd (upd (upd F 24 2) 44 (F 11)) 49 (F 15)) X)) : pz_C yX9_lay KX9_lay [.ref 0, .int 4, .int 2, .int 1] (mem A F X) Q := by
  refine pz_C_of rfl rfl rfl (Nat.le_of_ble_eq_true rfl) (pz_wp_ok (pz_Is_ok SX9_lay) [] 100 ?_)
  refine cP_isSlot (fun _ => ?_) (fun g => absurd ⟨by decide, by decide⟩ g)
  refine br2 (by decide) ?_
  refine cP_within 0 3 rfl rfl (fun _ => ?_) (fun g => absurd ⟨by decide, by decide⟩ g)
  refine br2 (by decide) ?_
  refine br1 (by decide) ?_
  refine br2 (fun z => z rfl) ?_
  refine cP_isSheet (fun _ => ?_) (fun g => absurd ⟨by decide, by decide⟩ g)
  refine br1 (by decide) ?_
  refine br2 (fun z => z rfl) ?_
  refine ⟨qin 1 rfl (by omega) (by omega), ?_⟩
  refine cS1_isMissing (fun g => ?_) (fun g => ?_)
  · refine br2 (by decide) ?_
    exact h1 g
  refine br1 (fun z => z rfl) ?_
  refine ⟨qin 4 rfl (by omega) (by omega), ?_⟩
  refine br1 (by decide) ?_
  refine br2 (fun z => z rfl) ?_
  refine ⟨qin 1 rfl (by omega) (by omega), ?_⟩
  refine qC (cS8_of1 (A := A) (F := upd F 24 2) (X := X) ?_) rfl rfl
  exact h g
set_option maxRecDepth 8000 in
theorem cP42_lay2 (h1 : F 12 = -1 → Q (some (.int (-1000000011))) (mem A F X)) (h : ¬ F 12 = -1 → Q (some (.int (F 24))) (mem (va_up A 18 (qcp 24 (A 12) (A 18))) (upd (upd (upd F 24 2) 44 (F 12)) 49 (F 16)) X)) : pz_C yX9_lay KX9_lay [.ref 0, .int 4, .int 2, .int 2] (mem A F X) Q := by
  refine pz_C_of rfl rfl rfl (Nat.le_of_ble_eq_true rfl) (pz_wp_ok (pz_Is_ok SX9_lay) [] 100 ?_)
  refine cP_isSlot (fun _ => ?_) (fun g => absurd ⟨by decide, by decide⟩ g)
  refine br2 (by decide) ?_
  refine cP_within 0 3 rfl rfl (fun _ => ?_) (fun g => absurd ⟨by decide, by decide⟩ g)
  refine br2 (by decide) ?_
  refine br1 (by decide) ?_
  refine br2 (fun z => z rfl) ?_
  refine cP_isSheet (fun _ => ?_) (fun g => absurd ⟨by decide, by decide⟩ g)
  refine br1 (by decide) ?_
  refine br2 (fun z => z rfl) ?_
  refine ⟨qin 2 rfl (by omega) (by omega), ?_⟩
  refine cS2_isMissing (fun g => ?_) (fun g => ?_)
  · refine br2 (by decide) ?_
    exact h1 g
  refine br1 (fun z => z rfl) ?_
  refine ⟨qin 4 rfl (by omega) (by omega), ?_⟩
  refine br1 (by decide) ?_
  refine br2 (fun z => z rfl) ?_
  refine ⟨qin 2 rfl (by omega) (by omega), ?_⟩
  refine qC (cS8_of2 (A := A) (F := upd F 24 2) (X := X) ?_) rfl rfl
  exact h g
set_option maxRecDepth 8000 in
theorem cP43_lay2 (h1 : F 13 = -1 → Q (some (.int (-1000000011))) (mem A F X)) (h : ¬ F 13 = -1 → Q (some (.int (F 24))) (mem (va_up A 18 (qcp 24 (A 13) (A 18))) (upd (upd (upd F 24 2) 44 (F 13)) 49 (F 17)) X)) : pz_C yX9_lay KX9_lay [.ref 0, .int 4, .int 2, .int 3] (mem A F X) Q := by
  refine pz_C_of rfl rfl rfl (Nat.le_of_ble_eq_true rfl) (pz_wp_ok (pz_Is_ok SX9_lay) [] 100 ?_)
  refine cP_isSlot (fun _ => ?_) (fun g => absurd ⟨by decide, by decide⟩ g)
  refine br2 (by decide) ?_
  refine cP_within 0 3 rfl rfl (fun _ => ?_) (fun g => absurd ⟨by decide, by decide⟩ g)
  refine br2 (by decide) ?_
  refine br1 (by decide) ?_
  refine br2 (fun z => z rfl) ?_
  refine cP_isSheet (fun _ => ?_) (fun g => absurd ⟨by decide, by decide⟩ g)
  refine br1 (by decide) ?_
  refine br2 (fun z => z rfl) ?_
  refine ⟨qin 3 rfl (by omega) (by omega), ?_⟩
  refine cS3_isMissing (fun g => ?_) (fun g => ?_)
  · refine br2 (by decide) ?_
    exact h1 g
  refine br1 (fun z => z rfl) ?_
  refine ⟨qin 4 rfl (by omega) (by omega), ?_⟩
  refine br1 (by decide) ?_
  refine br2 (fun z => z rfl) ?_
  refine ⟨qin 3 rfl (by omega) (by omega), ?_⟩
  refine qC (cS8_of3 (A := A) (F := upd F 24 2) (X := X) ?_) rfl rfl
  exact h g
end POT
