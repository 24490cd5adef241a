/-! the pot: small methods -/
section POT
variable {A A1 : qA} {F : qF} {X : qX} {Q : pz_Q} {M : pz_M}
theorem cP_within {v lo hi : Int32} (a b : Int) (ha : lo.toInt = a) (hb : hi.toInt = b) (h1 : qIn a b v → Q (some (.int 1)) M) (h0 : ¬ qIn a b v → Q (some (.int 0)) M) : pz_C yX9_within KX9_within [.int v, .int lo, .int hi] M Q := by
  subst ha
  subst hb
  refine pz_C_of rfl rfl rfl (Nat.le_of_ble_eq_true rfl) (pz_wp_ok (pz_Is_ok SX9_within) [] 100 ?_)
  refine ⟨fun g => ?_, fun g => ?_⟩
  · have g : v < lo := g
    rw [i_lt] at g
    exact ⟨Or.inl rfl, h0 (fun z => by have := z.1; omega)⟩
  · have g : ¬ v < lo := g
    rw [i_lt] at g
    refine ⟨fun g2 => ?_, fun g2 => ?_⟩
    · have g2 : hi < v := g2
      rw [i_lt] at g2
      exact ⟨Or.inl rfl, h0 (fun z => by have := z.2; omega)⟩
    · have g2 : ¬ hi < v := g2
      rw [i_lt] at g2
      exact ⟨Or.inr rfl, h1 ⟨by omega, by omega⟩⟩
theorem cP_isCell {x : Int32} (h1 : qIn 0 35 x → Q (some (.int 1)) M) (h0 : ¬ qIn 0 35 x → Q (some (.int 0)) M) : pz_C yX9_isCell KX9_isCell [.int x] M Q := by
  refine pz_C_of rfl rfl rfl (Nat.le_of_ble_eq_true rfl) (pz_wp_ok (pz_Is_ok SX9_isCell) [] 100 ?_)
  exact cP_within 0 35 rfl rfl (fun g => ⟨Or.inr rfl, h1 g⟩) (fun g => ⟨Or.inl rfl, h0 g⟩)
theorem cP_isSheet {x : Int32} (h1 : qIn 0 3 x → Q (some (.int 1)) M) (h0 : ¬ qIn 0 3 x → Q (some (.int 0)) M) : pz_C yX9_isSheet KX9_isSheet [.int x] M Q := by
  refine pz_C_of rfl rfl rfl (Nat.le_of_ble_eq_true rfl) (pz_wp_ok (pz_Is_ok SX9_isSheet) [] 100 ?_)
  exact cP_within 0 3 rfl rfl (fun g => ⟨Or.inr rfl, h1 g⟩) (fun g => ⟨Or.inl rfl, h0 g⟩)
theorem cP_isSlot {x : Int32} (h1 : qIn 0 4 x → Q (some (.int 1)) M) (h0 : ¬ qIn 0 4 x → Q (some (.int 0)) M) : pz_C yX9_isSlot KX9_isSlot [.int x] M Q := by
  refine pz_C_of rfl rfl rfl (Nat.le_of_ble_eq_true rfl) (pz_wp_ok (pz_Is_ok SX9_isSlot) [] 100 ?_)
  exact cP_within 0 4 rfl rfl (fun g => ⟨Or.inr rfl, h1 g⟩) (fun g => ⟨Or.inl rfl, h0 g⟩)
theorem cP_isKind {x : Int32} (h1 : qIn 0 5 x → Q (some (.int 1)) M) (h0 : ¬ qIn 0 5 x → Q (some (.int 0)) M) : pz_C yX0_isKind KX0_isKind [.int x] M Q := by
  refine pz_C_of rfl rfl rfl (Nat.le_of_ble_eq_true rfl) (pz_wp_ok (pz_Is_ok SX0_isKind) [] 100 ?_)
  exact cP_within 0 5 rfl rfl (fun g => ⟨Or.inr rfl, h1 g⟩) (fun g => ⟨Or.inl rfl, h0 g⟩)
theorem cP_eats {k p : Int32} (h : Q (some (.int (f_eats k p))) M) : pz_C yX0_eats KX0_eats [.int k, .int p] M Q := by
  refine pz_C_of rfl rfl rfl (Nat.le_of_ble_eq_true rfl) (pz_wp_ok (pz_Is_ok SX0_eats) [] 100 ?_)
  unfold f_eats at h
  refine ⟨fun g => ?_, fun g1 => ⟨fun g => ?_, fun g2 => ⟨fun g => ?_, fun g3 => ⟨fun g => ?_, fun g4 => ⟨fun g => ?_, fun g5 => ?_⟩⟩⟩⟩⟩
  · rw [if_pos g] at h; exact h
  · rw [if_neg g1, if_pos g] at h; exact h
  · rw [if_neg g1, if_neg g2, if_pos g] at h; exact h
  · rw [if_neg g1, if_neg g2, if_neg g3, if_pos g] at h
    refine ⟨fun g => ?_, fun g => ?_⟩
    · rw [if_pos g] at h; exact h
    · rw [if_neg g] at h; exact h
  · rw [if_neg g1, if_neg g2, if_neg g3, if_neg g4, if_pos g] at h; exact h
  · rw [if_neg g1, if_neg g2, if_neg g3, if_neg g4, if_neg g5] at h; exact h
theorem cP_wades {k : Int32} (h : Q (some (.int (f_wades k))) M) : pz_C yX0_wades KX0_wades [.int k] M Q := by
  refine pz_C_of rfl rfl rfl (Nat.le_of_ble_eq_true rfl) (pz_wp_ok (pz_Is_ok SX0_wades) [] 100 ?_)
  unfold f_wades at h
  refine ⟨fun g => ?_, fun g1 => ⟨fun g => ?_, fun g2 => ⟨fun g => ?_, fun g3 => ⟨fun g => ?_, fun g4 => ?_⟩⟩⟩⟩
  · rw [if_pos g] at h; exact h
  · rw [if_neg g1, if_pos g] at h; exact h
  · rw [if_neg g1, if_neg g2, if_pos g] at h; exact h
  · rw [if_neg g1, if_neg g2, if_neg g3, if_pos g] at h; exact h
  · rw [if_neg g1, if_neg g2, if_neg g3, if_neg g4] at h; exact h
theorem cP_glutton {v : Int32} (h : Q (some (.int (v + 8))) M) : pz_C yX0_gluttonWorth KX0_gluttonWorth [.int v] M Q := by
  refine pz_C_of rfl rfl rfl (Nat.le_of_ble_eq_true rfl) (pz_wp_ok (pz_Is_ok SX0_gluttonWorth) [] 100 ?_)
  exact h
theorem cP_child {v : Int32} (h : Q (some (.int (999 - v))) M) : pz_C yX0_childWorth KX0_childWorth [.int v] M Q := by
  refine pz_C_of rfl rfl rfl (Nat.le_of_ble_eq_true rfl) (pz_wp_ok (pz_Is_ok SX0_childWorth) [] 100 ?_)
  exact h
theorem i_992 (v : Int32) : (999 : Int32) - v - 7 = 992 - v := by
  rw [Int32.sub_sub, Int32.add_comm v 7, ← Int32.sub_sub]
  rfl
theorem cP_worth {k v : Int32} (h : Q (some (.int (f_worth k v))) M) : pz_C yX0_worth KX0_worth [.int k, .int v] M Q := by
  refine pz_C_of rfl rfl rfl (Nat.le_of_ble_eq_true rfl) (pz_wp_ok (pz_Is_ok SX0_worth) [] 100 ?_)
  unfold f_worth at h
  refine ⟨fun g => ?_, fun g1 => ⟨fun g => ?_, fun g2 => ⟨fun g => ?_, fun g3 => ⟨fun g => ?_, fun g4 => ⟨fun g => ?_, fun g5 => ?_⟩⟩⟩⟩⟩
  · rw [if_pos g] at h; exact cP_glutton h
  · rw [if_neg g1, if_pos g] at h; exact cP_child h
  · rw [if_neg g1, if_neg g2, if_pos g] at h; exact cP_glutton h
  · rw [if_neg g1, if_neg g2, if_neg g3, if_pos g] at h
    refine cP_child ?_
    rw [← i_992] at h
    exact h
  · rw [if_neg g1, if_neg g2, if_neg g3, if_neg g4, if_pos g] at h; exact h
  · rw [if_neg g1, if_neg g2, if_neg g3, if_neg g4, if_neg g5] at h; exact h
theorem k_nb : ∀ c, c < 36 → ∀ w, w < 4 → ((pz_stn 3).2.2.2.getD (4 * c + w) 0) = ov (nb c w) := by decide +kernel
theorem cP_beside {c w : Nat} {x y : Int32} (hx : x = nI c) (hy : y = nI w) (hc : c < 36) (hw : w < 4) (h : Q (some (.int (ov (nb c w)))) M) : pz_C yX2_beside KX2_beside [.int x, .int y] M Q := by
  subst hx; subst hy
  refine pz_C_of rfl rfl rfl (Nat.le_of_ble_eq_true rfl) (pz_wp_ok (pz_Is_ok SX2_beside) [] 100 ?_)
  have e : (4 : Int32) * nI c + nI w = nI (4 * c + w) := by rw [show (4 : Int32) * nI c = nI (4 * c) from pk_mul 4 c]; exact nI_add _ _
  have ce := qcl _ e (by omega)
  refine ⟨qin _ e (by show _ < 144; omega) (by decide), ?_⟩
  rw [← k_nb c hc w hw, ← ce] at h
  exact h
theorem kind6 {k : Int32} (h : qIn 0 5 k) : k = 0 ∨ k = 1 ∨ k = 2 ∨ k = 3 ∨ k = 4 ∨ k = 5 := by
  obtain ⟨m, m1, m2, m3⟩ := qIn_nat h
  have : m = 0 ∨ m = 1 ∨ m = 2 ∨ m = 3 ∨ m = 4 ∨ m = 5 := by omega
  rcases this with e | e | e | e | e | e <;> subst e <;> simp [m3] <;> decide
set_option maxRecDepth 8000 in
theorem tP_isUnder {o x0 : Int32} (ho : qIn 0 5 o) : ∀ (d i : Nat) (k : Int32), i + d = 6 → qIn 0 5 k → (d = 0 → False) → (∀ b : Bool, (b = true ↔ f_isOfb k o = true) → Q (some (.int (bI b))) M) → (k = 0 → 1 ≤ d) → (k = 1 ∨ k = 2 ∨ k = 5 → 2 ≤ d) → (k = 3 ∨ k = 4 → 3 ≤ d) → pz_T z0 KX0_isUnder Q 4 (0, 0) [some (.int x0), some (.int o), some (.int k), some (.int (nI i))] [] M := by
  intro d
  induction d with
  | zero => intro i k hi hk h0; exact absurd rfl h0
  | succ d ih =>
    intro i k hi hk _ h e0 e1 e2
    refine pz_wp_ok (pz_Is_ok SX0_isUnder) [4] 100 ?_
    refine br2 (n_ge (b := 6) (by omega) (by omega) (by omega)) ?_
    refine cP_isKind (fun _ => ?_) (fun g => absurd hk g)
    refine br2 (by decide) ?_
    refine ⟨fun g => ?_, fun g => ?_⟩
    · have g : ¬ k = o := g
      obtain ⟨a1, a2, a3⟩ := qI (m := 6) hk (by omega)
      refine ⟨qin _ a1 a2 (by decide), ?_⟩
      have ei : nI i + 1 = nI (i + 1) := nI_1 i
      have step : ∀ k' : Int32, (pz_stn 2).2.2.2.getD k.toNatClampNeg 0 = k' → qIn 0 5 k' → (d = 0 → False) → (f_isOfb k o = true ↔ f_isOfb k' o = true) → (k' = 0 → 1 ≤ d) → (k' = 1 ∨ k' = 2 ∨ k' = 5 → 2 ≤ d) → (k' = 3 ∨ k' = 4 → 3 ≤ d) → pz_T z0 KX0_isUnder Q 4 (0, 0) [some (.int x0), some (.int o), some (.int ((pz_stn 2).2.2.2.getD k.toNatClampNeg 0)), some (.int (nI i + 1))] [] M := fun k' e1' h1 h2 h3 h4 h5 h6 => by
        rw [e1', ei]
        exact ih (i + 1) k' (by omega) h1 h2 (fun b hb => h b (hb.trans h3.symm)) h4 h5 h6
      rcases kind6 hk with e | e | e | e | e | e
      · subst e
        refine pz_wp_ok (pz_Is_ok SX0_isUnder) [] 100 ?_
        show pz_wp _ _ _ _ _ _ _ _ _ _ _
        by_cases g6 : (6 : Int32) ≤ nI i + 1
        · refine br1 (fun z => z g6) ⟨Or.inl rfl, h false ?_⟩
          rcases kind6 ho with q | q | q | q | q | q <;> subst q <;> first | exact absurd rfl g | decide
        · refine br2 g6 ?_
          refine cP_isKind (fun z => absurd z.1 (by decide)) (fun _ => ?_)
          refine br1 (fun z => z rfl) ⟨Or.inl rfl, h false ?_⟩
          rcases kind6 ho with q | q | q | q | q | q <;> subst q <;> first | exact absurd rfl g | decide
      · subst e
        have := e1 (Or.inl rfl)
        refine step 0 rfl ⟨by decide, by decide⟩ (fun z => by omega) ?_ (fun _ => by omega) (fun z => absurd z (by decide)) (fun z => absurd z (by decide))
        rcases kind6 ho with q | q | q | q | q | q <;> subst q <;> first | exact absurd rfl g | decide
      · subst e
        have := e1 (Or.inr (Or.inl rfl))
        refine step 0 rfl ⟨by decide, by decide⟩ (fun z => by omega) ?_ (fun _ => by omega) (fun z => absurd z (by decide)) (fun z => absurd z (by decide))
        rcases kind6 ho with q | q | q | q | q | q <;> subst q <;> first | exact absurd rfl g | decide
      · subst e
        have := e2 (Or.inl rfl)
        refine step 1 rfl ⟨by decide, by decide⟩ (fun z => by omega) ?_ (fun z => absurd z (by decide)) (fun _ => by omega) (fun z => absurd z (by decide))
        rcases kind6 ho with q | q | q | q | q | q <;> subst q <;> first | exact absurd rfl g | decide
      · subst e
        have := e2 (Or.inr rfl)
        refine step 2 rfl ⟨by decide, by decide⟩ (fun z => by omega) ?_ (fun z => absurd z (by decide)) (fun _ => by omega) (fun z => absurd z (by decide))
        rcases kind6 ho with q | q | q | q | q | q <;> subst q <;> first | exact absurd rfl g | decide
      · subst e
        have := e1 (Or.inr (Or.inr rfl))
        refine step 0 rfl ⟨by decide, by decide⟩ (fun z => by omega) ?_ (fun _ => by omega) (fun z => absurd z (by decide)) (fun z => absurd z (by decide))
        rcases kind6 ho with q | q | q | q | q | q <;> subst q <;> first | exact absurd rfl g | decide
    · have g : k = o := g
      refine ⟨Or.inr rfl, h true ?_⟩
      subst g
      simp
set_option maxRecDepth 8000 in
theorem cP_isUnder {k o : Int32} (hk : qIn 0 5 k) (ho : qIn 0 5 o) (h : ∀ b : Bool, (b = true ↔ f_isOfb k o = true) → Q (some (.int (bI b))) M) : pz_C yX0_isUnder KX0_isUnder [.int k, .int o] M Q := by
  refine pz_C_of rfl rfl rfl (Nat.le_of_ble_eq_true rfl) (pz_wp_ok (pz_Is_ok SX0_isUnder) [4] 100 ?_)
  exact tP_isUnder ho 6 0 k (by omega) hk (fun z => by omega) h (fun _ => by omega) (fun _ => by omega) (fun _ => by omega)
end POT
