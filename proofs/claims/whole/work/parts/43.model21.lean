/-! the reference: why, textTold, ask, item, rest, tell -/
def s_why (t : Nat → Int32) (k : Int32) : Int32 := if qIn 0 2 k then f_orn (f_cnt t k (f_nt t)) else BAD
def s_textTold (t : Nat → Int32) (x w : Int32) : Int32 := if qIn 0 ((f_nt t : Int) - 1) x ∧ qIn 0 1 w then t (142 + 200 * x.toNatClampNeg + w.toNatClampNeg) else BAD
/-- what a slot holds: the thing, its number, its worth, its size, its row -/
def v_ask (th nu wo k : Int32) : Int32 := if th = 0 then -1000000011 else if th = 1 ∧ f_isOfb nu k = true then wo else -1000000012
def v_item (th sz : Int32) (row : Nat → Int32) (p : Int32) : Int32 := if th = 2 then (if qIn 0 ((sz.toNatClampNeg : Int) - 1) p then (if row p.toNatClampNeg = -1000000005 then -1000000012 else row p.toNatClampNeg) else -1000000013) else if th = 0 then -1000000011 else -1000000012
def v_rest (th nu n : Int32) : Int32 := if th = 3 then (if n = 0 then -1000000002 else f_rem nu n) else if th = 0 then -1000000011 else -1000000012
def s_ask (A : qA) (s k : Int32) : Int32 := if qIn 0 4 s ∧ qIn 0 5 k then v_ask (A 26 s.toNatClampNeg) (A 27 s.toNatClampNeg) (A 28 s.toNatClampNeg) k else BAD
def s_item (A : qA) (s p : Int32) : Int32 := if qIn 0 4 s then v_item (A 26 s.toNatClampNeg) (A 29 s.toNatClampNeg) (fun j => A 30 (24 * s.toNatClampNeg + j)) p else BAD
def s_rest (A : qA) (s n : Int32) : Int32 := if qIn 0 4 s then v_rest (A 26 s.toNatClampNeg) (A 27 s.toNatClampNeg) n else BAD
/-- the slots' sizes -/
def okH (A : qA) : Prop := ∀ k, k < 5 → A 26 k = 2 → ∃ n, n ≤ 24 ∧ A 29 k = nI n
section MOD
variable {A A1 : qA} {F : qF} {X : qX} {Q : pz_Q} {M : pz_M}
set_option maxRecDepth 8000 in
theorem cM_why {k : Int32} (hok : okS (A 20)) (h : Q (some (.int (s_why (A 20) k))) (mem A F X)) : pz_C yX10_why KX10_why [.ref 69, .int k] (mem A F X) Q := by
  refine pz_C_of rfl rfl rfl (Nat.le_of_ble_eq_true rfl) (pz_wp_ok (pz_Is_ok SX10_why) [] 100 ?_)
  obtain ⟨n1, n2, n3⟩ := hok.nt
  unfold s_why at h
  refine cM_isIn3 0 2 rfl rfl (fun g => ?_) (fun g => ?_)
  · refine br2 (by decide) ?_
    rw [if_pos g] at h
    refine cM_counts n2 n1 ?_
    refine cM_orNone ?_
    cases hc : f_cnt (A 20) k (f_nt (A 20)) with
    | none =>
      rw [hc] at h
      rw [if_pos (show ov none < 0 by decide)]
      exact h
    | some i =>
      rw [hc] at h
      have := (f_cnt_lt _ _ _ _ hc).1
      have hp : ¬ ov (some i) < 0 := i_nlt.mpr (nI_pos' (by omega))
      rw [if_neg hp]
      exact h
  · refine br1 (fun z => z rfl) ?_
    rw [if_neg g] at h
    exact h
set_option maxRecDepth 8000 in
theorem cM_textTold {x w : Int32} (hok : okS (A 20)) (h : Q (some (.int (s_textTold (A 20) x w))) (mem A F X)) : pz_C yX10_textTold KX10_textTold [.ref 69, .int x, .int w] (mem A F X) Q := by
  refine pz_C_of rfl rfl rfl (Nat.le_of_ble_eq_true rfl) (pz_wp_ok (pz_Is_ok SX10_textTold) [] 100 ?_)
  obtain ⟨n1, n2, n3⟩ := hok.nt
  unfold s_textTold at h
  refine cM_isText n2 (by omega) (fun g1 => ?_) (fun g1 => ?_)
  · refine br2 (by decide) ?_
    refine cM_isIn3 0 1 rfl rfl (fun g2 => ?_) (fun g2 => ?_)
    · refine br1 (by decide) ?_
      rw [if_pos ⟨g1, g2⟩] at h
      obtain ⟨a1, a2, a3⟩ := qI (m := 14) g1 (by omega)
      obtain ⟨b1, b2, b3⟩ := qI (m := 2) g2 (by omega)
      refine cM_textAt a1 ?_
      have e : nI (142 + 200 * x.toNatClampNeg) + w = nI (142 + 200 * x.toNatClampNeg + w.toNatClampNeg) := by
        generalize w.toNatClampNeg = m at b1 ⊢
        subst b1
        exact nI_add _ _
      refine ⟨qin _ e (by omega) (by omega), ?_⟩
      have ce := qcl _ e (by omega)
      rw [← ce] at h
      exact h
    · refine br2 (fun z => z rfl) ?_
      rw [if_neg (fun z => g2 z.2)] at h
      exact h
  · refine br1 (fun z => z rfl) ?_
    rw [if_neg (fun z => g1 z.1)] at h
    exact h
set_option maxRecDepth 8000 in
theorem cM_ask {s k : Int32} (h : Q (some (.int (s_ask A s k))) (mem A F X)) : pz_C yX10_ask KX10_ask [.ref 69, .int s, .int k] (mem A F X) Q := by
  refine pz_C_of rfl rfl rfl (Nat.le_of_ble_eq_true rfl) (pz_wp_ok (pz_Is_ok SX10_ask) [] 100 ?_)
  unfold s_ask at h
  refine cM_isSlot (fun g1 => ?_) (fun g1 => ?_)
  · refine br2 (by decide) ?_
    refine cM_isIn3 0 5 rfl rfl (fun g2 => ?_) (fun g2 => ?_)
    · refine br1 (by decide) ?_
      rw [if_pos ⟨g1, g2⟩] at h
      unfold v_ask at h
      obtain ⟨a1, a2, a3⟩ := qI (m := 5) g1 (by omega)
      refine ⟨qin _ a1 (by omega) (by omega), ?_⟩
      refine ⟨fun g => ?_, fun g => ?_⟩
      · have g : ¬ A 26 s.toNatClampNeg = 0 := g
        rw [if_neg g] at h
        refine ⟨qin _ a1 (by omega) (by omega), ?_⟩
        refine ⟨fun g3 => ?_, fun g3 => ?_⟩
        · have g3 : ¬ A 26 s.toNatClampNeg = 1 := g3
          rw [if_neg (fun z => g3 z.1)] at h
          exact h
        · have g3 : A 26 s.toNatClampNeg = 1 := g3
          refine ⟨qin _ a1 (by omega) (by omega), ?_⟩
          refine cM_isOf (fun g4 => ?_) (fun g4 => ?_)
          · have g4 : f_isOfb (A 27 s.toNatClampNeg) k = true := g4
            rw [if_pos ⟨g3, g4⟩] at h
            refine br2 (by decide) ?_
            exact ⟨qin _ a1 (by omega) (by omega), h⟩
          · have g4 : ¬ f_isOfb (A 27 s.toNatClampNeg) k = true := g4
            rw [if_neg (fun z => g4 z.2)] at h
            refine br1 (fun z => z rfl) ?_
            exact h
      · have g : A 26 s.toNatClampNeg = 0 := g
        rw [if_pos g] at h
        exact h
    · refine br2 (fun z => z rfl) ?_
      rw [if_neg (fun z => g2 z.2)] at h
      exact h
  · refine br1 (fun z => z rfl) ?_
    rw [if_neg (fun z => g1 z.1)] at h
    exact h
set_option maxRecDepth 8000 in
theorem cM_rest {s n : Int32} (h : Q (some (.int (s_rest A s n))) (mem A F X)) : pz_C yX10_rest KX10_rest [.ref 69, .int s, .int n] (mem A F X) Q := by
  refine pz_C_of rfl rfl rfl (Nat.le_of_ble_eq_true rfl) (pz_wp_ok (pz_Is_ok SX10_rest) [] 100 ?_)
  unfold s_rest at h
  refine cM_isSlot (fun g1 => ?_) (fun g1 => ?_)
  · refine br1 (by decide) ?_
    rw [if_pos g1] at h
    unfold v_rest at h
    obtain ⟨a1, a2, a3⟩ := qI (m := 5) g1 (by omega)
    refine ⟨qin _ a1 (by omega) (by omega), ?_⟩
    refine ⟨fun g => ?_, fun g => ?_⟩
    · have g : A 26 s.toNatClampNeg = 3 := g
      rw [if_pos g] at h
      refine ⟨fun g3 => ?_, fun g3 => ?_⟩
      · have g3 : ¬ n = 0 := g3
        rw [if_neg g3] at h
        refine ⟨qin _ a1 (by omega) (by omega), ?_⟩
        exact ⟨g3, h⟩
      · have g3 : n = 0 := g3
        rw [if_pos g3] at h
        exact h
    · have g : ¬ A 26 s.toNatClampNeg = 3 := g
      rw [if_neg g] at h
      refine ⟨qin _ a1 (by omega) (by omega), ?_⟩
      refine ⟨fun g3 => ?_, fun g3 => ?_⟩
      · have g3 : ¬ A 26 s.toNatClampNeg = 0 := g3
        rw [if_neg g3] at h
        exact h
      · have g3 : A 26 s.toNatClampNeg = 0 := g3
        rw [if_pos g3] at h
        exact h
  · refine br2 (fun z => z rfl) ?_
    rw [if_neg g1] at h
    exact h
set_option maxRecDepth 8000 in
theorem cM_item {s p : Int32} (hH : okH A) (h : Q (some (.int (s_item A s p))) (mem A F X)) : pz_C yX10_item KX10_item [.ref 69, .int s, .int p] (mem A F X) Q := by
  refine pz_C_of rfl rfl rfl (Nat.le_of_ble_eq_true rfl) (pz_wp_ok (pz_Is_ok SX10_item) [] 100 ?_)
  unfold s_item at h
  refine cM_isSlot (fun g1 => ?_) (fun g1 => ?_)
  · refine br1 (by decide) ?_
    rw [if_pos g1] at h
    unfold v_item at h
    obtain ⟨a1, a2, a3⟩ := qI (m := 5) g1 (by omega)
    refine ⟨qin _ a1 (by omega) (by omega), ?_⟩
    refine ⟨fun g => ?_, fun g => ?_⟩
    · have g : A 26 s.toNatClampNeg = 2 := g
      rw [if_pos g] at h
      obtain ⟨z, z1, z2⟩ := hH _ a2 g
      have cz := qcl z z2 (by omega)
      rw [cz] at h
      have hz : (A 29 s.toNatClampNeg - 1).toInt = (z : Int) - 1 := by
        have hz0 : (A 29 s.toNatClampNeg).toInt = z := by rw [z2, nIi (by omega)]
        have h1 : (1 : Int32).toInt = 1 := rfl
        rw [i_sub (by omega) (by omega), hz0, h1]
      refine ⟨qin _ a1 (by omega) (by omega), ?_⟩
      refine cM_isIn3 0 ((z : Int) - 1) rfl ((Int32.toInt_toInt64 _).trans hz) (fun g2 => ?_) (fun g2 => ?_)
      · refine br1 (by decide) ?_
        rw [if_pos g2] at h
        obtain ⟨b1, b2, b3⟩ := qI (m := 24) g2 (by omega)
        have e : (24 : Int32) * s + p = nI (24 * s.toNatClampNeg + p.toNatClampNeg) := by
          generalize s.toNatClampNeg = sn at a1 ⊢
          generalize p.toNatClampNeg = pn at b1 ⊢
          subst a1
          subst b1
          rw [show (24 : Int32) * nI sn = nI (24 * sn) from pk_mul 24 sn]
          exact nI_add _ _
        refine ⟨qin _ e (by omega) (by omega), ?_⟩
        have ce := qcl _ e (by omega)
        have h : Q (some (.int (if A 30 (24 * s.toNatClampNeg + p.toNatClampNeg) = -1000000005 then -1000000012 else A 30 (24 * s.toNatClampNeg + p.toNatClampNeg)))) (mem A F X) := h
        rw [← ce] at h
        refine ⟨fun g3 => ?_, fun g3 => ?_⟩
        · rw [if_neg g3] at h
          exact h
        · rw [if_pos g3] at h
          exact h
      · refine br2 (fun z => z rfl) ?_
        rw [if_neg g2] at h
        exact h
    · have g : ¬ A 26 s.toNatClampNeg = 2 := g
      rw [if_neg g] at h
      refine ⟨qin _ a1 (by omega) (by omega), ?_⟩
      refine ⟨fun g3 => ?_, fun g3 => ?_⟩
      · have g3 : ¬ A 26 s.toNatClampNeg = 0 := g3
        rw [if_neg g3] at h
        exact h
      · have g3 : A 26 s.toNatClampNeg = 0 := g3
        rw [if_pos g3] at h
        exact h
  · refine br2 (fun z => z rfl) ?_
    rw [if_neg g1] at h
    exact h
set_option maxRecDepth 8000 in
theorem cM_isSign {c : Int32} (h1 : F 64 = 3 ∧ F 66 = c → Q (some (.int 1)) (mem A F X)) (h0 : ¬ (F 64 = 3 ∧ F 66 = c) → Q (some (.int 0)) (mem A F X)) : pz_C yX10_isSign KX10_isSign [.ref 69, .int c] (mem A F X) Q := by
  refine pz_C_of rfl rfl rfl (Nat.le_of_ble_eq_true rfl) (pz_wp_ok (pz_Is_ok SX10_isSign) [] 100 ?_)
  refine ⟨fun g => ?_, fun g => ?_⟩
  · exact ⟨Or.inl rfl, h0 (fun z => g z.1)⟩
  · refine ⟨fun g2 => ?_, fun g2 => ?_⟩
    · exact ⟨Or.inl rfl, h0 (fun z => g2 z.2)⟩
    · exact ⟨Or.inr rfl, h1 ⟨g, g2⟩⟩
set_option maxRecDepth 8000 in
theorem cM_tell {v : Int32} {n : Nat} (hF : F 72 = nI n) (hn : n ≤ 60) (h1 : n = 60 → Q (some (.int (-1000000003))) (mem A F X)) (h0 : n < 60 → Q (some (.int (nI (n + 1)))) (mem (va_up A 38 (upd (A 38) n v)) (upd F 72 (nI (n + 1))) X)) : pz_C yX10_tell KX10_tell [.ref 69, .int v] (mem A F X) Q := by
  refine pz_C_of rfl rfl rfl (Nat.le_of_ble_eq_true rfl) (pz_wp_ok (pz_Is_ok SX10_tell) [] 100 ?_)
  refine ⟨fun g => ?_, fun g => ?_⟩
  · have g : ¬ F 72 = 60 := g
    have hn : n < 60 := by
      rcases Nat.lt_or_ge n 60 with z | z
      · exact z
      · have : n = 60 := by omega
        subst this
        exact absurd hF g
    have h0 := h0 hn
    refine ⟨qin n hF (by omega) (by omega), ?_⟩
    have e1 : F 72 + 1 = nI (n + 1) := by rw [hF]; exact nI_1 n
    have cn := qcl n hF (by omega)
    rw [← e1, ← cn] at h0
    exact h0
  · have g : F 72 = 60 := g
    rw [hF] at g
    exact h1 ((nI_eq (b := 60) (by omega) (by omega)).mp g)
end MOD
