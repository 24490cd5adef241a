/-! slots of both sides -/
section POT
variable {A A1 : qA} {F : qF} {X : qX} {Q : pz_Q} {M : pz_M}
theorem cPj_ask {j : Nat} (hj : j < 5) {k : Int32} (hk : F (20 + j) = 1 → qIn 0 5 (F (25 + j))) (h1 : ¬ qIn 0 5 k → Q (some (.int BAD)) (mem A F X)) (h : qIn 0 5 k → Q (some (.int (v_ask (F (20 + j)) (F (25 + j)) (f_worth (F (25 + j)) (F (30 + j))) k))) (mem A F X)) : pz_C yX9_ask KX9_ask [.ref 0, .int (nI j), .int k] (mem A F X) Q := by
  rcases (show j = 0 ∨ j = 1 ∨ j = 2 ∨ j = 3 ∨ j = 4 by omega) with rfl | rfl | rfl | rfl | rfl
  · exact cP0_ask hk h1 h
  · exact cP1_ask hk h1 h
  · exact cP2_ask hk h1 h
  · exact cP3_ask hk h1 h
  · exact cP4_ask hk h1 h
theorem cPj_item {j : Nat} (hj : j < 5) {p : Int32} (hz : F (20 + j) = 2 → ∃ z, z ≤ 24 ∧ F (45 + j) = nI z) (h : Q (some (.int (v_item (F (20 + j)) (F (45 + j)) (A (14 + j)) p))) (mem A F X)) : pz_C yX9_item KX9_item [.ref 0, .int (nI j), .int p] (mem A F X) Q := by
  rcases (show j = 0 ∨ j = 1 ∨ j = 2 ∨ j = 3 ∨ j = 4 by omega) with rfl | rfl | rfl | rfl | rfl
  · exact cP0_item hz h
  · exact cP1_item hz h
  · exact cP2_item hz h
  · exact cP3_item hz h
  · exact cP4_item hz h
theorem cPj_rest {j : Nat} (hj : j < 5) {n : Int32} (h : Q (some (.int (v_rest (F (20 + j)) (F (35 + j)) n))) (mem A F X)) : pz_C yX9_rest KX9_rest [.ref 0, .int (nI j), .int n] (mem A F X) Q := by
  rcases (show j = 0 ∨ j = 1 ∨ j = 2 ∨ j = 3 ∨ j = 4 by omega) with rfl | rfl | rfl | rfl | rfl
  · exact cP0_rest h
  · exact cP1_rest h
  · exact cP2_rest h
  · exact cP3_rest h
  · exact cP4_rest h
theorem cPj_lay0 {j : Nat} (hj : j < 5) {k : Int32} (h : Q (some (.int (F (20 + j)))) (mem A (upd F (20 + j) 0) X)) : pz_C yX9_lay KX9_lay [.ref 0, .int (nI j), .int 0, .int k] (mem A F X) Q := by
  rcases (show j = 0 ∨ j = 1 ∨ j = 2 ∨ j = 3 ∨ j = 4 by omega) with rfl | rfl | rfl | rfl | rfl
  · exact cP0_lay0 h
  · exact cP1_lay0 h
  · exact cP2_lay0 h
  · exact cP3_lay0 h
  · exact cP4_lay0 h
theorem cPj_lay3 {j : Nat} (hj : j < 5) {k : Int32} (h : Q (some (.int (F (20 + j)))) (mem A (upd (upd F (20 + j) 3) (35 + j) k) X)) : pz_C yX9_lay KX9_lay [.ref 0, .int (nI j), .int 3, .int k] (mem A F X) Q := by
  rcases (show j = 0 ∨ j = 1 ∨ j = 2 ∨ j = 3 ∨ j = 4 by omega) with rfl | rfl | rfl | rfl | rfl
  · exact cP0_lay3 h
  · exact cP1_lay3 h
  · exact cP2_lay3 h
  · exact cP3_lay3 h
  · exact cP4_lay3 h
theorem cPj_lay1 {j : Nat} (hj : j < 5) {k : Int32} (hok : okS (A 0)) (hk : qIn 0 ((f_n (A 0) : Int) - 1) k) (h : Q (some (.int (F (20 + j)))) (mem A (upd (upd (upd F (20 + j) 1) (25 + j) (A 0 (118 + 3 * k.toNatClampNeg + 0))) (30 + j) (A 0 (118 + 3 * k.toNatClampNeg + 2))) X)) : pz_C yX9_lay KX9_lay [.ref 0, .int (nI j), .int 1, .int k] (mem A F X) Q := by
  rcases (show j = 0 ∨ j = 1 ∨ j = 2 ∨ j = 3 ∨ j = 4 by omega) with rfl | rfl | rfl | rfl | rfl
  · exact cP0_lay1 hok hk h
  · exact cP1_lay1 hok hk h
  · exact cP2_lay1 hok hk h
  · exact cP3_lay1 hok hk h
  · exact cP4_lay1 hok hk h
theorem cPj_lay2 {j k : Nat} (hj : j < 5) (hk : k < 4) (h1 : F (10 + k) = -1 → Q (some (.int (-1000000011))) (mem A F X)) (h : ¬ F (10 + k) = -1 → Q (some (.int (F (20 + j)))) (mem (va_up A (14 + j) (qcp 24 (A (10 + k)) (A (14 + j)))) (upd (upd (upd F (20 + j) 2) (40 + j) (F (10 + k))) (45 + j) (F (14 + k))) X)) : pz_C yX9_lay KX9_lay [.ref 0, .int (nI j), .int 2, .int (nI k)] (mem A F X) Q := by
  rcases (show j = 0 ∨ j = 1 ∨ j = 2 ∨ j = 3 ∨ j = 4 by omega) with rfl | rfl | rfl | rfl | rfl <;> rcases (show k = 0 ∨ k = 1 ∨ k = 2 ∨ k = 3 by omega) with rfl | rfl | rfl | rfl
  · exact cP00_lay2 h1 h
  · exact cP01_lay2 h1 h
  · exact cP02_lay2 h1 h
  · exact cP03_lay2 h1 h
  · exact cP10_lay2 h1 h
  · exact cP11_lay2 h1 h
  · exact cP12_lay2 h1 h
  · exact cP13_lay2 h1 h
  · exact cP20_lay2 h1 h
  · exact cP21_lay2 h1 h
  · exact cP22_lay2 h1 h
  · exact cP23_lay2 h1 h
  · exact cP30_lay2 h1 h
  · exact cP31_lay2 h1 h
  · exact cP32_lay2 h1 h
  · exact cP33_lay2 h1 h
  · exact cP40_lay2 h1 h
  · exact cP41_lay2 h1 h
  · exact cP42_lay2 h1 h
  · exact cP43_lay2 h1 h
end POT
section LAW
variable {c : Nat} {A : qA} {F : qF} {X : qX}
theorem qIn_slot {s : Int32} (h : qIn 0 4 s) : ∃ k, k < 5 ∧ s = nI k ∧ s.toNatClampNeg = k := by
  obtain ⟨k, h1, h2⟩ := qIn_ex (m := 5) h (by omega)
  exact ⟨k, h1, h2, qcl k h2 (by omega)⟩
theorem J_ask {s k : Int32} (hc : c < 512) (h : Inv c A F X) : J c yX9_ask KX9_ask yX10_ask KX10_ask [.int s, .int k] A F X := by
  intro Q1 H
  obtain ⟨-, -, -, -, -, hL, -⟩ := id h
  by_cases gs : qIn 0 4 s
  · obtain ⟨j, hj, rfl, ej⟩ := qIn_slot gs
    obtain ⟨l1, l2, l3, l4⟩ := hL j hj
    refine cPj_ask hj (fun g => (l2 (by rw [← l1]; exact g)).2.1) (fun g => ?_) (fun g => ?_)
    · refine H _ A F X (fun Q2 H2 => cM_ask ?_)
      unfold s_ask
      rw [if_neg (fun z => g z.2)]
      exact H2 A F X (inv_same hc h)
    · refine H _ A F X (fun Q2 H2 => cM_ask ?_)
      unfold s_ask
      rw [if_pos ⟨gs, g⟩, ej]
      have e : v_ask (A 26 j) (A 27 j) (A 28 j) k = v_ask (F (20 + j)) (F (25 + j)) (f_worth (F (25 + j)) (F (30 + j))) k := by
        rw [l1]
        by_cases q : A 26 j = 1
        · obtain ⟨m1, m2, m3⟩ := l2 q
          rw [m3, ← m1]
        · unfold v_ask
          by_cases q0 : A 26 j = 0
          · rw [if_pos q0, if_pos q0]
          · rw [if_neg q0, if_neg q0, if_neg (fun z => q z.1), if_neg (fun z => q z.1)]
      rw [e]
      exact H2 A F X (inv_same hc h)
  · refine cP_askBad (fun z => gs z.1) ?_ gs
    refine H _ A F X (fun Q2 H2 => cM_ask ?_)
    unfold s_ask
    rw [if_neg (fun z => gs z.1)]
    exact H2 A F X (inv_same hc h)
theorem J_item {s p : Int32} (hc : c < 512) (h : Inv c A F X) : J c yX9_item KX9_item yX10_item KX10_item [.int s, .int p] A F X := by
  intro Q1 H
  obtain ⟨-, -, -, -, -, hL, -⟩ := id h
  have hH : okH A := fun j hj g => ((hL j hj).2.2.1 g).2.1
  by_cases gs : qIn 0 4 s
  · obtain ⟨j, hj, rfl, ej⟩ := qIn_slot gs
    obtain ⟨l1, l2, l3, l4⟩ := hL j hj
    refine cPj_item hj (fun g => ?_) ?_
    · obtain ⟨m1, m2, m3⟩ := l3 (by rw [← l1]; exact g)
      rw [m1]; exact m2
    · refine H _ A F X (fun Q2 H2 => cM_item hH ?_)
      unfold s_item
      rw [if_pos gs, ej]
      have e : v_item (A 26 j) (A 29 j) (fun i => A 30 (24 * j + i)) p = v_item (F (20 + j)) (F (45 + j)) (A (14 + j)) p := by
        rw [l1]
        by_cases q : A 26 j = 2
        · obtain ⟨m1, ⟨z, z1, z2⟩, m3⟩ := l3 q
          rw [m1]
          unfold v_item
          rw [if_pos q, if_pos q, qcl z z2 (by omega)]
          by_cases y : qIn 0 ((z : Int) - 1) p
          · obtain ⟨b1, b2, b3⟩ := qI (m := 24) y (by omega)
            rw [if_pos y, if_pos y, m3 _ b2]
          · rw [if_neg y, if_neg y]
        · unfold v_item
          rw [if_neg q, if_neg q]
      rw [e]
      exact H2 A F X (inv_same hc h)
  · refine cP_itemBad gs ?_
    refine H _ A F X (fun Q2 H2 => cM_item hH ?_)
    unfold s_item
    rw [if_neg gs]
    exact H2 A F X (inv_same hc h)
theorem J_rest {s n : Int32} (hc : c < 512) (h : Inv c A F X) : J c yX9_rest KX9_rest yX10_rest KX10_rest [.int s, .int n] A F X := by
  intro Q1 H
  obtain ⟨-, -, -, -, -, hL, -⟩ := id h
  by_cases gs : qIn 0 4 s
  · obtain ⟨j, hj, rfl, ej⟩ := qIn_slot gs
    obtain ⟨l1, l2, l3, l4⟩ := hL j hj
    refine cPj_rest hj ?_
    refine H _ A F X (fun Q2 H2 => cM_rest ?_)
    unfold s_rest
    rw [if_pos gs, ej]
    have e : v_rest (A 26 j) (A 27 j) n = v_rest (F (20 + j)) (F (35 + j)) n := by
      rw [l1]
      by_cases q : A 26 j = 3
      · rw [l4 q]
      · unfold v_rest
        rw [if_neg q, if_neg q]
    rw [e]
    exact H2 A F X (inv_same hc h)
  · refine cP_restBad gs ?_
    refine H _ A F X (fun Q2 H2 => cM_rest ?_)
    unfold s_rest
    rw [if_neg gs]
    exact H2 A F X (inv_same hc h)
theorem inv_slot (hc : c < 512) (h : Inv c A F X) {A' : qA} {F' : qF} (hA : ∀ i, (i < 14 ∨ 19 ≤ i) → (i < 26 ∨ 31 ≤ i) → A' i = A i) (hF : ∀ i, (i < 20 ∨ 50 ≤ i) → F' i = F i) (hL : iL A' F') : Inv (c + 1) A' F' X := by
  obtain ⟨-, ht, hW, hP, hS, -, hX⟩ := h
  exact inv_mk hc (ht.cg (hA 0 (by omega) (by omega)) (hA 1 (by omega) (by omega)) (hA 20 (by omega) (by omega)) (hA 21 (by omega) (by omega)) (hF 0 (by omega)) (hF 60 (by omega))) (hW.cg (hA 8 (by omega) (by omega)) (hA 38 (by omega) (by omega)) (hF 1 (by omega)) (hF 72 (by omega))) (hP.cg (hA 5 (by omega) (by omega)) (hA 34 (by omega) (by omega)) (hF 2 (by omega)) (hF 61 (by omega))) (hS.cg (fun i hi => hA i (by omega) (by omega)) (fun i h1 h2 => hF i (by omega))) hL hX.mono
theorem layA_26 {s : Nat} {th k : Int32} : f_layA A s th k 26 = upd (A 26) s th := by
  unfold f_layA; rw [vu_ne _ _ (by omega), vu_ne _ _ (by omega), vu_ne _ _ (by omega), vu_ne _ _ (by omega), vu_at]
theorem layA_27 {s : Nat} {th k : Int32} : f_layA A s th k 27 = upd (A 27) s (if th = 1 then A 20 (118 + 3 * k.toNatClampNeg + 0) else k) := by
  unfold f_layA; rw [vu_ne _ _ (by omega), vu_ne _ _ (by omega), vu_ne _ _ (by omega), vu_at]
theorem layA_28 {s : Nat} {th k : Int32} : f_layA A s th k 28 = upd (A 28) s (if th = 1 then f_worth (A 20 (118 + 3 * k.toNatClampNeg + 0)) (A 20 (118 + 3 * k.toNatClampNeg + 2)) else 0) := by
  unfold f_layA; rw [vu_ne _ _ (by omega), vu_ne _ _ (by omega), vu_at]
theorem layA_29 {s : Nat} {th k : Int32} : f_layA A s th k 29 = if th = 2 then upd (A 29) s (A 24 k.toNatClampNeg) else A 29 := by
  unfold f_layA; rw [vu_ne _ _ (by omega), vu_at]
theorem layA_30 {s : Nat} {th k : Int32} : f_layA A s th k 30 = if th = 2 then f_row 24 (24 * s) (fun j => A 25 (24 * k.toNatClampNeg + j)) (A 30) else A 30 := by
  unfold f_layA; rw [vu_at]
theorem layA_o {s i : Nat} {th k : Int32} (hi : i < 26 ∨ 31 ≤ i) : f_layA A s th k i = A i := by
  unfold f_layA; rw [vu_ne _ _ (by omega), vu_ne _ _ (by omega), vu_ne _ _ (by omega), vu_ne _ _ (by omega), vu_ne _ _ (by omega)]
/-- the other slots stay -/
theorem iL_up {A1 : qA} (hL : iL A F) {j : Nat} (hj : j < 5) {th k : Int32} (h1 : ∀ i, i ≠ 14 + j → A1 i = A i) {F' : qF} (hF : ∀ i, i ≠ 20 + j → i ≠ 25 + j → i ≠ 30 + j → i ≠ 35 + j → i ≠ 40 + j → i ≠ 45 + j → F' i = F i)
    (hs : F' (20 + j) = th ∧ (th = 1 → F' (25 + j) = A 20 (118 + 3 * k.toNatClampNeg + 0) ∧ qIn 0 5 (F' (25 + j)) ∧ f_worth (A 20 (118 + 3 * k.toNatClampNeg + 0)) (A 20 (118 + 3 * k.toNatClampNeg + 2)) = f_worth (F' (25 + j)) (F' (30 + j))) ∧ (th = 2 → F' (45 + j) = A 24 k.toNatClampNeg ∧ (∃ z, z ≤ 24 ∧ A 24 k.toNatClampNeg = nI z) ∧ ∀ i, i < 24 → A1 (14 + j) i = A 25 (24 * k.toNatClampNeg + i)) ∧ (th = 3 → F' (35 + j) = k)) : iL (f_layA A1 j th k) F' := by
  intro i hi
  have e20 : A1 20 = A 20 := h1 20 (by omega)
  have e24 : A1 24 = A 24 := h1 24 (by omega)
  have e25 : A1 25 = A 25 := h1 25 (by omega)
  rw [layA_26, layA_27, layA_28, layA_29, layA_30, layA_o (show 14 + i < 26 ∨ 31 ≤ 14 + i by omega), e20, e24, e25, h1 26 (by omega), h1 27 (by omega), h1 28 (by omega), h1 29 (by omega), h1 30 (by omega)]
  by_cases q : i = j
  · subst q
    rw [upd_at, upd_at, upd_at]
    obtain ⟨s1, s2, s3, s4⟩ := hs
    refine ⟨s1, fun g => ?_, fun g => ?_, fun g => ?_⟩
    · rw [if_pos g, if_pos g]; exact s2 g
    · rw [if_pos g, if_pos g, upd_at]
      obtain ⟨m1, m2, m3⟩ := s3 g
      refine ⟨m1, m2, fun x hx => ?_⟩
      unfold f_row
      rw [if_pos (by omega), m3 x hx]
      dsimp only
      rw [show 24 * i + x - 24 * i = x by omega]
    · rw [if_neg (by rw [g]; decide)]; exact s4 g
  · rw [upd_ne _ _ q, upd_ne _ _ q, upd_ne _ _ q, h1 (14 + i) (by omega), hF (20 + i) (by omega) (by omega) (by omega) (by omega) (by omega) (by omega), hF (25 + i) (by omega) (by omega) (by omega) (by omega) (by omega) (by omega), hF (30 + i) (by omega) (by omega) (by omega) (by omega) (by omega) (by omega), hF (35 + i) (by omega) (by omega) (by omega) (by omega) (by omega) (by omega), hF (45 + i) (by omega) (by omega) (by omega) (by omega) (by omega) (by omega)]
    obtain ⟨l1, l2, l3, l4⟩ := hL i hi
    refine ⟨l1, l2, fun g => ?_, l4⟩
    obtain ⟨m1, m2, m3⟩ := l3 g
    have x29 : (if th = 2 then upd (A 29) j (A 24 k.toNatClampNeg) else A 29) i = A 29 i := by
      by_cases z : th = 2
      · rw [if_pos z, upd_ne _ _ q]
      · rw [if_neg z]
    rw [x29]
    refine ⟨m1, m2, fun x hx => ?_⟩
    rw [m3 x hx]
    by_cases z : th = 2
    · rw [if_pos z]
      unfold f_row
      rw [if_neg (by omega)]
    · rw [if_neg z]
theorem J_lay {s th k : Int32} (hc : c < 512) (h : Inv c A F X) : J c yX9_lay KX9_lay yX10_lay KX10_lay [.int s, .int th, .int k] A F X := by
  intro Q1 H
  obtain ⟨-, ⟨t1, t2, -⟩, -, -, ⟨s1, s2⟩, hL, -⟩ := id h
  by_cases gb : qIn 0 4 s ∧ f_good A th k
  · obtain ⟨gs, gg⟩ := gb
    obtain ⟨j, hj, rfl, ej⟩ := qIn_slot gs
    obtain ⟨l1, -⟩ := hL j hj
    rcases id gg with rfl | rfl | ⟨rfl, gk⟩ | ⟨rfl, gk⟩
    · refine cPj_lay0 hj ?_
      refine H _ _ _ X (fun Q2 H2 => cM_lay t2.1 (fun z => absurd ⟨gs, gg⟩ z) (fun _ z => absurd z (by decide)) (fun _ _ _ => ?_))
      rw [ej]
      rw [l1] at H2
      refine H2 _ _ X (inv_slot hc h (fun i h1 h2 => layA_o h2) (fun i h1 => upd_ne _ _ (by omega)) (iL_up hL hj (fun _ _ => rfl) (fun i h1 h2 h3 h4 h5 h6 => upd_ne _ _ h1) ⟨upd_at _ _ _, fun z => absurd z (by decide), fun z => absurd z (by decide), fun z => absurd z (by decide)⟩))
    · refine cPj_lay3 hj ?_
      refine H _ _ _ X (fun Q2 H2 => cM_lay t2.1 (fun z => absurd ⟨gs, gg⟩ z) (fun _ z => absurd z (by decide)) (fun _ _ _ => ?_))
      rw [ej]
      rw [l1] at H2
      refine H2 _ _ X (inv_slot hc h (fun i h1 h2 => layA_o h2) (fun i h1 => ?_) (iL_up hL hj (fun _ _ => rfl) (fun i h1 h2 h3 h4 h5 h6 => ?_) ⟨?_, fun z => absurd z (by decide), fun z => absurd z (by decide), fun _ => upd_at _ _ _⟩))
      · rw [upd_ne _ _ (by omega), upd_ne _ _ (by omega)]
      · rw [upd_ne _ _ h4, upd_ne _ _ h1]
      · rw [upd_ne _ _ (by omega), upd_at]
    · refine cPj_lay1 hj (by rw [t1]; exact t2.1) (by rw [t1]; exact gk) ?_
      refine H _ _ _ X (fun Q2 H2 => cM_lay t2.1 (fun z => absurd ⟨gs, gg⟩ z) (fun _ z => absurd z (by decide)) (fun _ _ _ => ?_))
      rw [ej]
      rw [l1] at H2
      rw [t1]
      have n1 := t2.1.n
      obtain ⟨b1, b2, b3⟩ := qI (m := 8) gk (by omega)
      have hkd := t2.2.1.2.2.2.1 _ b2
      refine H2 _ _ X (inv_slot hc h (fun i h1 h2 => layA_o h2) (fun i h1 => ?_) (iL_up hL hj (fun _ _ => rfl) (fun i h1 h2 h3 h4 h5 h6 => ?_) ⟨?_, fun _ => ?_, fun z => absurd z (by decide), fun z => absurd z (by decide)⟩))
      · rw [upd_ne _ _ (by omega), upd_ne _ _ (by omega), upd_ne _ _ (by omega)]
      · rw [upd_ne _ _ h3, upd_ne _ _ h2, upd_ne _ _ h1]
      · rw [upd_ne _ _ (by omega), upd_ne _ _ (by omega), upd_at]
      · rw [upd_ne _ _ (show 25 + j ≠ 30 + j by omega), upd_at, upd_at]
        exact ⟨rfl, hkd, rfl⟩
    · obtain ⟨kk, hk, rfl, ek⟩ := qIn_sheet gk
      obtain ⟨r1, r2, r3, r4⟩ := s2 kk hk
      obtain ⟨o1, z, o2, o3⟩ := s1 kk hk
      have o4 := three' o1
      refine cPj_lay2 hj hk (fun g => ?_) (fun g => ?_)
      · refine H _ A F X (fun Q2 H2 => cM_lay t2.1 (fun z => absurd ⟨gs, gg⟩ z) (fun _ _ _ _ => ?_) (fun _ _ z => ?_))
        · exact H2 A F X (inv_same hc h)
        · have z := z rfl
          rw [ek, o4, ← r1] at z
          exact absurd g z
      · have e20 : ∀ w : Nat → Int32, va_up A (14 + j) w 20 = A 20 := fun w => vu_ne _ _ (by omega)
        have e23 : ∀ w : Nat → Int32, va_up A (14 + j) w 23 = A 23 := fun w => vu_ne _ _ (by omega)
        have e26 : ∀ w : Nat → Int32, va_up A (14 + j) w 26 = A 26 := fun w => vu_ne _ _ (by omega)
        refine H _ _ _ X (fun Q2 H2 => cM_lay (by rw [e20]; exact t2.1) (fun z => absurd ⟨gs, Or.inr (Or.inr (Or.inr ⟨rfl, gk⟩))⟩ z) (fun _ _ _ z => ?_) (fun _ _ _ => ?_))
        · rw [e23, ek, o4, ← r1] at z
          exact absurd z g
        · rw [ej, e26]
          rw [l1] at H2
          refine H2 _ _ X (inv_slot hc h (fun i h1 h2 => (layA_o h2).trans (vu_ne _ _ (by omega))) (fun i h1 => ?_) (iL_up hL hj (fun i hi => vu_ne _ _ hi) (fun i h1 h2 h3 h4 h5 h6 => ?_) ⟨?_, fun z => absurd z (by decide), fun _ => ?_, fun z => absurd z (by decide)⟩))
          · rw [upd_ne _ _ (by omega), upd_ne _ _ (by omega), upd_ne _ _ (by omega)]
          · rw [upd_ne _ _ h6, upd_ne _ _ h5, upd_ne _ _ h1]
          · rw [upd_ne _ _ (by omega), upd_ne _ _ (by omega), upd_at]
          · rw [upd_at, ek, vu_at]
            refine ⟨r2, ⟨z, o2, o3⟩, fun i hi => ?_⟩
            rw [qcp_lt _ _ hi]
            exact r3 i hi
  · refine cP_layBad (by rw [t1]; exact t2.1) (by rw [t1]; exact gb) ?_
    refine H _ A F X (fun Q2 H2 => cM_lay t2.1 (fun _ => ?_) (fun z1 z2 z3 => absurd ⟨z1, Or.inr (Or.inr (Or.inr ⟨z2, z3⟩))⟩ gb) (fun z1 z2 => absurd ⟨z1, z2⟩ gb))
    exact H2 A F X (inv_same hc h)
end LAW
