section MOD
variable {A : qA} {F : qF} {X : qX} {Q : pz_Q} {M : pz_M}
theorem cM_isOf {o k : Int32} (h1 : f_isOfb o k = true → Q (some (.int 1)) M) (h0 : ¬ f_isOfb o k = true → Q (some (.int 0)) M) : pz_C yX10_isOf KX10_isOf [.int o, .int k] M Q := by
  refine pz_C_of rfl rfl rfl (Nat.le_of_ble_eq_true rfl) (pz_wp_ok (pz_Is_ok SX10_isOf) [] 100 ?_)
  simp only [f_isOfb, Bool.or_eq_true, Bool.and_eq_true, decide_eq_true_eq] at h1 h0
  refine ⟨fun g => ?_, fun g => ?_⟩
  · exact ⟨Or.inr rfl, h1 (Or.inl (Or.inl (Or.inl g)))⟩
  refine ⟨fun g2 => ?_, fun g2 => ?_⟩
  · exact ⟨Or.inr rfl, h1 (Or.inl (Or.inl (Or.inr g2)))⟩
  refine ⟨fun g3 => ?_, fun g3 => ?_⟩
  · refine ⟨fun g4 => ?_, fun g4 => ?_⟩
    · refine ⟨Or.inl rfl, h0 ?_⟩
      rintro (((z | z) | ⟨z, -⟩) | ⟨z, -⟩)
      · exact g z
      · exact g2 z
      · exact g3 z
      · exact g4 z
    · refine ⟨fun g5 => ?_, fun g5 => ?_⟩
      · refine ⟨Or.inl rfl, h0 ?_⟩
        rintro (((z | z) | ⟨z, -⟩) | ⟨-, z⟩)
        · exact g z
        · exact g2 z
        · exact g3 z
        · exact g5 z
      · exact ⟨Or.inr rfl, h1 (Or.inr ⟨g4, g5⟩)⟩
  · refine ⟨fun g4 => ?_, fun g4 => ?_⟩
    · exact ⟨Or.inr rfl, h1 (Or.inl (Or.inr ⟨g3, g4⟩))⟩
    · have g3 : k = 1 := g3
      have ne : ¬ k = 2 := by rw [g3]; decide
      refine br1 (fun z => ne z) ⟨Or.inl rfl, h0 ?_⟩
      rintro (((z | z) | ⟨-, z⟩) | ⟨z, -⟩)
      · exact g z
      · exact g2 z
      · exact g4 z
      · exact ne z
set_option maxRecDepth 8000 in
theorem cM_as {e w : Int32} (hok : okS (A 20)) (h : Q (some (.int (s_as (A 20) e w))) (mem A F X)) : pz_C yX10_as KX10_as [.ref 69, .int e, .int w] (mem A F X) Q := by
  refine pz_C_of rfl rfl rfl (Nat.le_of_ble_eq_true rfl) (pz_wp_ok (pz_Is_ok SX10_as) [] 100 ?_)
  obtain ⟨n1, n2⟩ := hok.n
  unfold s_as at h
  refine cM_isEater n2 (by omega) (fun g1 => ?_) (fun g1 => ?_)
  · refine br2 (by decide) ?_
    refine cM_isIn3 0 5 rfl rfl (fun g2 => ?_) (fun g2 => ?_)
    · refine br1 (by decide) ?_
      rw [if_pos ⟨g1, g2⟩] at h
      obtain ⟨a1, a2, a3⟩ := qI (m := 8) g1 (by omega)
      refine cM_of (w := 0) a1 rfl a2 (by omega) ?_
      refine cM_isOf (fun g => ?_) (fun g => ?_)
      · rw [if_pos g] at h
        refine br2 (by decide) ?_
        exact cM_of (w := 2) a1 rfl a2 (by omega) h
      · rw [if_neg g] at h
        refine br1 (fun z => z rfl) ?_
        exact h
    · refine br2 (fun z => z rfl) ?_
      rw [if_neg (fun z => g2 z.2)] at h
      exact h
  · refine br1 (fun z => z rfl) ?_
    rw [if_neg (fun z => g1 z.1)] at h
    exact h
theorem e_of {e : Int32} (a1 : e = nI e.toNatClampNeg) : (118 : Int32) + 3 * e = nI (118 + 3 * e.toNatClampNeg + 0) := by
  generalize e.toNatClampNeg = n at a1 ⊢
  subst a1
  rw [show (3 : Int32) * nI n = nI (3 * n) from pk_mul 3 n]
  exact nI_add 118 _
set_option maxRecDepth 8000 in
theorem cM_turns {e w : Int32} (hok : okS (A 20)) (h : Q (some (.int (s_turns (A 20) e w).1)) (mem (va_up A 20 (s_turns (A 20) e w).2) F X)) : pz_C yX10_turns KX10_turns [.ref 69, .int e, .int w] (mem A F X) Q := by
  refine pz_C_of rfl rfl rfl (Nat.le_of_ble_eq_true rfl) (pz_wp_ok (pz_Is_ok SX10_turns) [] 100 ?_)
  obtain ⟨n1, n2⟩ := hok.n
  unfold s_turns at h
  refine cM_isEater n2 (by omega) (fun g1 => ?_) (fun g1 => ?_)
  · refine br2 (by decide) ?_
    refine cM_isIn3 0 5 rfl rfl (fun g2 => ?_) (fun g2 => ?_)
    · refine br2 (by decide) ?_
      rw [if_pos ⟨g1, g2⟩] at h
      obtain ⟨a1, a2, a3⟩ := qI (m := 8) g1 (by omega)
      exact cM_becomes (e_of a1) (by omega) h
    · refine br1 (fun z => z rfl) ?_
      rw [if_neg (fun z => g2 z.2)] at h
      rw [vu_s] at h
      exact h
  · refine br1 (fun z => z rfl) ?_
    rw [if_neg (fun z => g1 z.1)] at h
    rw [vu_s] at h
    exact h
set_option maxRecDepth 8000 in
theorem cM_sends {e w : Int32} (hok : okS (A 20)) (h : Q (some (.int (s_sends (A 20) e w).1)) (mem (va_up A 20 (s_sends (A 20) e w).2) F X)) : pz_C yX10_sends KX10_sends [.ref 69, .int e, .int w] (mem A F X) Q := by
  refine pz_C_of rfl rfl rfl (Nat.le_of_ble_eq_true rfl) (pz_wp_ok (pz_Is_ok SX10_sends) [] 100 ?_)
  obtain ⟨n1, n2⟩ := hok.n
  unfold s_sends at h
  refine cM_isEater n2 (by omega) (fun g1 => ?_) (fun g1 => ?_)
  · refine br2 (by decide) ?_
    refine cM_isCell (fun g2 => ?_) (fun g2 => ?_)
    · refine br2 (by decide) ?_
      rw [if_pos ⟨g1, g2⟩] at h
      obtain ⟨a1, a2, a3⟩ := qI (m := 8) g1 (by omega)
      have e1 : (118 : Int32) + 3 * e + 1 = nI (118 + 3 * e.toNatClampNeg + 1) := by rw [e_of a1]; exact nI_1 _
      exact cM_becomes e1 (by omega) h
    · refine br1 (fun z => z rfl) ?_
      rw [if_neg (fun z => g2 z.2)] at h
      rw [vu_s] at h
      exact h
  · refine br1 (fun z => z rfl) ?_
    rw [if_neg (fun z => g1 z.1)] at h
    rw [vu_s] at h
    exact h
set_option maxRecDepth 8000 in
theorem cM_cook {c : Int32} (h : Q (some (.int (s_cook (A 20) c).1)) (mem (va_up A 20 (s_cook (A 20) c).2) F X)) : pz_C yX10_cook KX10_cook [.ref 69, .int c] (mem A F X) Q := by
  refine pz_C_of rfl rfl rfl (Nat.le_of_ble_eq_true rfl) (pz_wp_ok (pz_Is_ok SX10_cook) [] 100 ?_)
  unfold s_cook at h
  refine cM_isCell (fun g1 => ?_) (fun g1 => ?_)
  · refine br1 (by decide) ?_
    rw [if_pos g1] at h
    refine ⟨qin 4 rfl (by omega) (by omega), ?_⟩
    refine qC (cM_becomes (A := va_up A 20 (upd (A 20) 4 1)) (F := F) (X := X) (n := 3) (v := c) rfl (by omega) ?_) rfl rfl
    rw [vu_at, vu_vu]
    exact h
  · refine br2 (fun z => z rfl) ?_
    rw [if_neg g1] at h
    rw [vu_s] at h
    exact h
set_option maxRecDepth 8000 in
theorem cM_say {w : Int32} (h : Q (some (.int (s_say (A 20) w).1)) (mem (va_up A 20 (s_say (A 20) w).2) F X)) : pz_C yX10_say KX10_say [.ref 69, .int w] (mem A F X) Q := by
  refine pz_C_of rfl rfl rfl (Nat.le_of_ble_eq_true rfl) (pz_wp_ok (pz_Is_ok SX10_say) [] 100 ?_)
  unfold s_say at h
  refine cM_isIn3 0 9 rfl rfl (fun g1 => ?_) (fun g1 => ?_)
  · refine br1 (by decide) ?_
    rw [if_pos g1] at h
    refine ⟨qin 4 rfl (by omega) (by omega), ?_⟩
    refine ⟨fun g => ?_, fun g => ?_⟩
    · have g : ¬ A 20 4 = 0 := g
      rw [if_neg g] at h
      refine ⟨qin 6 rfl (by omega) (by omega), ?_⟩
      refine ⟨by decide, ?_⟩
      have hf : w - A 20 6 + 10 - (w - A 20 6 + 10) / 10 * 10 = f_wd (A 20) w := rfl
      refine ⟨fun g2 => ?_, fun g2 => ?_⟩
      · have g2 : ¬ f_wd (A 20) w = 0 := g2
        rw [if_neg g2] at h
        refine ⟨fun g3 => ?_, fun g3 => ?_⟩
        · have g3 : ¬ f_wd (A 20) w = 1 := g3
          rw [if_neg g3] at h
          refine ⟨fun g4 => ?_, fun g4 => ?_⟩
          · have g4 : ¬ f_wd (A 20) w = 9 := g4
            rw [if_neg g4] at h
            rw [vu_s] at h
            exact h
          · have g4 : f_wd (A 20) w = 9 := g4
            rw [if_pos g4] at h
            refine ⟨qin 7 rfl (by omega) (by omega), ?_⟩
            refine cM_within ?_
            exact ⟨qin 7 rfl (by omega) (by omega), h⟩
        · have g3 : f_wd (A 20) w = 1 := g3
          rw [if_pos g3] at h
          refine ⟨qin 8 rfl (by omega) (by omega), ?_⟩
          refine cM_within ?_
          exact ⟨qin 8 rfl (by omega) (by omega), h⟩
      · have g2 : f_wd (A 20) w = 0 := g2
        rw [if_pos g2] at h
        exact ⟨qin 4 rfl (by omega) (by omega), h⟩
    · have g : A 20 4 = 0 := g
      rw [if_pos g] at h
      rw [vu_s] at h
      exact h
  · refine br2 (fun z => z rfl) ?_
    rw [if_neg g1] at h
    rw [vu_s] at h
    exact h
theorem cM_mostRule {w : Int32} (h : Q (some (.int (f_mr w))) M) : pz_C yX10_mostRule KX10_mostRule [.int w] M Q := by
  refine pz_C_of rfl rfl rfl (Nat.le_of_ble_eq_true rfl) (pz_wp_ok (pz_Is_ok SX10_mostRule) [] 100 ?_)
  unfold f_mr at h
  refine ⟨fun g => ?_, fun g => ?_⟩
  · rw [if_neg g] at h
    refine ⟨fun g => ?_, fun g => ?_⟩
    · rw [if_neg g] at h; exact h
    · rw [if_pos g] at h; exact h
  · rw [if_pos g] at h; exact h
set_option maxRecDepth 8000 in
theorem cM_rule {w v : Int32} (h : Q (some (.int (s_rule (A 20) w v).1)) (mem (va_up A 20 (s_rule (A 20) w v).2) F X)) : pz_C yX10_rule KX10_rule [.ref 69, .int w, .int v] (mem A F X) Q := by
  refine pz_C_of rfl rfl rfl (Nat.le_of_ble_eq_true rfl) (pz_wp_ok (pz_Is_ok SX10_rule) [] 100 ?_)
  unfold s_rule at h
  refine cM_isIn3 0 3 rfl rfl (fun g1 => ?_) (fun g1 => ?_)
  · refine br2 (by decide) ?_
    refine cM_mostRule ?_
    refine cM_isIn3 0 (f_mr w).toInt rfl (Int32.toInt_toInt64 _) (fun g2 => ?_) (fun g2 => ?_)
    · refine br2 (by decide) ?_
      rw [if_pos ⟨g1, g2⟩] at h
      obtain ⟨a1, a2, a3⟩ := qI (m := 4) g1 (by omega)
      have e1 : (6 : Int32) + w = nI (6 + w.toNatClampNeg) := by
        generalize w.toNatClampNeg = n at a1 ⊢
        subst a1
        exact nI_add 6 n
      exact cM_becomes e1 (by omega) h
    · refine br1 (fun z => z rfl) ?_
      rw [if_neg (fun z => g2 z.2)] at h
      rw [vu_s] at h
      exact h
  · refine br1 (fun z => z rfl) ?_
    rw [if_neg (fun z => g1 z.1)] at h
    rw [vu_s] at h
    exact h
theorem cM_seed {v : Int32} (h : Q (some (.int (A 20 5))) (mem (va_up A 20 (upd (A 20) 5 v)) F X)) : pz_C yX10_seed KX10_seed [.ref 69, .int v] (mem A F X) Q := by
  refine pz_C_of rfl rfl rfl (Nat.le_of_ble_eq_true rfl) (pz_wp_ok (pz_Is_ok SX10_seed) [] 100 ?_)
  exact cM_becomes (n := 5) rfl (by omega) h
end MOD
