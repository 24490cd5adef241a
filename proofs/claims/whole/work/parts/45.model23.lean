/-! the reference: mark, sheet -/
section MOD
variable {A A1 : qA} {F : qF} {X : qX} {Q : pz_Q} {M : pz_M}
set_option maxRecDepth 8000 in
theorem tM_mark96 {s p v : Int32} {sn pn : Nat} (a1 : s = nI sn) (a2 : sn < 4) (b1 : p = nI pn) (b2 : pn < 24) (h : Q (some (.int 1)) (mem (va_up A 25 (upd (A 25) (24 * sn + pn) (if A 23 sn = 0 then v <<< (16 &&& 31) >>> (16 &&& 31) else v))) F X)) : pz_T z0 KX10_mark Q 96 (0, 0) [some (.ref 69), some (.int s), some (.int p), some (.int v)] [] (mem A F X) := by
  refine pz_wp_ok (pz_Is_ok SX10_mark) [] 100 ?_
  have cs := qcl sn a1 (by omega)
  have e := e_24 a1 b1
  have ce := qcl _ e (by omega)
  refine ⟨qin sn a1 (by omega) (by omega), ?_⟩
  rw [← ce] at h
  refine ⟨fun g => ?_, fun g => ?_⟩
  · have g : ¬ A 23 s.toNatClampNeg = 0 := g
    rw [cs] at g
    rw [if_neg g] at h
    exact ⟨qin _ e (by omega) (by omega), h⟩
  · have g : A 23 s.toNatClampNeg = 0 := g
    rw [cs] at g
    rw [if_pos g] at h
    exact ⟨qin _ e (by omega) (by omega), h⟩
set_option maxRecDepth 8000 in
theorem cM_mark {s p v : Int32} (hT : okT A) (h : Q (some (.int (s_mark A s p v).1)) (mem (va_up A 25 (s_mark A s p v).2) F X)) : pz_C yX10_mark KX10_mark [.ref 69, .int s, .int p, .int v] (mem A F X) Q := by
  refine pz_C_of rfl rfl rfl (Nat.le_of_ble_eq_true rfl) (pz_wp_ok (pz_Is_ok SX10_mark) [63, 96] 100 ?_)
  unfold s_mark at h
  refine cM_isSheet (fun g1 => ?_) (fun g1 => ?_)
  · refine br1 (by decide) ?_
    rw [if_pos g1] at h
    obtain ⟨a1, a2, a3⟩ := qI (m := 4) g1 (by omega)
    obtain ⟨t1, z, z1, z2⟩ := hT _ a2
    have cz := qcl z z2 (by omega)
    rw [cz] at h
    have hz : (A 24 s.toNatClampNeg - 1).toInt = (z : Int) - 1 := by
      have hz0 : (A 24 s.toNatClampNeg).toInt = z := by rw [z2, nIi (by omega)]
      have h1 : (1 : Int32).toInt = 1 := rfl
      rw [i_sub (by omega) (by omega), hz0, h1]
    unfold v_mark at h
    refine ⟨qin _ a1 (by omega) (by omega), ?_⟩
    refine ⟨fun g => ?_, fun g => ?_⟩
    · have g : 0 ≤ A 23 s.toNatClampNeg := g
      rw [if_neg (i_nlt.mpr g)] at h
      refine ⟨qin _ a1 (by omega) (by omega), ?_⟩
      refine cM_isIn3 0 ((z : Int) - 1) rfl ((Int32.toInt_toInt64 _).trans hz) (fun g2 => ?_) (fun g2 => ?_)
      · refine br1 (by decide) ?_
        rw [if_neg (fun y => y g2)] at h
        obtain ⟨b1, b2, b3⟩ := qI (m := 24) g2 (by omega)
        refine ⟨qin _ a1 (by omega) (by omega), ?_⟩
        have fin : ¬ (A 23 s.toNatClampNeg = 0 ∧ v = -1000000005) → ¬ (A 23 s.toNatClampNeg = 1 ∧ ¬ v = -1000000005 ∧ ¬ qIn (-99999) 99999 v) → pz_T z0 KX10_mark Q 96 (0, 0) [some (.ref 69), some (.int s), some (.int p), some (.int v)] [] (mem A F X) := fun y1 y2 => by
          rw [if_neg y1, if_neg y2] at h
          exact tM_mark96 a1 a2 b1 b2 h
        have mid : ¬ (A 23 s.toNatClampNeg = 0 ∧ v = -1000000005) → pz_T z0 KX10_mark Q 63 (0, 0) [some (.ref 69), some (.int s), some (.int p), some (.int v)] [] (mem A F X) := fun y1 => by
          refine pz_wp_ok (pz_Is_ok SX10_mark) [96] 100 ?_
          refine ⟨qin _ a1 (by omega) (by omega), ?_⟩
          refine ⟨fun g3 => ?_, fun g3 => ?_⟩
          · exact fin y1 (fun y => g3 y.1)
          · have g3 : A 23 s.toNatClampNeg = 1 := g3
            refine ⟨fun g4 => ?_, fun g4 => ?_⟩
            · exact fin y1 (fun y => y.2.1 g4)
            · refine cM_isIn3 (-99999) 99999 rfl rfl (fun g5 => ?_) (fun g5 => ?_)
              · refine br1 (by decide) ?_
                exact fin y1 (fun y => y.2.2 g5)
              · refine br2 (fun y => y rfl) ?_
                rw [if_neg y1, if_pos ⟨g3, g4, g5⟩] at h
                have h : Q (some (.int BAD)) (mem (va_up A 25 (A 25)) F X) := h
                rw [vu_s] at h
                exact h
        refine ⟨fun g3 => ?_, fun g3 => ?_⟩
        · exact mid (fun y => g3 y.1)
        · have g3 : A 23 s.toNatClampNeg = 0 := g3
          refine ⟨fun g4 => ?_, fun g4 => ?_⟩
          · exact mid (fun y => g4 y.2)
          · rw [if_pos ⟨g3, g4⟩] at h
            have h : Q (some (.int (-1000000012))) (mem (va_up A 25 (A 25)) F X) := h
            rw [vu_s] at h
            exact h
      · refine br2 (fun z => z rfl) ?_
        rw [if_pos g2] at h
        have h : Q (some (.int (-1000000013))) (mem (va_up A 25 (A 25)) F X) := h
        rw [vu_s] at h
        exact h
    · have g : ¬ 0 ≤ A 23 s.toNatClampNeg := g
      rw [if_pos (i_nle.mp g)] at h
      have h : Q (some (.int (-1000000011))) (mem (va_up A 25 (A 25)) F X) := h
      rw [vu_s] at h
      exact h
  · refine br2 (fun z => z rfl) ?_
    rw [if_neg g1, vu_s] at h
    exact h
end MOD
