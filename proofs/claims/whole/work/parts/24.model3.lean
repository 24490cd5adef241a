theorem f_lowN_s (t : Nat → Int32) (c w : Nat) : f_lowN t c (w + 1) = match nb c w with
    | none => f_lowN t c w
    | some o => (match f_lowN t c w with
      | none => some o
      | some q => if f_btl t o q = true then some o else some q) := rfl
section MOD
variable {A : qA} {F : qF} {X : qX} {Q : pz_Q} {M : pz_M}
set_option maxRecDepth 4000 in
theorem tM_flows {c : Nat} (hc : c < 36) (hth : ¬ 1 + A 20 8 = 0) (h : Q none (mem (va_up A 20 (f_flow (A 20) c)) F X)) : ∀ (n w : Nat), w + n = 4 → ∀ x4 : Option Value, pz_T z0 KX10_flows Q 4 (0, 0) [some (.ref 69), some (.int (nI c)), some (.int (ov (f_lowN (A 20) c w))), some (.int (nI w)), x4] [] (mem A F X) := by
  intro n
  induction n with
  | zero =>
    intro w hw x4
    have hw : w = 4 := by omega
    subst hw
    refine pz_wp_ok (pz_Is_ok SX10_flows) [4] 100 ?_
    obtain ⟨e1, e2⟩ := f_low_some (A 20) hc
    rw [e1]
    refine br1 (fun z => z (by decide)) ?_
    refine cM_level rfl hc (cM_level rfl e2 ?_)
    unfold f_flow at h
    refine ⟨fun g => ?_, fun g => ?_⟩
    · rw [if_pos g] at h
      rw [vu_s] at h
      exact h
    · rw [if_neg g] at h
      refine ⟨by decide, ?_⟩
      refine ⟨qin 8 rfl (by omega) (by omega), ?_⟩
      refine ⟨hth, ?_⟩
      refine cM_parts rfl hc ?_
      refine cM_within ?_
      have a1 : (82 : Int32) + nI c = nI (82 + c) := nI_add 82 c
      have a2 : (82 : Int32) + nI (f_low (A 20) c) = nI (82 + f_low (A 20) c) := nI_add 82 _
      refine ⟨qin (82 + c) a1 (by omega) (by omega), qin (82 + c) a1 (by omega) (by omega), qin (82 + f_low (A 20) c) a2 (by omega) (by omega), qin (82 + f_low (A 20) c) a2 (by omega) (by omega), ?_⟩
      refine qQ h rfl ?_
      have b1 := qcl (82 + c) a1 (by omega)
      have b2 := qcl (82 + f_low (A 20) c) a2 (by omega)
      show mem (va_up A 20 (upd (upd (A 20) ((82 : Int32) + nI c).toNatClampNeg _) ((82 : Int32) + nI (f_low (A 20) c)).toNatClampNeg _)) F X = _
      have b3 : ((82 : Int32) + ov (some (f_low (A 20) c))).toNatClampNeg = 82 + f_low (A 20) c := b2
      rw [b1, b2, b3]
      rfl
  | succ n ih =>
    intro w hw x4
    refine pz_wp_ok (pz_Is_ok SX10_flows) [4] 100 ?_
    have hlow : ∀ q, f_lowN (A 20) c w = some q → q < 36 := fun q hq => (f_pk_lt hc w q hq).1
    have e1 : nI w + 1 = nI (w + 1) := nI_1 w
    refine br2 (fun z => ?_) ?_
    · have z : nI 4 ≤ nI w := z
      have := (nI_leI (by omega) (by omega)).mp z
      omega
    refine cM_beside rfl rfl hc (by omega) ?_
    have ih' := ih (w + 1) (by omega)
    rw [f_lowN_s] at ih'
    cases hnb : nb c w with
    | none =>
      rw [hnb] at ih'
      refine br1 (by decide) ?_
      exact qT (ih' (some (.int (-1)))) (by rw [← e1]; rfl) rfl rfl
    | some o =>
      rw [hnb] at ih'
      have ho := nb_lt hc hnb
      refine br2 (fun z => absurd z (nI_pos (by omega))) ?_
      cases hlo : f_lowN (A 20) c w with
      | none =>
        rw [hlo] at ih'
        refine br1 (by decide) ?_
        exact qT (ih' (some (.int (nI o)))) (by rw [← e1]; rfl) rfl rfl
      | some q =>
        rw [hlo] at ih'
        have hq := hlow q hlo
        dsimp only at ih'
        refine br2 (fun z => absurd z (nI_pos (by omega))) ?_
        refine cM_level rfl ho (cM_level rfl hq ⟨fun g => ?_, fun g => ?_⟩)
        · rw [if_neg (by unfold f_btl; simp only [decide_eq_true_eq]; exact i_nlt.mpr g)] at ih'
          exact qT (ih' (some (.int (nI o)))) (by rw [← e1]; rfl) rfl rfl
        · rw [if_pos (by unfold f_btl; simp only [decide_eq_true_eq]; exact i_nle.mp g)] at ih'
          exact qT (ih' (some (.int (nI o)))) (by rw [← e1]; rfl) rfl rfl
theorem cM_flows {c : Nat} {x : Int32} (hx : x = nI c) (hc : c < 36) (hth : ¬ 1 + A 20 8 = 0) (h : Q none (mem (va_up A 20 (f_flow (A 20) c)) F X)) : pz_C yX10_flows KX10_flows [.ref 69, .int x] (mem A F X) Q := by
  subst hx
  refine pz_C_of rfl rfl rfl (Nat.le_of_ble_eq_true rfl) (pz_wp_ok (pz_Is_ok SX10_flows) [4] 100 ?_)
  exact tM_flows hc hth h 4 0 rfl none
end MOD
