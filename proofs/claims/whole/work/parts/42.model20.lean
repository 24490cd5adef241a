/-! the reference: path, the rest -/
section MOD
variable {A A1 : qA} {F : qF} {X : qX} {Q : pz_Q} {M : pz_M}
set_option maxRecDepth 8000 in
theorem tM_path173 {a b p : Int32} {bn : Nat} (hb : b = nI bn) (hbn : bn < 36) {σ : bS} (ho : okB σ) (hr : bRep A A1 σ) (h : ∀ A' : qA, qag [31, 32] A A' → Q (some (.int (f_orn (σ.1 bn)))) (mem A' F X)) (x4 x5 x6 x7 : Option Value) : pz_T z0 KX10_path Q 173 (0, 0) [some (.ref 69), some (.int a), some (.int b), some (.int p), x4, x5, x6, x7] [] (mem A1 F X) := by
  refine pz_wp_ok (pz_Is_ok SX10_path) [] 100 ?_
  refine ⟨qin bn hb (by omega) (by omega), ?_⟩
  have cb := qcl bn hb (by omega)
  have e : A1 32 b.toNatClampNeg = ov (σ.1 bn) := by rw [cb]; exact hr.2.1 bn hbn
  have hle := ho.le
  have h' := h A1 hr.1
  refine cM_orNone ?_
  rw [e]
  cases hs : σ.1 bn with
  | none =>
    rw [hs] at h'
    rw [if_pos (show ov none < 0 by decide)]
    exact h'
  | some m =>
    rw [hs] at h'
    have := ho.sm _ _ hs
    have hp : ¬ ov (some m) < 0 := i_nlt.mpr (nI_pos' (by omega))
    rw [if_neg hp]
    exact h'
set_option maxRecDepth 8000 in
theorem tM_path73 {a b p : Int32} {bn : Nat} (hb : b = nI bn) (hbn : bn < 36) {r : Option Nat} (h : ∀ A' : qA, qag [31, 32] A A' → Q (some (.int (f_orn r))) (mem A' F X)) : ∀ (d k : Nat), k + d = 36 → ∀ (σ : bS) (A1 : qA) (x6 x7 : Option Value), okB σ → bRep A A1 σ → r = (f_bq (A 20) p d k σ).1 bn → pz_T z0 KX10_path Q 73 (0, 0) [some (.ref 69), some (.int a), some (.int b), some (.int p), some (.int (nI σ.2.length)), some (.int (nI k)), x6, x7] [] (mem A1 F X) := by
  intro d
  induction d with
  | zero =>
    intro k hk σ A1 x6 x7 ho hr e
    have hle := ho.le
    refine pz_wp_ok (pz_Is_ok SX10_path) [73, 173] 100 ?_
    refine br1 (fun z => z (nI_le (by omega) (by omega))) ?_
    rw [f_bq] at e
    subst e
    exact tM_path173 hb hbn ho hr h _ _ _ _
  | succ d ih =>
    intro k hk σ A1 x6 x7 ho hr e
    have hle := ho.le
    rw [f_bq] at e
    refine pz_wp_ok (pz_Is_ok SX10_path) [73, 83, 173] 100 ?_
    by_cases g : k < σ.2.length
    · rw [if_pos g] at e
      refine br2 (n_ge (by omega) (by omega) g) ?_
      refine tM_path83 (A := A) 4 0 (by omega) σ A1 x7 ho g hr (fun σ' A2 y6 y7 hs ho2 hk2 hr2 => ?_)
      refine pz_wp_ok (pz_Is_ok SX10_path) [73] 100 ?_
      rw [← hs] at e
      refine qT (ih (k + 1) (by omega) σ' A2 y6 y7 ho2 hr2 e) ?_ rfl rfl
      rw [← nI_1 k]
      rfl
    · rw [if_neg g] at e
      refine br1 (fun z => z (nI_le (by omega) (by omega))) ?_
      subst e
      exact tM_path173 hb hbn ho hr h _ _ _ _
set_option maxRecDepth 8000 in
theorem tM_path32 {a b p : Int32} {an bn : Nat} (ha : a = nI an) (han : an < 36) (hb : b = nI bn) (hbn : bn < 36) (h : ∀ A' : qA, qag [31, 32] A A' → Q (some (.int (f_orn ((f_bq (A 20) p 36 0 (f_b0 an)).1 bn)))) (mem A' F X)) : ∀ (d k : Nat), k + d = 36 → ∀ (f : Nat → Int32), (∀ c, c < k → f c = -1) → pz_T z0 KX10_path Q 32 (0, 0) [some (.ref 69), some (.int a), some (.int b), some (.int p), some (.int (nI k)), none, none, none] [] (mem (va_up A 32 f) F X) := by
  intro d
  induction d with
  | zero =>
    intro k hk f hf
    have hk : k = 36 := by omega
    subst hk
    refine pz_wp_ok (pz_Is_ok SX10_path) [32, 73] 100 ?_
    refine br1 (fun z => z (nI_le (Nat.le_refl _) (by omega))) ?_
    refine ⟨qin an ha (by omega) (by omega), ?_⟩
    refine ⟨qin 0 rfl (by omega) (by omega), ?_⟩
    have ca := qcl an ha (by omega)
    refine qT (tM_path73 (A := A) (p := p) hb hbn h 36 0 (by omega) (f_b0 an) (va_up (va_up (va_up A 32 f) 32 (upd f an 0)) 31 (upd (A 31) 0 (nI an))) none none (okB_0 han) ⟨?_, fun c hc => ?_, fun i hi => ?_⟩ rfl) rfl rfl ?_
    · exact (qag.up (by simp)).trans ((qag.up (by simp)).trans (qag.up (by simp)))
    · rw [vu_ne _ _ (by omega), vu_at]
      show upd f an 0 c = ov (if c = an then some 0 else none)
      by_cases e : c = an
      · rw [if_pos e, e, upd_at]; rfl
      · rw [if_neg e, upd_ne _ _ e]; exact hf c hc
    · have hi : i < 1 := hi
      have : i = 0 := by omega
      subst this
      rw [vu_at, upd_at]
      rfl
    · rw [← ha, ← ca]
      rfl
  | succ d ih =>
    intro k hk f hf
    refine pz_wp_ok (pz_Is_ok SX10_path) [32, 73] 100 ?_
    refine br2 (n_ge (b := 36) (by omega) (by omega) (by omega)) ?_
    refine ⟨qin k rfl (by omega) (by omega), ?_⟩
    have ck : (nI k).toNatClampNeg = k := nI_clamp (by omega)
    have hh := ih (k + 1) (by omega) (upd f k (-1)) (fun c hc => by
      by_cases e : c = k
      · rw [e, upd_at]
      · rw [upd_ne _ _ e]; exact hf c (by omega))
    rw [← vu_vu A 32 f] at hh
    refine qT hh ?_ rfl ?_
    · rw [← nI_1 k]; rfl
    · have e1 : mem (va_up (va_up A 32 f) 32 (upd f k (-1))) F X = pz_set (mem (va_up A 32 f) F X) 82 (.inl (0, 36, upd f k (-1))) := rfl
      rw [e1]
      show pz_set (mem (va_up A 32 f) F X) 82 (.inl (0, 36, upd f (nI k).toNatClampNeg (-1))) = _
      rw [ck]
set_option maxRecDepth 8000 in
theorem cM_path {a b p : Int32} (h : ∀ A' : qA, qag [31, 32] A A' → Q (some (.int (s_path (A 20) a b p))) (mem A' F X)) : pz_C yX10_path KX10_path [.ref 69, .int a, .int b, .int p] (mem A F X) Q := by
  refine pz_C_of rfl rfl rfl (Nat.le_of_ble_eq_true rfl) (pz_wp_ok (pz_Is_ok SX10_path) [32] 100 ?_)
  unfold s_path at h
  refine cM_isCell (fun g1 => ?_) (fun g1 => ?_)
  · refine br2 (by decide) ?_
    refine cM_isCell (fun g2 => ?_) (fun g2 => ?_)
    · refine br2 (by decide) ?_
      refine cM_isIn3 0 9999 rfl rfl (fun g3 => ?_) (fun g3 => ?_)
      · refine br1 (by decide) ?_
        rw [if_pos ⟨g1, g2, g3⟩] at h
        obtain ⟨a1, a2, a3⟩ := qI (m := 36) g1 (by omega)
        obtain ⟨b1, b2, b3⟩ := qI (m := 36) g2 (by omega)
        have hh := tM_path32 a1 a2 b1 b2 h 36 0 (by omega) (A 32) (fun c hc => absurd hc (Nat.not_lt_zero _))
        rw [vu_s] at hh
        exact hh
      · refine br2 (fun z => z rfl) ?_
        rw [if_neg (fun z => g3 z.2.2)] at h
        exact h A (qag.refl _ A)
    · refine br1 (fun z => z rfl) ?_
      rw [if_neg (fun z => g2 z.2.1)] at h
      exact h A (qag.refl _ A)
  · refine br1 (fun z => z rfl) ?_
    rw [if_neg (fun z => g1 z.1)] at h
    exact h A (qag.refl _ A)
end MOD
