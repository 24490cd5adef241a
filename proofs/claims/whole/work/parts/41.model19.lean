/-! the reference: path -/
/-- rows 31, 32 hold the walk's state -/
def bRep (A A1 : qA) (σ : bS) : Prop := qag [31, 32] A A1 ∧ (∀ c, c < 36 → A1 32 c = ov (σ.1 c)) ∧ ∀ i, i < σ.2.length → A1 31 i = nI (σ.2.getD i 0)
theorem ov_some (m : Nat) : ov (some m) = nI m := rfl
theorem ov_lt0 {o : Option Nat} (h : ∀ m, o = some m → m < 2147483648) : (0 : Int32) ≤ ov o ↔ ¬ o = none := by
  cases o with
  | none => exact ⟨fun z => absurd z (by decide), fun z => absurd rfl z⟩
  | some m => exact ⟨fun _ => (by simp), fun _ => nI_pos' (h m rfl)⟩
section MOD
variable {A A1 : qA} {F : qF} {X : qX} {Q : pz_Q} {M : pz_M}
theorem bRep.app {σ : bS} (h : bRep A A1 σ) {o : Nat} {v : Int32} {m : Nat} (hv : v = nI m) : bRep A (va_up (va_up A1 32 (upd (A1 32) o v)) 31 (upd (A1 31) σ.2.length (nI o))) (bup σ.1 o m, σ.2 ++ [o]) := by
  refine ⟨h.1.trans ((qag.up (by simp)).trans (qag.up (by simp))), fun c hc => ?_, fun i hi => ?_⟩
  · rw [vu_ne _ _ (by omega), vu_at]
    show upd (A1 32) o v c = ov (bup σ.1 o m c)
    unfold bup
    by_cases e : c = o
    · subst e
      rw [upd_at, if_pos rfl, hv, ov_some]
    · rw [upd_ne _ _ e, if_neg e]
      exact h.2.1 c hc
  · rw [vu_at]
    have hi : i < (σ.2 ++ [o]).length := hi
    show upd (A1 31) σ.2.length (nI o) i = nI ((σ.2 ++ [o]).getD i 0)
    have hl : (σ.2 ++ [o]).length = σ.2.length + 1 := by simp
    rw [hl] at hi
    by_cases e : i = σ.2.length
    · subst e
      rw [upd_at]
      simp [List.getD]
    · rw [upd_ne _ _ e, gD_app _ (by omega)]
      exact h.2.2 i (by omega)
set_option maxRecDepth 8000 in
theorem tM_path83 {a b p : Int32} {k : Nat} : ∀ (d w : Nat), w + d = 4 → ∀ (σ : bS) (A1 : qA) (x7 : Option Value), okB σ → k < σ.2.length → bRep A A1 σ →
    (∀ (σ' : bS) (A2 : qA) (x6 x7 : Option Value), σ' = f_br (A 20) p (σ.2.getD k 0) d w σ → okB σ' → k < σ'.2.length → bRep A A2 σ' → pz_T z0 KX10_path Q 167 (0, 0) [some (.ref 69), some (.int a), some (.int b), some (.int p), some (.int (nI σ'.2.length)), some (.int (nI k)), x6, x7] [] (mem A2 F X)) →
    pz_T z0 KX10_path Q 83 (0, 0) [some (.ref 69), some (.int a), some (.int b), some (.int p), some (.int (nI σ.2.length)), some (.int (nI k)), some (.int (nI w)), x7] [] (mem A1 F X) := by
  intro d
  induction d with
  | zero =>
    intro w hw σ A1 x7 ho hk hr h
    have hw : w = 4 := by omega
    subst hw
    refine pz_wp_ok (pz_Is_ok SX10_path) [83, 167] 100 ?_
    refine br1 (fun z => z (nI_le (Nat.le_refl _) (by omega))) ?_
    exact h σ A1 _ _ rfl ho hk hr
  | succ d ih =>
    intro w hw σ A1 x7 ho hk hr h
    have hle := ho.le
    have hc := ho.lt k hk
    obtain ⟨m, hm⟩ := ho.got k hk
    have hms := ho.sm _ _ hm
    obtain ⟨ok', hk', hg'⟩ := okB_bs (t := A 20) (p := p) (w := w) ho hk
    have ek : nI w + 1 = nI (w + 1) := nI_1 w
    have e31 := hr.2.2 k hk
    have e20 : A1 20 = A 20 := hr.1 20 (by simp)
    rw [f_br] at h
    have cont : ∀ (σ' : bS) (A2 : qA) (x : Option Value), σ' = f_bs (A 20) p (σ.2.getD k 0) σ w → bRep A A2 σ' → pz_T z0 KX10_path Q 83 (0, 0) [some (.ref 69), some (.int a), some (.int b), some (.int p), some (.int (nI σ'.2.length)), some (.int (nI k)), some (.int (nI (w + 1))), x] [] (mem A2 F X) := by
      intro σ' A2 x hs hr2
      rw [← hs] at ok' hk' hg' h
      exact ih (w + 1) (by omega) σ' A2 x ok' hk' hr2 (by rw [hg']; exact h)
    clear ih h
    refine pz_wp_ok (pz_Is_ok SX10_path) [83, 167] 100 ?_
    refine br2 (n_ge (b := 4) (by omega) (by omega) (by omega)) ?_
    refine ⟨qin k rfl (by omega) (by omega), ?_⟩
    have ck : (nI k).toNatClampNeg = k := nI_clamp (by omega)
    refine cM_beside (c := σ.2.getD k 0) (w := w) (by rw [ck]; exact e31) rfl hc (by omega) ?_
    unfold f_bs at cont
    cases hn : nb (σ.2.getD k 0) w with
    | none =>
      rw [hn] at cont
      refine br1 (fun z => z (by decide)) ?_
      refine qT (cont σ A1 (some (.int (ov none))) rfl hr) ?_ rfl rfl
      rw [← ek]
      rfl
    | some o =>
      rw [hn] at cont
      dsimp only at cont
      have hol := nb_lt hc hn
      have co : (nI o).toNatClampNeg = o := nI_clamp (by omega)
      refine br2 (fun z => absurd (nI_pos' (n := o) (by omega)) (i_nle.mpr z)) ?_
      refine ⟨qin o rfl (by omega) (by omega), ?_⟩
      have eo : A1 32 (nI o).toNatClampNeg = ov (σ.1 o) := by rw [co]; exact hr.2.1 o hol
      have hsm : ∀ y, σ.1 o = some y → y < 2147483648 := fun y hy => by have := ho.sm o y hy; omega
      refine ⟨fun g => ?_, fun g => ?_⟩
      · have g : 0 ≤ A1 32 (nI o).toNatClampNeg := g
        rw [eo] at g
        have g := (ov_lt0 hsm).mp g
        rw [if_neg (fun z => g z.1)] at cont
        refine qT (cont σ A1 (some (.int (ov (some o)))) rfl hr) ?_ rfl rfl
        rw [← ek]
        rfl
      · have g : ¬ 0 ≤ A1 32 (nI o).toNatClampNeg := g
        rw [eo] at g
        have g : σ.1 o = none := Decidable.not_not.mp (fun z => g ((ov_lt0 hsm).mpr z))
        refine cM_parts rfl hol ?_
        rw [e20]
        refine ⟨fun g2 => ?_, fun g2 => ?_⟩
        · have g2 : p < A 20 (82 + o) := g2
          rw [if_neg (fun z => i_nle.mpr g2 z.2)] at cont
          refine qT (cont σ A1 (some (.int (ov (some o)))) rfl hr) ?_ rfl rfl
          rw [← ek]
          rfl
        · have g2 : ¬ p < A 20 (82 + o) := g2
          rw [if_pos ⟨g, i_nlt.mp g2⟩] at cont
          have hroom := ho.room hol g
          refine ⟨qin k rfl (by omega) (by omega), ?_⟩
          have e31' : A1 31 (nI k).toNatClampNeg = nI (σ.2.getD k 0) := by rw [ck]; exact e31
          have cc : (A1 31 (nI k).toNatClampNeg).toNatClampNeg = σ.2.getD k 0 := qcl _ e31' (by omega)
          refine ⟨qin _ e31' (by omega) (by omega), ?_⟩
          refine ⟨qin o rfl (by omega) (by omega), ?_⟩
          refine ⟨qin σ.2.length rfl (by omega) (by omega), ?_⟩
          have ev : A1 32 (A1 31 (nI k).toNatClampNeg).toNatClampNeg + 1 = nI (m + 1) := by
            rw [cc, hr.2.1 _ hc, hm]; exact nI_1 m
          have el : nI σ.2.length + 1 = nI (σ.2.length + 1) := nI_1 _
          have hl : (σ.2 ++ [o]).length = σ.2.length + 1 := by simp
          have cl : (nI σ.2.length).toNatClampNeg = σ.2.length := nI_clamp (by omega)
          have hf := cont _ _ (some (.int (ov (some o)))) rfl (by rw [hm]; exact hr.app (o := o) (m := m + 1) ev)
          rw [show ((bup σ.1 o ((σ.1 (σ.2.getD k 0)).getD 0 + 1), σ.2 ++ [o]) : bS).2.length = σ.2.length + 1 from hl] at hf
          refine qT hf ?_ rfl ?_
          · rw [← ek, ← el]; rfl
          · generalize A1 32 (A1 31 (nI k).toNatClampNeg).toNatClampNeg + 1 = v
            have e1 : ∀ f g, mem (va_up (va_up A1 32 f) 31 g) F X = pz_set (pz_set (mem A1 F X) 82 (.inl (0, 36, f))) 81 (.inl (0, 36, g)) := fun f g => rfl
            rw [e1]
            show pz_set (pz_set (mem A1 F X) 82 (.inl (0, 36, upd (A1 32) (nI o).toNatClampNeg v))) 81 (.inl (0, 36, upd (A1 31) (nI σ.2.length).toNatClampNeg (nI o))) = _
            rw [co, cl]
end MOD
