/-! the pot: path -/
def bRepP (A A1 : qA) (σ : bS) : Prop := qag [6, 7] A A1 ∧ (∀ c, c < 36 → A1 6 c = f_orn (σ.1 c)) ∧ ∀ i, i < σ.2.length → A1 7 i = nI (σ.2.getD i 0)
theorem f_orn_none {o : Option Nat} (h : ∀ m, o = some m → m < 2147483648) : f_orn o = -1000000005 ↔ o = none := by
  cases o with
  | none => exact ⟨fun _ => rfl, fun _ => rfl⟩
  | some m =>
    refine ⟨fun z => ?_, fun z => by cases z⟩
    have hp : (0 : Int32) ≤ nI m := nI_pos' (h m rfl)
    have z : nI m = -1000000005 := z
    rw [z] at hp
    exact absurd hp (by decide)
theorem f_bs_keep {t : Nat → Int32} {p : Int32} {c w b m : Nat} {σ : bS} (h : σ.1 b = some m) : (f_bs t p c σ w).1 b = some m := by
  unfold f_bs
  split
  · exact h
  · next o ho =>
    split
    · next g =>
      show bup σ.1 o _ b = some m
      unfold bup
      rw [if_neg (fun z => by rw [z, g.1] at h; cases h)]
      exact h
    · exact h
theorem f_br_keep {t : Nat → Int32} {p : Int32} {c b m : Nat} : ∀ (d w : Nat) (σ : bS), σ.1 b = some m → (f_br t p c d w σ).1 b = some m
  | 0, _, _, h => h
  | d + 1, w, σ, h => f_br_keep d (w + 1) _ (f_bs_keep h)
theorem f_bq_keep {t : Nat → Int32} {p : Int32} {b m : Nat} : ∀ (d k : Nat) (σ : bS), σ.1 b = some m → (f_bq t p d k σ).1 b = some m
  | 0, _, _, h => h
  | d + 1, k, σ, h => by
    rw [f_bq]
    by_cases g : k < σ.2.length
    · rw [if_pos g]; exact f_bq_keep d (k + 1) _ (f_br_keep 4 0 σ h)
    · rw [if_neg g]; exact h
section POT
variable {A A1 : qA} {F : qF} {X : qX} {Q : pz_Q} {M : pz_M}
theorem bRepP.app {σ : bS} (h : bRepP A A1 σ) {o : Nat} {v : Int32} {m : Nat} (hv : v = nI m) : bRepP A (va_up (va_up A1 6 (upd (A1 6) o v)) 7 (upd (A1 7) σ.2.length (nI o))) (bup σ.1 o m, σ.2 ++ [o]) := by
  refine ⟨h.1.trans ((qag.up (by simp)).trans (qag.up (by simp))), fun c hc => ?_, fun i hi => ?_⟩
  · rw [vu_ne _ _ (by omega), vu_at]
    show upd (A1 6) o v c = f_orn (bup σ.1 o m c)
    unfold bup
    by_cases e : c = o
    · subst e
      rw [upd_at, if_pos rfl, hv]
      rfl
    · rw [upd_ne _ _ e, if_neg e]
      exact h.2.1 c hc
  · rw [vu_at]
    have hi : i < (σ.2 ++ [o]).length := hi
    show upd (A1 7) σ.2.length (nI o) i = nI ((σ.2 ++ [o]).getD i 0)
    have hl : (σ.2 ++ [o]).length = σ.2.length + 1 := by simp
    rw [hl] at hi
    by_cases e : i = σ.2.length
    · subst e
      rw [upd_at]
      simp [List.getD]
    · rw [upd_ne _ _ e, gD_app _ (by omega)]
      exact h.2.2 i (by omega)
set_option maxRecDepth 8000 in
theorem tP_path73 {a b p : Int32} {k : Nat} : ∀ (d w : Nat), w + d = 4 → ∀ (σ : bS) (A1 : qA) (x8 : Option Value), okB σ → k < σ.2.length → bRepP A A1 σ →
    (∀ (σ' : bS) (A2 : qA) (x7 x8 : Option Value), σ' = f_br (A 0) p (σ.2.getD k 0) d w σ → okB σ' → k < σ'.2.length → bRepP A A2 σ' → pz_T z0 KX8_fewest Q 165 (0, 0) [some (.ref 40), some (.ref 7), some (.int a), some (.int b), some (.int p), some (.int (nI σ'.2.length)), some (.int (nI k)), x7, x8] [] (mem A2 F X)) →
    pz_T z0 KX8_fewest Q 73 (0, 0) [some (.ref 40), some (.ref 7), some (.int a), some (.int b), some (.int p), some (.int (nI σ.2.length)), some (.int (nI k)), some (.int (nI w)), x8] [] (mem A1 F X) := by
  intro d
  induction d with
  | zero =>
    intro w hw σ A1 x8 ho hk hr h
    have hw : w = 4 := by omega
    subst hw
    refine pz_wp_ok (pz_Is_ok SX8_fewest) [73, 165] 100 ?_
    refine br1 (fun z => z (nI_le (Nat.le_refl _) (by omega))) ?_
    exact h σ A1 _ _ rfl ho hk hr
  | succ d ih =>
    intro w hw σ A1 x8 ho hk hr h
    have hle := ho.le
    have hc := ho.lt k hk
    obtain ⟨m, hm⟩ := ho.got k hk
    have hms := ho.sm _ _ hm
    obtain ⟨ok', hk', hg'⟩ := okB_bs (t := A 0) (p := p) (w := w) ho hk
    have ek : nI w + 1 = nI (w + 1) := nI_1 w
    have e7 := hr.2.2 k hk
    have e0 : A1 0 = A 0 := hr.1 0 (by simp)
    rw [f_br] at h
    have cont : ∀ (σ' : bS) (A2 : qA) (x : Option Value), σ' = f_bs (A 0) p (σ.2.getD k 0) σ w → bRepP A A2 σ' → pz_T z0 KX8_fewest Q 73 (0, 0) [some (.ref 40), some (.ref 7), some (.int a), some (.int b), some (.int p), some (.int (nI σ'.2.length)), some (.int (nI k)), some (.int (nI (w + 1))), x] [] (mem A2 F X) := by
      intro σ' A2 x hs hr2
      rw [← hs] at ok' hk' hg' h
      exact ih (w + 1) (by omega) σ' A2 x ok' hk' hr2 (by rw [hg']; exact h)
    clear ih h
    refine pz_wp_ok (pz_Is_ok SX8_fewest) [73, 147] 100 ?_
    refine br2 (n_ge (b := 4) (by omega) (by omega) (by omega)) ?_
    refine ⟨qin k rfl (by omega) (by omega), ?_⟩
    have ck : (nI k).toNatClampNeg = k := nI_clamp (by omega)
    refine cP_beside (c := σ.2.getD k 0) (w := w) (by rw [ck]; exact e7) rfl hc (by omega) ?_
    unfold f_bs at cont
    cases hn : nb (σ.2.getD k 0) w with
    | none =>
      rw [hn] at cont
      refine br1 (fun z => z (by decide)) ?_
      refine qT (cont σ A1 (some (.int (ov none))) rfl hr) ?_ rfl rfl
      rw [← ek]
      rfl
    | some o =>
      rw [hn] at cont
      dsimp only at cont
      have hol := nb_lt hc hn
      have co : (nI o).toNatClampNeg = o := nI_clamp (by omega)
      refine br2 (fun z => absurd (nI_pos' (n := o) (by omega)) (i_nle.mpr z)) ?_
      refine ⟨qin o rfl (by omega) (by omega), ?_⟩
      have eo : A1 6 (nI o).toNatClampNeg = f_orn (σ.1 o) := by rw [co]; exact hr.2.1 o hol
      have hsm : ∀ y, σ.1 o = some y → y < 2147483648 := fun y hy => by have := ho.sm o y hy; omega
      refine ⟨fun g => ?_, fun g => ?_⟩
      · have g : ¬ A1 6 (nI o).toNatClampNeg = -1000000005 := g
        rw [eo, f_orn_none hsm] at g
        rw [if_neg (fun z => g z.1)] at cont
        refine qT (cont σ A1 (some (.int (ov (some o)))) rfl hr) ?_ rfl rfl
        rw [← ek]
        rfl
      · have g : A1 6 (nI o).toNatClampNeg = -1000000005 := g
        rw [eo, f_orn_none hsm] at g
        refine ⟨qin o rfl (by omega) (by omega), ?_⟩
        have ep : qm 36 82 1 (A1 0) (ov (some o)).toNatClampNeg = A 0 (82 + o) := by
          show qm 36 82 1 (A1 0) (nI o).toNatClampNeg = _
          rw [co, qm_1 hol, e0]
        rw [ep]
        refine ⟨fun g2 => ?_, fun g2 => ?_⟩
        · have g2 : p < A 0 (82 + o) := g2
          rw [if_neg (fun z => i_nle.mpr g2 z.2)] at cont
          refine qT (cont σ A1 (some (.int (ov (some o)))) rfl hr) ?_ rfl rfl
          rw [← ek]
          rfl
        · have g2 : ¬ p < A 0 (82 + o) := g2
          rw [if_pos ⟨g, i_nlt.mp g2⟩] at cont
          have hroom := ho.room hol g
          refine br2 (n_ge (b := 36) (by omega) (by omega) hroom) ?_
          refine ⟨qin k rfl (by omega) (by omega), ?_⟩
          have e7' : A1 7 (nI k).toNatClampNeg = nI (σ.2.getD k 0) := by rw [ck]; exact e7
          have cc : (A1 7 (nI k).toNatClampNeg).toNatClampNeg = σ.2.getD k 0 := qcl _ e7' (by omega)
          refine ⟨qin _ e7' (by omega) (by omega), ?_⟩
          refine ⟨qin o rfl (by omega) (by omega), ?_⟩
          have ev : A1 6 (A1 7 (nI k).toNatClampNeg).toNatClampNeg + 1 = nI (m + 1) := by
            rw [cc, hr.2.1 _ hc, hm]; exact nI_1 m
          have el : nI σ.2.length + 1 = nI (σ.2.length + 1) := nI_1 _
          have hl : (σ.2 ++ [o]).length = σ.2.length + 1 := by simp
          have cl : (nI σ.2.length).toNatClampNeg = σ.2.length := nI_clamp (by omega)
          have hf := cont _ _ (some (.int (ov (some o)))) rfl (by rw [hm]; exact hr.app (o := o) (m := m + 1) ev)
          rw [show ((bup σ.1 o ((σ.1 (σ.2.getD k 0)).getD 0 + 1), σ.2 ++ [o]) : bS).2.length = σ.2.length + 1 from hl] at hf
          generalize A1 6 (A1 7 (nI k).toNatClampNeg).toNatClampNeg + 1 = v at hf
          have e1 : ∀ f, pz_set (mem A1 F X) 41 (.inl (0, 36, f)) = mem (va_up A1 6 f) F X := fun f => rfl
          refine qT (M' := mem (va_up A1 6 (upd (A1 6) o v)) F X) ?_ rfl rfl (by rw [← e1]; show pz_set (mem A1 F X) 41 (.inl (0, 36, upd (A1 6) (nI o).toNatClampNeg v)) = _; rw [co])
          generalize upd (A1 6) o v = f6 at hf
          refine pz_wp_ok (pz_Is_ok SX8_fewest) [73] 100 ?_
          refine ⟨qin σ.2.length rfl (by omega) (by omega), ?_⟩
          refine qT hf ?_ rfl ?_
          · rw [← ek, ← el]; rfl
          · rw [cl]
            rfl
set_option maxRecDepth 8000 in
theorem tP_path171 {a b p : Int32} {bn : Nat} (hb : b = nI bn) (hbn : bn < 36) {σ : bS} (hr : bRepP A A1 σ) (h : ∀ A' : qA, qag [6, 7] A A' → Q (some (.int (f_orn (σ.1 bn)))) (mem A' F X)) (x5 x6 x7 x8 : Option Value) : pz_T z0 KX8_fewest Q 171 (0, 0) [some (.ref 40), some (.ref 7), some (.int a), some (.int b), some (.int p), x5, x6, x7, x8] [] (mem A1 F X) := by
  refine pz_wp_ok (pz_Is_ok SX8_fewest) [] 100 ?_
  refine ⟨qin bn hb (by omega) (by omega), ?_⟩
  have cb := qcl bn hb (by omega)
  have e : A1 6 b.toNatClampNeg = f_orn (σ.1 bn) := by rw [cb]; exact hr.2.1 bn hbn
  have h' := h A1 hr.1
  rw [← e] at h'
  exact h'
set_option maxRecDepth 8000 in
theorem tP_path45 {a b p : Int32} {bn : Nat} (hb : b = nI bn) (hbn : bn < 36) {r : Option Nat} (h : ∀ A' : qA, qag [6, 7] A A' → Q (some (.int (f_orn r))) (mem A' F X)) : ∀ (d k : Nat), k + d = 36 → ∀ (σ : bS) (A1 : qA) (x7 x8 : Option Value), okB σ → bRepP A A1 σ → r = (f_bq (A 0) p d k σ).1 bn → pz_T z0 KX8_fewest Q 45 (0, 0) [some (.ref 40), some (.ref 7), some (.int a), some (.int b), some (.int p), some (.int (nI σ.2.length)), some (.int (nI k)), x7, x8] [] (mem A1 F X) := by
  have cb := qcl bn hb (by omega)
  intro d
  induction d with
  | zero =>
    intro k hk σ A1 x7 x8 ho hr e
    have hle := ho.le
    refine pz_wp_ok (pz_Is_ok SX8_fewest) [45, 171] 100 ?_
    refine br1 (fun z => z (nI_le (by omega) (by omega))) ?_
    rw [f_bq] at e
    subst e
    exact tP_path171 hb hbn hr h _ _ _ _
  | succ d ih =>
    intro k hk σ A1 x7 x8 ho hr e
    have hle := ho.le
    have hsm : ∀ y, σ.1 bn = some y → y < 2147483648 := fun y hy => by have := ho.sm bn y hy; omega
    refine pz_wp_ok (pz_Is_ok SX8_fewest) [45, 73, 171] 100 ?_
    by_cases g : k < σ.2.length
    · refine br2 (n_ge (by omega) (by omega) g) ?_
      refine br2 (n_ge (b := 36) (by omega) (by omega) (by omega)) ?_
      refine ⟨qin bn hb (by omega) (by omega), ?_⟩
      have eb : A1 6 b.toNatClampNeg = f_orn (σ.1 bn) := by rw [cb]; exact hr.2.1 bn hbn
      refine ⟨fun g2 => ?_, fun g2 => ?_⟩
      · have g2 : ¬ A1 6 b.toNatClampNeg = -1000000005 := g2
        rw [eb, f_orn_none hsm] at g2
        cases hs : σ.1 bn with
        | none => exact absurd hs g2
        | some m =>
          rw [f_bq_keep _ _ σ hs, ← hs] at e
          subst e
          exact tP_path171 hb hbn hr h _ _ _ _
      · rw [f_bq, if_pos g] at e
        refine tP_path73 (A := A) 4 0 (by omega) σ A1 x8 ho g hr (fun σ' A2 y7 y8 hs ho2 hk2 hr2 => ?_)
        refine pz_wp_ok (pz_Is_ok SX8_fewest) [45] 100 ?_
        rw [← hs] at e
        refine qT (ih (k + 1) (by omega) σ' A2 y7 y8 ho2 hr2 e) ?_ rfl rfl
        rw [← nI_1 k]
        rfl
    · rw [f_bq, if_neg g] at e
      refine br1 (fun z => z (nI_le (by omega) (by omega))) ?_
      subst e
      exact tP_path171 hb hbn hr h _ _ _ _
set_option maxRecDepth 8000 in
theorem tP_path3 {a b p : Int32} {an bn : Nat} (ha : a = nI an) (han : an < 36) (hb : b = nI bn) (hbn : bn < 36) (h : ∀ A' : qA, qag [6, 7] A A' → Q (some (.int (f_orn ((f_bq (A 0) p 36 0 (f_b0 an)).1 bn)))) (mem A' F X)) : ∀ (d k : Nat), k + d = 36 → ∀ (f : Nat → Int32), (∀ c, c < k → f c = -1000000005) → pz_T z0 KX8_fewest Q 3 (0, 0) [some (.ref 40), some (.ref 7), some (.int a), some (.int b), some (.int p), some (.int (nI k)), none, none, none] [] (mem (va_up A 6 f) F X) := by
  intro d
  induction d with
  | zero =>
    intro k hk f hf
    have hk : k = 36 := by omega
    subst hk
    refine pz_wp_ok (pz_Is_ok SX8_fewest) [3, 45] 100 ?_
    refine br1 (fun z => z (nI_le (Nat.le_refl _) (by omega))) ?_
    refine ⟨qin an ha (by omega) (by omega), ?_⟩
    refine ⟨qin 0 rfl (by omega) (by omega), ?_⟩
    have ca := qcl an ha (by omega)
    refine qT (tP_path45 (A := A) (p := p) hb hbn h 36 0 (by omega) (f_b0 an) (va_up (va_up (va_up A 6 f) 6 (upd f an 0)) 7 (upd (A 7) 0 (nI an))) none none (okB_0 han) ⟨?_, fun c hc => ?_, fun i hi => ?_⟩ rfl) rfl rfl ?_
    · exact (qag.up (by simp)).trans ((qag.up (by simp)).trans (qag.up (by simp)))
    · rw [vu_ne _ _ (by omega), vu_at]
      show upd f an 0 c = f_orn (if c = an then some 0 else none)
      by_cases e : c = an
      · rw [if_pos e, e, upd_at]; rfl
      · rw [if_neg e, upd_ne _ _ e]; exact hf c hc
    · have hi : i < 1 := hi
      have : i = 0 := by omega
      subst this
      rw [vu_at, upd_at]
      rfl
    · rw [← ha, ← ca]
      rfl
  | succ d ih =>
    intro k hk f hf
    refine pz_wp_ok (pz_Is_ok SX8_fewest) [3, 45] 100 ?_
    refine br2 (n_ge (b := 36) (by omega) (by omega) (by omega)) ?_
    refine ⟨qin k rfl (by omega) (by omega), ?_⟩
    have ck : (nI k).toNatClampNeg = k := nI_clamp (by omega)
    have hh := ih (k + 1) (by omega) (upd f k (-1000000005)) (fun c hc => by
      by_cases e : c = k
      · rw [e, upd_at]
      · rw [upd_ne _ _ e]; exact hf c (by omega))
    rw [← vu_vu A 6 f] at hh
    refine qT hh ?_ rfl ?_
    · rw [← nI_1 k]; rfl
    · rw [ck]
      rfl
set_option maxRecDepth 8000 in
theorem cW_fewest {a b p : Int32} {an bn : Nat} (ha : a = nI an) (han : an < 36) (hb : b = nI bn) (hbn : bn < 36) (h : ∀ A' : qA, qag [6, 7] A A' → Q (some (.int (f_orn ((f_bq (A 0) p 36 0 (f_b0 an)).1 bn)))) (mem A' F X)) : pz_C yX8_fewest KX8_fewest [.ref 40, .ref 7, .int a, .int b, .int p] (mem A F X) Q := by
  refine pz_C_of rfl rfl rfl (Nat.le_of_ble_eq_true rfl) (pz_wp_ok (pz_Is_ok SX8_fewest) [3] 100 ?_)
  have hh := tP_path3 ha han hb hbn h 36 0 (by omega) (A 6) (fun c hc => absurd hc (Nat.not_lt_zero _))
  rw [vu_s] at hh
  exact hh
set_option maxRecDepth 8000 in
theorem cP_path {a b p : Int32} (h : ∀ A' : qA, qag [6, 7] A A' → Q (some (.int (s_path (A 0) a b p))) (mem A' F X)) : pz_C yX9_path KX9_path [.ref 0, .int a, .int b, .int p] (mem A F X) Q := by
  refine pz_C_of rfl rfl rfl (Nat.le_of_ble_eq_true rfl) (pz_wp_ok (pz_Is_ok SX9_path) [] 100 ?_)
  unfold s_path at h
  refine cP_isCell (fun g1 => ?_) (fun g1 => ?_)
  · refine br2 (by decide) ?_
    refine cP_isCell (fun g2 => ?_) (fun g2 => ?_)
    · refine br2 (by decide) ?_
      refine cP_within 0 9999 rfl rfl (fun g3 => ?_) (fun g3 => ?_)
      · refine br1 (by decide) ?_
        rw [if_pos ⟨g1, g2, g3⟩] at h
        obtain ⟨a1, a2, a3⟩ := qI (m := 36) g1 (by omega)
        obtain ⟨b1, b2, b3⟩ := qI (m := 36) g2 (by omega)
        exact cW_fewest a1 a2 b1 b2 h
      · refine br2 (fun z => z rfl) ?_
        rw [if_neg (fun z => g3 z.2.2)] at h
        exact h A (qag.refl _ A)
    · refine br1 (fun z => z rfl) ?_
      rw [if_neg (fun z => g2 z.2.1)] at h
      exact h A (qag.refl _ A)
  · refine br1 (fun z => z rfl) ?_
    rw [if_neg (fun z => g1 z.1)] at h
    exact h A (qag.refl _ A)
end POT
