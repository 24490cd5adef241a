/-! the reference: check; towns whose texts are alike -/
theorem f_run_cg {t t' nm : Nat → Int32} {b : Nat} (h : ∀ j, b ≤ j → j < b + 200 → t' j = t j) : ∀ k, k ≤ 96 → f_run t' nm b k = f_run t nm b k
  | 0, _ => rfl
  | k + 1, hk => by rw [f_run, f_run, f_run_cg h k (by omega), h _ (by omega) (by omega), h _ (by omega) (by omega)]
theorem okText_cg {t t' : Nat → Int32} {b m : Nat} (h : ∀ j, b ≤ j → j < b + 200 → t' j = t j) (ho : okText t b m) : okText t' b m := by
  obtain ⟨o1, o2, o3, o4, o5⟩ := ho
  refine ⟨by rw [h _ (by omega) (by omega)]; exact o1, o2, fun k hk => ?_, fun nm k hk => by rw [f_run_cg h k (by omega)]; exact o4 nm k hk, fun nm => by rw [f_run_cg h m o2]; exact o5 nm⟩
  unfold okStep
  rw [h _ (by omega) (by omega), h _ (by omega) (by omega)]
  exact o3 k hk
theorem okTx_cg {t t' : Nat → Int32} {b : Nat} (h : ∀ j, b ≤ j → j < b + 200 → t' j = t j) (ho : okTx t b) : okTx t' b := by
  obtain ⟨m, key, o1, o2, o3, o4⟩ := ho
  have := o1.2.1
  refine ⟨m, key, okText_cg h o1, o2, by rw [h _ (by omega) (by omega)]; exact o3, fun k hk hw => ?_⟩
  rw [h _ (by omega) (by omega)] at hw ⊢
  exact o4 k hk hw
theorem okTxs_cg {t t' : Nat → Int32} (h1 : t' 1 = t 1) (h : ∀ j, 142 ≤ j → j < 2942 → t' j = t j) (ho : okTxs t) : okTxs t' := by
  obtain ⟨n, o1, o2, o3⟩ := ho
  exact ⟨n, o1, by rw [h1]; exact o2, fun i hi => okTx_cg (fun j a b => h j (by omega) (by omega)) (o3 i hi)⟩
theorem okS_cg {t t' : Nat → Int32} (h : ∀ j, j < 2942 → t' j = t j) (ho : okS t) : okS t' := by
  obtain ⟨o1, o2, o3, o4, o5, o6⟩ := ho
  exact ⟨by rw [h 0 (by omega)]; exact o1, okTxs_cg (h 1 (by omega)) (fun j _ hj => h j hj) o2, by rw [h 3 (by omega)]; exact o3, by rw [h 4 (by omega)]; exact o4, by rw [h 8 (by omega)]; exact o5, fun k hk => by rw [h _ (by omega)]; exact o6 k hk⟩
/-- what a row tells at place j -/
def f_due (t : Nat → Int32) (j : Nat) : Int32 := if j % 2 = 0 then f_sp (f_it (j / 2 + 1) t) 36 else f_sa (f_it (j / 2 + 1) t) (f_n t)
/-- how many minutes go by -/
def f_cn (t : Nat → Int32) : Nat → Nat → Nat
  | 0, k => k
  | d + 1, k => if f_it k t 2 < 9999 then f_cn t d (k + 1) else k
theorem f_cn_le (t : Nat → Int32) : ∀ d k, f_cn t d k ≤ d + k
  | 0, k => by rw [f_cn]; omega
  | d + 1, k => by
    rw [f_cn]
    have := f_cn_le t d (k + 1)
    by_cases h : f_it k t 2 < 9999
    · rw [if_pos h]; omega
    · rw [if_neg h]; omega
def f_cmp (w due : Nat → Int32) (many tot : Nat) : Nat → Nat → Nat
  | 0, k => k
  | d + 1, k => if k < many ∧ k < tot ∧ w k = due k then f_cmp w due many tot d (k + 1) else k
theorem f_cmp_cg {w due due' : Nat → Int32} {many tot : Nat} (h : ∀ j, j < tot → due j = due' j) : ∀ d k, f_cmp w due many tot d k = f_cmp w due' many tot d k
  | 0, k => rfl
  | d + 1, k => by
    rw [f_cmp, f_cmp, f_cmp_cg h d (k + 1)]
    by_cases g : k < tot
    · rw [h k g]
    · rw [if_neg (fun z => g z.2.1), if_neg (fun z => g z.2.1)]
def f_cend (k many tot : Nat) : Int32 := if k = many ∧ k = tot then 0 else nI (1 + k)
def s_check (w : Nat → Int32) (many : Nat) (t : Nat → Int32) (n : Nat) : Int32 := f_cend (f_cmp w (f_due t) many (2 * f_cn t n 0) 61 0) many (2 * f_cn t n 0)
theorem f_n_it {t : Nat → Int32} (h : okS t) (k : Nat) : f_n (f_it k t) = f_n t := by unfold f_n; rw [f_it_out h k (by omega)]
section MOD
variable {A A1 : qA} {F : qF} {X : qX} {Q : pz_Q} {M : pz_M}
set_option maxRecDepth 8000 in
theorem tM_check3 {k many tot : Nat} (hk : k < 1000) (hm : many < 1000) (ht : tot < 1000) {x0 x1 : Option Value} (h : Q (some (.int (f_cend k many tot))) (mem A F X)) : pz_T z0 KX10_check Q 168 (0, 0) [x0, x1, some (.int (nI many)), some (.int (nI tot)), some (.int (nI k))] [] (mem A F X) := by
  refine pz_wp_ok (pz_Is_ok SX10_check) [] 100 ?_
  unfold f_cend at h
  have e : (1 : Int32) + nI k = nI (1 + k) := nI_add 1 k
  refine ⟨fun g => ?_, fun g => ?_⟩
  · have g : ¬ nI k = nI many := g
    rw [if_neg (fun z => g (by rw [z.1])), ← e] at h
    exact h
  · have g : nI k = nI many := g
    have g := (nI_eq (by omega) (by omega)).mp g
    refine ⟨fun g2 => ?_, fun g2 => ?_⟩
    · have g2 : ¬ nI k = nI tot := g2
      rw [if_neg (fun z => g2 (by rw [z.2])), ← e] at h
      exact h
    · have g2 : nI k = nI tot := g2
      have g2 := (nI_eq (by omega) (by omega)).mp g2
      rw [if_pos ⟨g, g2⟩] at h
      exact h
set_option maxRecDepth 8000 in
theorem tM_check2 {many tot r : Nat} (hm : many ≤ 60) (ht : tot ≤ 60) {x1 : Option Value} (h : Q (some (.int (f_cend r many tot))) (mem A F X)) : ∀ (d k : Nat), k + d = 61 → k ≤ 60 → r = f_cmp (A 38) (A 39) many tot d k → pz_T z0 KX10_check Q 133 (0, 0) [some (.ref 69), x1, some (.int (nI many)), some (.int (nI tot)), some (.int (nI k))] [] (mem A F X) := by
  intro d
  induction d with
  | zero => intro k hk hk2; omega
  | succ d ih =>
    intro k hk hk2 hr
    rw [f_cmp] at hr
    refine pz_wp_ok (pz_Is_ok SX10_check) [133, 168] 100 ?_
    by_cases g1 : k < many
    · refine br2 (n_ge (by omega) (by omega) g1) ?_
      by_cases g2 : k < tot
      · refine br2 (n_ge (by omega) (by omega) g2) ?_
        refine ⟨qin k rfl (by omega) (by omega), ?_⟩
        refine ⟨qin k rfl (by omega) (by omega), ?_⟩
        have ck := qcl (x := nI k) k rfl (by omega)
        refine ⟨fun g => ?_, fun g => ?_⟩
        · have g : ¬ A 38 (nI k).toNatClampNeg = A 39 (nI k).toNatClampNeg := g
          rw [ck] at g
          rw [if_neg (fun z => g z.2.2)] at hr
          subst hr
          exact tM_check3 (by omega) (by omega) (by omega) h
        · have g : A 38 (nI k).toNatClampNeg = A 39 (nI k).toNatClampNeg := g
          rw [ck] at g
          rw [if_pos ⟨g1, g2, g⟩] at hr
          exact qT (ih (k + 1) (by omega) (by omega) hr) (by rw [← nI_1 k]; rfl) rfl rfl
      · refine br1 (fun z => z (nI_le (by omega) (by omega))) ?_
        rw [if_neg (fun z => g2 z.2.1)] at hr
        subst hr
        exact tM_check3 (by omega) (by omega) (by omega) h
    · refine br1 (fun z => z (nI_le (by omega) (by omega))) ?_
      rw [if_neg (fun z => g1 z.1)] at hr
      subst hr
      exact tM_check3 (by omega) (by omega) (by omega) h
theorem f_due_e (t : Nat → Int32) (k : Nat) : f_due t (2 * k) = f_sp (f_it (k + 1) t) 36 := by
  unfold f_due
  rw [if_pos (by omega), show 2 * k / 2 = k by omega]
theorem f_due_o (t : Nat → Int32) (k : Nat) : f_due t (2 * k + 1) = f_sa (f_it (k + 1) t) (f_n t) := by
  unfold f_due
  rw [if_neg (by omega), show (2 * k + 1) / 2 = k by omega]
set_option maxRecDepth 8000 in
theorem tM_check1 {n r : Nat} (hn : n ≤ 30) {t0 : Nat → Int32} (hok : okS t0) {y2 : Int32} (h : ∀ (A' : qA) (x4 : Option Value), qag [20, 35, 36, 39] A A' → A' 20 = f_it r t0 → (∀ j, j < 2 * r → A' 39 j = f_due t0 j) → pz_T z0 KX10_check Q 118 (0, 0) [some (.ref 69), some (.int (nI n)), some (.int y2), some (.int (nI (2 * r))), x4] [] (mem A' F X)) : ∀ (d k : Nat), k + d = n → r = f_cn t0 d k → ∀ A1 : qA, qag [20, 35, 36, 39] A A1 → A1 20 = f_it k t0 → (∀ j, j < 2 * k → A1 39 j = f_due t0 j) → pz_T z0 KX10_check Q 64 (0, 0) [some (.ref 69), some (.int (nI n)), some (.int y2), some (.int (nI (2 * k))), some (.int (nI k))] [] (mem A1 F X) := by
  intro d
  induction d with
  | zero =>
    intro k hk hr A1 hA e1 hd
    have hk : k = n := by omega
    subst hk
    refine pz_wp_ok (pz_Is_ok SX10_check) [64, 118] 100 ?_
    refine br1 (fun z => z (nI_le (Nat.le_refl _) (by omega))) ?_
    rw [f_cn] at hr
    subst hr
    exact h A1 _ hA e1 hd
  | succ d ih =>
    intro k hk hr A1 hA e1 hd
    refine pz_wp_ok (pz_Is_ok SX10_check) [64, 118] 100 ?_
    refine br2 (n_ge (by omega) (by omega) (by omega)) ?_
    refine ⟨qin 2 rfl (by omega) (by omega), ?_⟩
    rw [f_cn, ← e1] at hr
    refine ⟨fun g => ?_, fun g => ?_⟩
    · have g : (9999 : Int32) ≤ A1 20 2 := g
      rw [if_neg (i_nlt.mpr g)] at hr
      subst hr
      exact h A1 _ hA e1 hd
    · have g : ¬ (9999 : Int32) ≤ A1 20 2 := g
      rw [if_pos (i_nle.mp g)] at hr
      have ok1 : okS (A1 20) := by rw [e1]; exact okS_it hok k
      refine cM_many (n := 1) rfl (by omega) ok1 (fun A2 hB e2 => ?_)
      have e2 : A2 20 = f_it (k + 1) t0 := by rw [e2, e1]; rfl
      have ok2 : okS (A2 20) := by rw [e2]; exact okS_it hok _
      obtain ⟨n1, n2⟩ := ok2.n
      have en : f_n (A2 20) = f_n t0 := by rw [e2]; exact f_n_it hok _
      have d1 := f_due_e t0 k
      have d2 := f_due_o t0 k
      rw [← e2] at d1 d2
      rw [← en] at d2
      refine cM_allParts ?_
      rw [← d1]
      generalize f_due t0 (2 * k) = v1 at d1 ⊢
      refine ⟨qin (2 * k) rfl (by omega) (by omega), ?_⟩
      have c1 := qcl (x := nI (2 * k)) (2 * k) rfl (by omega)
      rw [c1]
      refine qC (cM_allAte (A := va_up A2 39 (upd (A2 39) (2 * k) v1)) (F := F) (X := X) (n := f_n (A2 20)) n2 n1 ?_) rfl rfl
      have d2' : f_due t0 (2 * k + 1) = f_sa (va_up A2 39 (upd (A2 39) (2 * k) v1) 20) (f_n (A2 20)) := d2
      rw [← d2']
      have ei : nI (2 * k) + 1 = nI (2 * k + 1) := nI_1 _
      have c2 := qcl _ ei (by omega)
      refine ⟨qin _ ei (by omega) (by omega), ?_⟩
      rw [c2]
      have ek : nI k + 1 = nI (k + 1) := nI_1 k
      have e3 : nI (2 * k) + 2 = nI (2 * (k + 1)) := nI_add (2 * k) 2
      refine qT (ih (k + 1) (by omega) hr (va_up A2 39 (upd (upd (A2 39) (2 * k) v1) (2 * k + 1) (f_due t0 (2 * k + 1)))) ((hA.trans (hB.mono (by simp))).trans (qag.up (by simp))) (by rw [vu_ne _ _ (by omega)]; exact e2) (fun j hj => ?_)) (by rw [← ek, ← e3]; rfl) rfl ?_
      · rw [vu_at]
        by_cases g1 : j = 2 * k + 1
        · subst g1; exact upd_at _ _ _
        · rw [upd_ne _ _ g1]
          by_cases g2 : j = 2 * k
          · subst g2
            rw [upd_at, f_due_e, ← e2]
            exact d1
          · rw [upd_ne _ _ g2, hB 39 (by simp)]
            exact hd j (by omega)
      · refine (mem_39 _ _ _ _).trans ?_
        rw [vu_vu]
        rfl
set_option maxRecDepth 8000 in
theorem cM_check {n : Int32} {many : Nat} (hm : many ≤ 60) (hF : F 72 = nI many) (hI : ¬ F 60 = 0 → okS (A 21)) (h1 : ¬ qIn 1 30 n → Q (some (.int BAD)) (mem A (upd F 72 0) X)) (h2 : qIn 1 30 n → F 60 = 0 → Q (some (.int (-1000000002))) (mem A (upd F 72 0) X)) (h3 : qIn 1 30 n → ¬ F 60 = 0 → ∀ A' : qA, qag [22, 35, 36, 39] A A' → Q (some (.int (s_check (A 38) many (qcp 2942 (A 21) (A 20)) n.toNatClampNeg))) (mem A' (upd F 72 0) X)) : pz_C yX10_check KX10_check [.ref 69, .int n] (mem A F X) Q := by
  refine pz_C_of rfl rfl rfl (Nat.le_of_ble_eq_true rfl) (pz_wp_ok (pz_Is_ok SX10_check) [64] 100 ?_)
  refine cM_isIn3 1 30 rfl rfl (fun g => ?_) (fun g => ?_)
  · refine br1 (by decide) ?_
    obtain ⟨m, e, m1, m2⟩ := qIpos g (by omega)
    have em := qcl m e (by omega)
    refine ⟨fun g2 => ?_, fun g2 => ?_⟩
    · have g2 : ¬ F 60 = 0 := g2
      have h3 := h3 g g2
      rw [em] at h3
      have ok0 : okS (qcp 2942 (A 21) (A 20)) := okS_cg (fun j hj => if_pos hj) (hI g2)
      generalize ht0 : qcp 2942 (A 21) (A 20) = t0 at h3 ok0
      refine qC (cM_sa_sa (A := A) (F := upd F 72 0) (X := X) ?_) rfl rfl
      refine cM_sa_is ?_
      generalize hA1 : va_up (va_up A 22 (qcp 2942 (A 20) (A 22))) 20 (qcp 2942 (va_up A 22 (qcp 2942 (A 20) (A 22)) 21) (va_up A 22 (qcp 2942 (A 20) (A 22)) 20)) = A1
      have x20 : A1 20 = t0 := by rw [← hA1, vu_at, ← ht0]; rfl
      have x22 : ∀ j, j < 2942 → A1 22 j = A 20 j := fun j hj => by rw [← hA1, vu_ne _ _ (by omega), vu_at]; exact if_pos hj
      have xo : qag [20, 22] A A1 := by rw [← hA1]; exact (qag.up (by simp)).trans (qag.up (by simp))
      have hfin := f_cn_le t0 m 0
      have ep : ∀ j, 2942 ≤ j → t0 j = A 20 j := fun j hj => by rw [← ht0]; exact if_neg (by omega)
      clear hA1 ht0
      have hs : s_check (A 38) many t0 m = f_cend (f_cmp (A 38) (f_due t0) many (2 * f_cn t0 m 0) 61 0) many (2 * f_cn t0 m 0) := rfl
      rw [hs] at h3
      generalize hr : f_cn t0 m 0 = r at h3 hfin
      refine qT (tM_check1 (A := A1) (F := upd F 72 0) (X := X) (Q := Q) (n := m) (r := r) (t0 := t0) (y2 := F 72) (by omega) ok0 (fun A2 x4 hB e2 hd => ?_) m 0 (by omega) hr.symm A1 (qag.refl _ _) x20 (fun j hj => by omega)) (by rw [e]; rfl) rfl rfl
      refine pz_wp_ok (pz_Is_ok SX10_check) [133] 100 ?_
      refine cM_sa_as ?_
      have eback : qcp 2942 (A2 22) (A2 20) = A 20 := by
        funext j
        unfold qcp
        by_cases hj : j < 2942
        · rw [if_pos hj, hB 22 (by simp)]; exact x22 j hj
        · rw [if_neg hj, e2, f_it_out ok0 r (by omega)]; exact ep j (by omega)
      rw [eback]
      have e38 : va_up A2 20 (A 20) 38 = A 38 := by rw [vu_ne _ _ (by omega), hB 38 (by simp), xo 38 (by simp)]
      have e39 : f_cmp (A 38) (f_due t0) many (2 * r) 61 0 = f_cmp (va_up A2 20 (A 20) 38) (va_up A2 20 (A 20) 39) many (2 * r) 61 0 := by
        rw [e38]
        refine f_cmp_cg (fun j hj => ?_) 61 0
        rw [vu_ne _ _ (by omega)]
        exact (hd j hj).symm
      rw [hF]
      refine tM_check2 (A := va_up A2 20 (A 20)) (many := many) (tot := 2 * r) (r := f_cmp (A 38) (f_due t0) many (2 * r) 61 0) hm (by omega) (h3 _ (fun i hi => ?_)) 61 0 (by omega) (by omega) e39
      by_cases g20 : i = 20
      · subst g20; exact vu_at _ _ _
      · rw [vu_ne _ _ g20, hB i (by simp at hi ⊢; omega), xo i (by simp at hi ⊢; omega)]
    · exact h2 g g2
  · refine br2 (fun z => z rfl) ?_
    exact h1 g
end MOD
