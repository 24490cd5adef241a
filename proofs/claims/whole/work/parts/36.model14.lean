/-! the reference: walled, enough, fee, fine -/
def f_feen (t : Nat → Int32) : Nat → Int32 := fun j => if j = 97 then f_sa t (f_n t) else f_sp t 36
def s_fee (t : Nat → Int32) : Int32 := match f_cnt t 1 (f_nt t) with
  | none => f_sa t (f_n t)
  | some i => f_val t (f_feen t) (142 + 200 * i) (f_m t i)
def f_finen (t : Nat → Int32) (e : Nat) : Nat → Int32 := fun j => if j = 97 then t (118 + 3 * e + 2) else t (118 + 3 * e + 1)
def s_fine (t : Nat → Int32) (e : Int32) : Int32 := if qIn 0 ((f_n t : Int) - 1) e then (match f_cnt t 2 (f_nt t) with
  | none => t (118 + 3 * e.toNatClampNeg + 2)
  | some i => f_val t (f_finen t e.toNatClampNeg) (142 + 200 * i) (f_m t i)) else BAD
section MOD
variable {A A1 : qA} {F : qF} {X : qX} {Q : pz_Q} {M : pz_M}
set_option maxRecDepth 8000 in
theorem tM_walled {c n w : Int32} {cn nn : Nat} (hc : c = nI cn) (hcn : cn < 36) (hn : n = nI nn) (hnn : nn < 2147483648) (hok : okS (A 20)) (h : ∀ A' : qA, qag [33, 35, 36] A A' → Q (some (.int (if w = 0 then (f_wal (A 20) cn nn 36).1 else (f_wal (A 20) cn nn 36).2))) (mem A' F X)) : ∀ (d k : Nat), k + d = 36 → ∀ A1 : qA, qby A A1 → A1 20 = A 20 → ∀ x7 : Option Value, pz_T z0 KX10_walled Q 45 (0, 0) [some (.ref 69), some (.int c), some (.int n), some (.int w), some (.int (f_wal (A 20) cn nn k).1), some (.int (f_wal (A 20) cn nn k).2), some (.int (nI k)), x7] [] (mem A1 F X) := by
  intro d
  induction d with
  | zero =>
    intro k hk A1 hb e1 x7
    have hk : k = 36 := by omega
    subst hk
    refine pz_wp_ok (pz_Is_ok SX10_walled) [45] 100 ?_
    refine br1 (fun z => z (nI_le (Nat.le_refl _) (by omega))) ?_
    refine ⟨fun g => ?_, fun g => ?_⟩
    · have g : ¬ w = 0 := g
      rw [if_neg g] at h
      exact h A1 (hb.end e1)
    · have g : w = 0 := g
      rw [if_pos g] at h
      exact h A1 (hb.end e1)
  | succ d ih =>
    intro k hk A1 hb e1 x7
    refine pz_wp_ok (pz_Is_ok SX10_walled) [45] 100 ?_
    refine br2 (n_ge (b := 36) (by omega) (by omega) (by omega)) ?_
    have ei : (46 : Int32) + nI k = nI (46 + k) := nI_add 46 k
    have ci := qcl _ ei (by omega)
    refine ⟨qin _ ei (by omega) (by omega), ?_⟩
    refine ⟨qin _ ei (by omega) (by omega), ?_⟩
    refine qC (cM_many' (A := A) (A1 := va_up A1 20 (upd (A1 20) (46 + k) (A1 20 (46 + k) + 5))) hn hnn (hb.up (by omega)) (by rw [vu_at, e1]; exact okS_wall hok (by omega) _) (fun A2 hb2 e2 => ?_)) rfl (by rw [← ci]; rfl)
    rw [vu_at, e1] at e2
    have ev : A2 20 (82 + cn) = f_walv (A 20) cn nn k := by rw [e2]; rfl
    refine cM_parts hc hcn ?_
    rw [ev]
    refine cM_laysBack' hb2 (fun A3 hb3 e3 => ?_)
    have ek : nI k + 1 = nI (k + 1) := nI_1 k
    have hw : f_wal (A 20) cn nn (k + 1) = if (f_wal (A 20) cn nn k).1 < 0 ∨ f_walv (A 20) cn nn k < (f_wal (A 20) cn nn k).2 then (nI k, f_walv (A 20) cn nn k) else f_wal (A 20) cn nn k := rfl
    have ih' := ih (k + 1) (by omega) A3 hb3 e3 (some (.int (f_walv (A 20) cn nn k)))
    rw [← ek] at ih'
    generalize f_wal (A 20) cn nn (k + 1) = w1 at hw ih'
    generalize f_wal (A 20) cn nn k = w0 at hw ⊢
    generalize f_walv (A 20) cn nn k = v at hw ih' ⊢
    refine ⟨fun g => ?_, fun g => ?_⟩
    · have g : w0.1 < 0 := g
      rw [if_pos (Or.inl g)] at hw
      subst hw
      exact ih'
    · have g : ¬ w0.1 < 0 := g
      refine ⟨fun g2 => ?_, fun g2 => ?_⟩
      · have g2 : w0.2 ≤ v := g2
        have g3 : ¬ v < w0.2 := fun z => by rw [i_lt] at z; rw [i_le] at g2; omega
        rw [if_neg (fun z => z.elim g g3)] at hw
        subst hw
        exact ih'
      · have g2 : ¬ w0.2 ≤ v := g2
        have g3 : v < w0.2 := by rw [i_lt]; rw [i_le] at g2; omega
        rw [if_pos (Or.inr g3)] at hw
        subst hw
        exact ih'
set_option maxRecDepth 8000 in
theorem cM_walled {c n w : Int32} (hok : okS (A 20)) (h : ∀ A' : qA, qag [33, 35, 36] A A' → Q (some (.int (s_walled (A 20) c n w))) (mem A' F X)) : pz_C yX10_walled KX10_walled [.ref 69, .int c, .int n, .int w] (mem A F X) Q := by
  refine pz_C_of rfl rfl rfl (Nat.le_of_ble_eq_true rfl) (pz_wp_ok (pz_Is_ok SX10_walled) [45] 100 ?_)
  unfold s_walled at h
  refine cM_isCell (fun g1 => ?_) (fun g1 => ?_)
  · refine br2 (by decide) ?_
    refine cM_isIn3 1 20 rfl rfl (fun g2 => ?_) (fun g2 => ?_)
    · refine br2 (by decide) ?_
      refine cM_isIn3 0 1 rfl rfl (fun g3 => ?_) (fun g3 => ?_)
      · refine br1 (by decide) ?_
        rw [if_pos ⟨g1, g2, g3⟩] at h
        obtain ⟨a1, a2, a3⟩ := qI (m := 36) g1 (by omega)
        obtain ⟨m, e, m1, m2⟩ := qIpos g2 (by omega)
        have em := qcl m e (by omega)
        rw [em] at h
        refine cM_laysBy' (fun A1 hb e1 => ?_)
        exact tM_walled a1 a2 e (by omega) hok h 36 0 (by omega) A1 hb e1 none
      · refine br2 (fun z => z rfl) ?_
        rw [if_neg (fun z => g3 z.2.2)] at h
        exact h A (qag.refl _ A)
    · refine br1 (fun z => z rfl) ?_
      rw [if_neg (fun z => g2 z.2.1)] at h
      exact h A (qag.refl _ A)
  · refine br1 (fun z => z rfl) ?_
    rw [if_neg (fun z => g1 z.1)] at h
    exact h A (qag.refl _ A)
set_option maxRecDepth 8000 in
theorem tM_enough_end {c n x y : Int32} (h : ∀ A' : qA, qag [33, 35, 36] A A' → Q (some (.int (if x < 0 then -1000000005 else x))) (mem A' F X)) {A1 : qA} (hb : qby A A1) (e1 : A1 20 = A 20) : pz_T z0 KX10_enough Q 86 (0, 0) [some (.ref 69), some (.int c), some (.int n), some (.int x), some (.int y)] [] (mem A1 F X) := by
  refine pz_wp_ok (pz_Is_ok SX10_enough) [] 100 ?_
  exact cM_orNone (h A1 (hb.end e1))
set_option maxRecDepth 8000 in
theorem tM_enough {c n r : Int32} {cn nn : Nat} (hc : c = nI cn) (hcn : cn < 36) (hn : n = nI nn) (hnn : nn < 1000) (hok : okS (A 20)) (h : ∀ A' : qA, qag [33, 35, 36] A A' → Q (some (.int (if r < 0 then -1000000005 else r))) (mem A' F X)) : ∀ k : Nat, k ≤ nn + 1 → r = f_en (A 20) cn nn k → ∀ A1 : qA, qby A A1 → A1 20 = A 20 → pz_T z0 KX10_enough Q 31 (0, 0) [some (.ref 69), some (.int c), some (.int n), some (.int (-1)), some (.int (e_dec k))] [] (mem A1 F X) := by
  intro k
  induction k with
  | zero =>
    intro hk hr A1 hb e1
    refine pz_wp_ok (pz_Is_ok SX10_enough) [31, 86] 100 ?_
    refine br1 (fun z => z (by decide)) ?_
    subst hr
    exact tM_enough_end h hb e1
  | succ k ih =>
    intro hk hr A1 hb e1
    refine pz_wp_ok (pz_Is_ok SX10_enough) [31, 86] 100 ?_
    have hp : ¬ nI k < 0 := by
      have := nI_pos' (n := k) (by omega)
      rw [i_lt]; rw [i_le] at this; omega
    refine br2 hp ?_
    refine br2 (by decide) ?_
    refine cM_many' (n := k) rfl (by omega) hb (by rw [e1]; exact hok) (fun A2 hb2 e2 => ?_)
    rw [e1] at e2
    refine ⟨qin 4 rfl (by omega) (by omega), ?_⟩
    have es : n - nI k = nI (nn - k) := by rw [hn]; exact nI_sub1 (by omega)
    refine qC (cM_many' (A := A) (A1 := va_up A2 20 (upd (A2 20) 4 0)) (n := nn - k) es (by omega) (hb2.up (by omega)) (by rw [vu_at, e2]; exact okS_cooks (okS_it hok k)) (fun A3 hb3 e3 => ?_)) rfl rfl
    rw [vu_at, e2] at e3
    refine cM_parts hc hcn ?_
    rw [e3]
    rw [f_en] at hr
    refine ⟨fun g => ?_, fun g => ?_⟩
    · have g : ¬ f_it (nn - k) (upd (f_it k (A 20)) 4 0) (82 + cn) = 0 := g
      rw [if_neg g] at hr
      refine cM_laysBack' hb3 (fun A4 hb4 e4 => ?_)
      refine qT (ih (by omega) hr A4 hb4 e4) ?_ rfl rfl
      rw [← e_dec_s k]
      rfl
    · have g : f_it (nn - k) (upd (f_it k (A 20)) 4 0) (82 + cn) = 0 := g
      rw [if_pos g] at hr
      refine cM_laysBack' hb3 (fun A4 hb4 e4 => ?_)
      refine qT (L' := [some (.ref 69), some (.int c), some (.int n), some (.int r), some (.int (e_dec k))]) ?_ (by rw [← e_dec_s k, hr]; rfl) rfl rfl
      refine pz_wp_ok (pz_Is_ok SX10_enough) [86] 100 ?_
      refine ⟨fun g => ?_, fun g => ?_⟩
      · exact tM_enough_end h hb4 e4
      · refine br1 (fun z => z (by rw [hr]; exact nI_pos' (by omega))) ?_
        exact tM_enough_end h hb4 e4
set_option maxRecDepth 8000 in
theorem cM_enough {c n : Int32} (hok : okS (A 20)) (h : ∀ A' : qA, qag [33, 35, 36] A A' → Q (some (.int (s_enough (A 20) c n))) (mem A' F X)) : pz_C yX10_enough KX10_enough [.ref 69, .int c, .int n] (mem A F X) Q := by
  refine pz_C_of rfl rfl rfl (Nat.le_of_ble_eq_true rfl) (pz_wp_ok (pz_Is_ok SX10_enough) [31] 100 ?_)
  unfold s_enough at h
  refine cM_isCell (fun g1 => ?_) (fun g1 => ?_)
  · refine br2 (by decide) ?_
    refine cM_isIn3 0 40 rfl rfl (fun g2 => ?_) (fun g2 => ?_)
    · refine br1 (by decide) ?_
      rw [if_pos ⟨g1, g2⟩] at h
      obtain ⟨a1, a2, a3⟩ := qI (m := 36) g1 (by omega)
      obtain ⟨b1, b2, b3⟩ := qI (m := 41) g2 (by omega)
      refine cM_laysBy' (fun A1 hb e1 => ?_)
      refine qT (tM_enough a1 a2 b1 (by omega) hok h (n.toNatClampNeg + 1) (by omega) rfl A1 hb e1) ?_ rfl rfl
      rw [e_dec, ← b1]
      rfl
    · refine br2 (fun z => z rfl) ?_
      rw [if_neg (fun z => g2 z.2)] at h
      exact h A (qag.refl _ A)
  · refine br1 (fun z => z rfl) ?_
    rw [if_neg (fun z => g1 z.1)] at h
    exact h A (qag.refl _ A)
end MOD
