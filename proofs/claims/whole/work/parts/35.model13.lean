/-! the reference: wets, deepest, walled, enough -/
theorem i_ge0 (x : Int32) : ¬ (0 : Int32) ≤ x ↔ x < 0 := by rw [i_lt, i_le]; omega
theorem i_gt0 (x : Int32) : ¬ (0 : Int32) < x ↔ x ≤ 0 := by rw [i_lt, i_le]; omega
def e_dec : Nat → Int32
  | 0 => -1
  | r + 1 => nI r
theorem e_dec_s : ∀ k : Nat, nI k + (-1) = e_dec k
  | 0 => rfl
  | k + 1 => by
    have : nI (k + 1) - nI 1 = nI k := nI_sub1 (by omega)
    exact (Int32.sub_eq_add_neg (nI (k + 1)) (nI 1)).symm.trans this
section MOD
variable {A A1 : qA} {F : qF} {X : qX} {Q : pz_Q} {M : pz_M}
set_option maxRecDepth 8000 in
theorem tM_wets_end {c x : Int32} {k : Nat} (h : ∀ A' : qA, qag [33, 35, 36] A A' → Q (some (.int (if x < 0 then -1000000005 else x))) (mem A' F X)) {A1 : qA} (hb : qby A A1) : pz_T z0 KX10_wets Q 54 (0, 0) [some (.ref 69), some (.int c), some (.int x), some (.int (nI k))] [] (mem A1 F X) := by
  refine pz_wp_ok (pz_Is_ok SX10_wets) [] 100 ?_
  refine cM_laysBack' hb (fun A3 hb3 e3 => ?_)
  exact cM_orNone (h A3 (hb3.end e3))
set_option maxRecDepth 8000 in
theorem tM_wets {c r : Int32} {cn : Nat} (hc : c = nI cn) (hcn : cn < 36) (h : ∀ A' : qA, qag [33, 35, 36] A A' → Q (some (.int (if r < 0 then -1000000005 else r))) (mem A' F X)) : ∀ (d k : Nat), k + d = 201 → ∀ A1 : qA, qby A A1 → okS (A1 20) → r = f_wets cn d k (A1 20) → pz_T z0 KX10_wets Q 18 (0, 0) [some (.ref 69), some (.int c), some (.int (-1)), some (.int (nI k))] [] (mem A1 F X) := by
  intro d
  induction d with
  | zero =>
    intro k hk A1 hb hok hr
    have hk : k = 201 := by omega
    subst hk
    refine pz_wp_ok (pz_Is_ok SX10_wets) [18, 54] 100 ?_
    refine br1 (fun z => z (by decide)) ?_
    subst hr
    exact tM_wets_end h hb
  | succ d ih =>
    intro k hk A1 hb hok hr
    refine pz_wp_ok (pz_Is_ok SX10_wets) [18, 54] 100 ?_
    have hk2 : ¬ (200 : Int32) < nI k := fun z => by
      have z := (i_lt _ _).mp z
      rw [nIi (by omega)] at z
      have : (200 : Int32).toInt = 200 := rfl
      omega
    refine br2 hk2 ?_
    refine br2 (by decide) ?_
    refine cM_parts hc hcn ?_
    rw [f_wets] at hr
    have ek : nI k + 1 = nI (k + 1) := nI_1 k
    refine ⟨fun g => ?_, fun g => ?_⟩
    · have g : A1 20 (82 + cn) ≤ 0 := g
      rw [if_pos g] at hr
      refine cM_many' (n := 1) rfl (by omega) hb hok (fun A2 hb2 e2 => ?_)
      refine qT (ih (k + 1) (by omega) A2 hb2 (by rw [e2]; exact okS_it hok 1) (by rw [e2]; exact hr)) ?_ rfl rfl
      rw [← ek]
      rfl
    · have g : ¬ A1 20 (82 + cn) ≤ 0 := g
      rw [if_neg g] at hr
      refine cM_many' (n := 1) rfl (by omega) hb hok (fun A2 hb2 e2 => ?_)
      refine qT (L' := [some (.ref 69), some (.int c), some (.int r), some (.int (nI (k + 1)))]) ?_ (by rw [← ek, hr]; rfl) rfl rfl
      refine pz_wp_ok (pz_Is_ok SX10_wets) [54] 100 ?_
      refine ⟨fun g => ?_, fun g => ?_⟩
      · exact tM_wets_end h hb2
      · refine br1 (fun z => z (by rw [hr]; exact nI_pos' (by omega))) ?_
        exact tM_wets_end h hb2
set_option maxRecDepth 8000 in
theorem cM_wets {c : Int32} (hok : okS (A 20)) (h : ∀ A' : qA, qag [33, 35, 36] A A' → Q (some (.int (s_wets (A 20) c))) (mem A' F X)) : pz_C yX10_wets KX10_wets [.ref 69, .int c] (mem A F X) Q := by
  refine pz_C_of rfl rfl rfl (Nat.le_of_ble_eq_true rfl) (pz_wp_ok (pz_Is_ok SX10_wets) [18] 100 ?_)
  unfold s_wets at h
  refine cM_isCell (fun g1 => ?_) (fun g1 => ?_)
  · refine br1 (by decide) ?_
    rw [if_pos g1] at h
    obtain ⟨a1, a2, a3⟩ := qI (m := 36) g1 (by omega)
    refine cM_laysBy' (fun A1 hb e1 => ?_)
    exact tM_wets a1 a2 h 201 0 (by omega) A1 hb (by rw [e1]; exact hok) (by rw [e1])
  · refine br2 (fun z => z rfl) ?_
    rw [if_neg g1] at h
    exact h A (qag.refl _ A)
set_option maxRecDepth 8000 in
theorem tM_deepest {n w : Int32} (hb : qby A A1) (h : ∀ A' : qA, qag [33, 35, 36] A A' → Q (some (.int (if w = 0 then nI (f_best (A1 20) 36) else A1 20 (82 + f_best (A1 20) 36)))) (mem A' F X)) : ∀ (d c : Nat), c + d = 36 → pz_T z0 KX10_deepest Q 39 (0, 0) [some (.ref 69), some (.int n), some (.int w), some (.int (nI (f_best (A1 20) c))), some (.int (nI c))] [] (mem A1 F X) := by
  intro d
  induction d with
  | zero =>
    intro c hc
    have hc : c = 36 := by omega
    subst hc
    refine pz_wp_ok (pz_Is_ok SX10_deepest) [39] 100 ?_
    refine br1 (fun z => z (nI_le (Nat.le_refl _) (by omega))) ?_
    have hl : f_best (A1 20) 36 < 36 := by
      have := f_best_lt (A1 20) 35
      rw [f_best]
      by_cases h : A1 20 (82 + 35) ≤ A1 20 (82 + f_best (A1 20) 35)
      · rw [if_pos h]; omega
      · rw [if_neg h]; omega
    refine cM_parts rfl hl ?_
    refine cM_laysBack' hb (fun A3 hb3 e3 => ?_)
    refine ⟨fun g => ?_, fun g => ?_⟩
    · have g : ¬ w = 0 := g
      rw [if_neg g] at h
      exact h A3 (hb3.end e3)
    · have g : w = 0 := g
      rw [if_pos g] at h
      exact h A3 (hb3.end e3)
  | succ d ih =>
    intro c hc
    refine pz_wp_ok (pz_Is_ok SX10_deepest) [39] 100 ?_
    refine br2 (n_ge (b := 36) (by omega) (by omega) (by omega)) ?_
    refine cM_parts rfl (by omega) ?_
    have hl := f_best_lt (A1 20) c
    refine cM_parts rfl (by omega) ?_
    have ek : nI c + 1 = nI (c + 1) := nI_1 c
    refine ⟨fun g => ?_, fun g => ?_⟩
    · have g : A1 20 (82 + c) ≤ A1 20 (82 + f_best (A1 20) c) := g
      refine qT (ih (c + 1) (by omega)) ?_ rfl rfl
      rw [f_best, if_pos g, ← ek]
      rfl
    · have g : ¬ A1 20 (82 + c) ≤ A1 20 (82 + f_best (A1 20) c) := g
      refine qT (ih (c + 1) (by omega)) ?_ rfl rfl
      rw [f_best, if_neg g, ← ek]
      rfl
set_option maxRecDepth 8000 in
theorem cM_deepest {n w : Int32} (hok : okS (A 20)) (h : ∀ A' : qA, qag [33, 35, 36] A A' → Q (some (.int (s_deepest (A 20) n w))) (mem A' F X)) : pz_C yX10_deepest KX10_deepest [.ref 69, .int n, .int w] (mem A F X) Q := by
  refine pz_C_of rfl rfl rfl (Nat.le_of_ble_eq_true rfl) (pz_wp_ok (pz_Is_ok SX10_deepest) [39] 100 ?_)
  unfold s_deepest at h
  refine cM_isIn3 0 60 rfl rfl (fun g1 => ?_) (fun g1 => ?_)
  · refine br2 (by decide) ?_
    refine cM_isIn3 0 1 rfl rfl (fun g2 => ?_) (fun g2 => ?_)
    · refine br1 (by decide) ?_
      rw [if_pos ⟨g1, g2⟩] at h
      obtain ⟨a1, a2, a3⟩ := qI (m := 61) g1 (by omega)
      refine cM_laysBy' (fun A1 hb e1 => ?_)
      refine cM_many' a1 (by omega) hb (by rw [e1]; exact hok) (fun A2 hb2 e2 => ?_)
      rw [e1] at e2
      rw [← e2] at h
      have hb1 : f_best (A2 20) 1 = 0 := by
        have hle : ∀ x : Int32, x ≤ x := fun x => by rw [i_le]; omega
        rw [f_best]
        exact if_pos (hle _)
      have hh := tM_deepest (n := n) hb2 h 35 1 (by omega)
      rw [hb1] at hh
      exact hh
    · refine br2 (fun z => z rfl) ?_
      rw [if_neg (fun z => g2 z.2)] at h
      exact h A (qag.refl _ A)
  · refine br1 (fun z => z rfl) ?_
    rw [if_neg (fun z => g1 z.1)] at h
    exact h A (qag.refl _ A)
end MOD
