/-! the reference: sheet -/
def f_cl (f : Nat → Int32) (b : Nat) : Nat → Nat → Int32
  | 0 => f
  | k + 1 => upd (f_cl f b k) (b + k) 0
def f_sz (so n : Int32) : Int32 := if 0 ≤ so then n else 0
def f_shA (A : qA) (s : Nat) (so n : Int32) : qA := va_up (va_up (va_up A 23 (upd (A 23) s so)) 24 (upd (A 24) s (f_sz so n))) 25 (f_cl (A 25) (24 * s) 24)
def s_sheet (A : qA) (s so n : Int32) : Int32 × qA := if qIn 0 3 s ∧ qIn (-1) 1 so ∧ ¬ (0 ≤ so ∧ 24 < n) then (if 0 ≤ so ∧ n < 0 then (-1000000014, A) else (f_sz so n, f_shA A s.toNatClampNeg so n)) else (BAD, A)
section MOD
variable {A A1 : qA} {F : qF} {X : qX} {Q : pz_Q} {M : pz_M}
set_option maxRecDepth 8000 in
theorem tM_sheet69 {s so n : Int32} {sn : Nat} (a1 : s = nI sn) (a2 : sn < 4) (h : Q (some (.int (A 24 sn))) (mem (va_up A 25 (f_cl (A 25) (24 * sn) 24)) F X)) : ∀ (d k : Nat), k + d = 24 → pz_T z0 KX10_sheet Q 69 (0, 0) [some (.ref 69), some (.int s), some (.int so), some (.int n), some (.int (nI k))] [] (mem (va_up A 25 (f_cl (A 25) (24 * sn) k)) F X) := by
  have cs := qcl sn a1 (by omega)
  intro d
  induction d with
  | zero =>
    intro k hk
    have hk : k = 24 := by omega
    subst hk
    refine pz_wp_ok (pz_Is_ok SX10_sheet) [69] 100 ?_
    refine br1 (fun z => z (nI_le (Nat.le_refl _) (by omega))) ?_
    refine ⟨qin sn a1 (by omega) (by omega), ?_⟩
    rw [← cs] at h
    rw [← cs]
    exact h
  | succ d ih =>
    intro k hk
    refine pz_wp_ok (pz_Is_ok SX10_sheet) [69] 100 ?_
    refine br2 (n_ge (b := 24) (by omega) (by omega) (by omega)) ?_
    have e := e_24 a1 (rfl : nI k = nI k)
    have ce := qcl _ e (by omega)
    refine ⟨qin _ e (by omega) (by omega), ?_⟩
    have hh := ih (k + 1) (by omega)
    rw [f_cl] at hh
    generalize f_cl (A 25) (24 * sn) k = f at hh ⊢
    rw [← ce, ← vu_vu A 25 f] at hh
    refine qT hh ?_ rfl rfl
    rw [← nI_1 k]
    rfl
set_option maxRecDepth 8000 in
theorem tM_sheet44 {s so n : Int32} {sn : Nat} (a1 : s = nI sn) (a2 : sn < 4) (h : Q (some (.int (f_sz so n))) (mem (f_shA A sn so n) F X)) : pz_T z0 KX10_sheet Q 44 (0, 0) [some (.ref 69), some (.int s), some (.int so), some (.int n), none] [] (mem A F X) := by
  have cs := qcl sn a1 (by omega)
  refine pz_wp_ok (pz_Is_ok SX10_sheet) [69] 100 ?_
  refine ⟨qin sn a1 (by omega) (by omega), ?_⟩
  have fin : ∀ z : Int32, z = f_sz so n → pz_T z0 KX10_sheet Q 69 (0, 0) [some (.ref 69), some (.int s), some (.int so), some (.int n), some (.int 0)] [] (mem (va_up (va_up A 23 (upd (A 23) sn so)) 24 (upd (A 24) sn z)) F X) := fun z hz => by
    have hh := tM_sheet69 (A := va_up (va_up A 23 (upd (A 23) sn so)) 24 (upd (A 24) sn z)) (F := F) (X := X) (Q := Q) (so := so) (n := n) a1 a2 (by
      rw [vu_at, upd_at, hz]
      exact h) 24 0 (by omega)
    rw [f_cl, vu_s] at hh
    exact hh
  rw [← cs] at fin
  unfold f_sz at fin
  refine ⟨fun g => ?_, fun g => ?_⟩
  · have g : 0 ≤ so := g
    rw [if_pos g] at fin
    exact ⟨qin sn a1 (by omega) (by omega), fin n rfl⟩
  · have g : ¬ 0 ≤ so := g
    rw [if_neg g] at fin
    exact ⟨qin sn a1 (by omega) (by omega), fin 0 rfl⟩
set_option maxRecDepth 8000 in
theorem cM_sheet {s so n : Int32} (h : Q (some (.int (s_sheet A s so n).1)) (mem (s_sheet A s so n).2 F X)) : pz_C yX10_sheet KX10_sheet [.ref 69, .int s, .int so, .int n] (mem A F X) Q := by
  refine pz_C_of rfl rfl rfl (Nat.le_of_ble_eq_true rfl) (pz_wp_ok (pz_Is_ok SX10_sheet) [32, 44] 100 ?_)
  unfold s_sheet at h
  refine cM_isSheet (fun g1 => ?_) (fun g1 => ?_)
  · refine br2 (by decide) ?_
    refine cM_isIn3 (-1) 1 rfl rfl (fun g2 => ?_) (fun g2 => ?_)
    · refine br2 (by decide) ?_
      obtain ⟨a1, a2, a3⟩ := qI (m := 4) g1 (by omega)
      have fin : ¬ (0 ≤ so ∧ 24 < n) → pz_T z0 KX10_sheet Q 32 (0, 0) [some (.ref 69), some (.int s), some (.int so), some (.int n), none] [] (mem A F X) := fun y => by
        rw [if_pos ⟨g1, g2, y⟩] at h
        refine pz_wp_ok (pz_Is_ok SX10_sheet) [44] 100 ?_
        refine ⟨fun g => ?_, fun g => ?_⟩
        · have g : so < 0 := g
          rw [if_neg (fun z => i_nlt.mpr z.1 g)] at h
          exact tM_sheet44 a1 a2 h
        · have g : ¬ so < 0 := g
          refine ⟨fun g3 => ?_, fun g3 => ?_⟩
          · have g3 : 0 ≤ n := g3
            rw [if_neg (fun z => i_nlt.mpr g3 z.2)] at h
            exact tM_sheet44 a1 a2 h
          · have g3 : ¬ 0 ≤ n := g3
            rw [if_pos ⟨i_nlt.mp g, i_nle.mp g3⟩] at h
            exact h
      refine ⟨fun g => ?_, fun g => ?_⟩
      · have g : so < 0 := g
        exact fin (fun z => i_nlt.mpr z.1 g)
      · have g : ¬ so < 0 := g
        refine ⟨fun g3 => ?_, fun g3 => ?_⟩
        · have g3 : n ≤ 24 := g3
          exact fin (fun z => i_nle.mpr z.2 g3)
        · have g3 : ¬ n ≤ 24 := g3
          rw [if_neg (fun z => z.2.2 ⟨i_nlt.mp g, i_nle.mp g3⟩)] at h
          exact h
    · refine br1 (fun z => z rfl) ?_
      rw [if_neg (fun z => g2 z.2.1)] at h
      exact h
  · refine br1 (fun z => z rfl) ?_
    rw [if_neg (fun z => g1 z.1)] at h
    exact h
end MOD
