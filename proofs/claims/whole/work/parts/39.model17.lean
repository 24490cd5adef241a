/-! the reference: feed -/
def f_byte (v : Int32) (k : Nat) : Int32 := (v >>> ((24 - 8 * f_rem (nI k) 4) &&& 31)) &&& 255
def f_pick (a b c : Int32) (k : Nat) : Int32 := if 4 ≤ nI k then (if 8 ≤ nI k then c else b) else a
def f_fd (tp : Nat → Int32) (n : Nat) (a b c : Int32) : Nat → Nat → Int32
  | 0 => tp
  | k + 1 => upd (f_fd tp n a b c k) (n + k) (f_byte (f_pick a b c k) k)
section MOD
variable {A A1 : qA} {F : qF} {X : qX} {Q : pz_Q} {M : pz_M}
set_option maxRecDepth 8000 in
theorem tM_feed49 {a b c v : Int32} {n k : Nat} (hn : n + k < 96) (hF : F 61 = nI (n + k)) (h : pz_T z0 KX10_feed Q 18 (0, 0) [some (.ref 69), some (.int a), some (.int b), some (.int c), some (.int (nI (k + 1))), some (.int v)] [] (mem (va_up A 34 (upd (A 34) (n + k) (f_byte v k))) (upd F 61 (nI (n + k + 1))) X)) : pz_T z0 KX10_feed Q 49 (0, 0) [some (.ref 69), some (.int a), some (.int b), some (.int c), some (.int (nI k)), some (.int v)] [] (mem A F X) := by
  refine pz_wp_ok (pz_Is_ok SX10_feed) [18] 100 ?_
  refine ⟨by decide, ?_⟩
  refine ⟨qin (n + k) hF (by omega) (by omega), ?_⟩
  have ci := qcl _ hF (by omega)
  have e1 : F 61 + 1 = nI (n + k + 1) := by rw [hF]; exact nI_1 _
  have ek : nI k + 1 = nI (k + 1) := nI_1 k
  refine qT h (by rw [← ek]; rfl) rfl ?_
  rw [← e1, ← ci]
  rfl
set_option maxRecDepth 8000 in
theorem tM_feed {a b c : Int32} {n : Nat} (hn : n + 12 ≤ 96) (h : Q (some (.int (nI (n + 12)))) (mem (va_up A 34 (f_fd (A 34) n a b c 12)) (upd F 61 (nI (n + 12))) X)) : ∀ (d k : Nat), k + d = 12 → ∀ x5 : Option Value, pz_T z0 KX10_feed Q 18 (0, 0) [some (.ref 69), some (.int a), some (.int b), some (.int c), some (.int (nI k)), x5] [] (mem (va_up A 34 (f_fd (A 34) n a b c k)) (upd F 61 (nI (n + k))) X) := by
  intro d
  induction d with
  | zero =>
    intro k hk x5
    have hk : k = 12 := by omega
    subst hk
    refine pz_wp_ok (pz_Is_ok SX10_feed) [18] 100 ?_
    refine br1 (fun z => z (nI_le (Nat.le_refl _) (by omega))) ?_
    exact h
  | succ d ih =>
    intro k hk x5
    refine pz_wp_ok (pz_Is_ok SX10_feed) [18, 49] 100 ?_
    refine br2 (n_ge (b := 12) (by omega) (by omega) (by omega)) ?_
    have fin : ∀ v : Int32, v = f_pick a b c k → pz_T z0 KX10_feed Q 49 (0, 0) [some (.ref 69), some (.int a), some (.int b), some (.int c), some (.int (nI k)), some (.int v)] [] (mem (va_up A 34 (f_fd (A 34) n a b c k)) (upd F 61 (nI (n + k))) X) := by
      intro v hv
      refine tM_feed49 (n := n) (by omega) (upd_at _ _ _) ?_
      rw [vu_at, vu_vu, upd_upd, hv]
      exact ih (k + 1) (by omega) _
    refine ⟨fun g => ?_, fun g => ?_⟩
    · have g : (4 : Int32) ≤ nI k := g
      refine ⟨fun g2 => ?_, fun g2 => ?_⟩
      · have g2 : (8 : Int32) ≤ nI k := g2
        exact fin c (by unfold f_pick; rw [if_pos g, if_pos g2])
      · have g2 : ¬ (8 : Int32) ≤ nI k := g2
        exact fin b (by unfold f_pick; rw [if_pos g, if_neg g2])
    · have g : ¬ (4 : Int32) ≤ nI k := g
      exact fin a (by unfold f_pick; rw [if_neg g])
def s_feed (tp : Nat → Int32) (n : Nat) (a b c : Int32) : Int32 × Nat × (Nat → Int32) := if 96 < n + 12 then (-1000000003, n, tp) else (nI (n + 12), n + 12, f_fd tp n a b c 12)
set_option maxRecDepth 8000 in
theorem cM_feed {a b c : Int32} {n : Nat} (hF : F 61 = nI n) (hn : n ≤ 96) (h : Q (some (.int (s_feed (A 34) n a b c).1)) (mem (va_up A 34 (s_feed (A 34) n a b c).2.2) (upd F 61 (nI (s_feed (A 34) n a b c).2.1)) X)) : pz_C yX10_feed KX10_feed [.ref 69, .int a, .int b, .int c] (mem A F X) Q := by
  refine pz_C_of rfl rfl rfl (Nat.le_of_ble_eq_true rfl) (pz_wp_ok (pz_Is_ok SX10_feed) [18] 100 ?_)
  have e12 : F 61 + 12 = nI (n + 12) := by rw [hF]; exact nI_add n 12
  unfold s_feed at h
  by_cases g : 96 < n + 12
  · rw [if_pos g] at h
    refine br2 (fun z => ?_) ?_
    · have z : F 61 + 12 ≤ 96 := z
      rw [e12] at z
      exact n_ge (a := 96) (by omega) (by omega) g z
    · rw [vu_s, ← hF, upd_s] at h
      exact h
  · rw [if_neg g] at h
    refine br1 (fun z => z ?_) ?_
    · show F 61 + 12 ≤ 96
      rw [e12]
      exact nI_le (b := 96) (by omega) (by omega)
    · have hh := tM_feed (by omega) h 12 0 (by omega) none
      rw [f_fd, vu_s, Nat.add_zero, ← hF, upd_s] at hh
      exact hh
end MOD
