/-! the pot's calls: eater .. seed -/
theorem upd_comm (t : Nat → Int32) {i j : Nat} (x y : Int32) (h : i ≠ j) : upd (upd t i x) j y = upd (upd t j y) i x := by
  funext k
  unfold upd
  by_cases h1 : k = j
  · rw [if_pos h1]
    by_cases h2 : k = i
    · exact absurd (h2.symm.trans h1) h
    · rw [if_neg h2, if_pos h1]
  · rw [if_neg h1]
    by_cases h2 : k = i
    · rw [if_pos h2, if_pos h2]
    · rw [if_neg h2, if_neg h2, if_neg h1]
section POT
variable {A A1 : qA} {F : qF} {X : qX} {Q : pz_Q} {M : pz_M}
theorem cT0_hasEater {x : Int32} {n : Nat} (hn : A 0 0 = nI n) (hb : n < 2147483648) (h1 : qIn 0 ((n : Int) - 1) x → Q (some (.int 1)) (mem A F X)) (h0 : ¬ qIn 0 ((n : Int) - 1) x → Q (some (.int 0)) (mem A F X)) : pz_C yX7_hasEater KX7_hasEater [.ref 4, .int x] (mem A F X) Q := by
  refine pz_C_of rfl rfl rfl (Nat.le_of_ble_eq_true rfl) (pz_wp_ok (pz_Is_ok SX7_hasEater) [] 100 ?_)
  refine cP_within 0 ((n : Int) - 1) rfl ?_ (fun g => ⟨Or.inr rfl, h1 g⟩) (fun g => ⟨Or.inl rfl, h0 g⟩)
  show (A 0 0 - 1).toInt = _
  rw [hn]
  exact n_sub1 hb
set_option maxRecDepth 8000 in
theorem cT0_comes {n : Nat} {a b : Int32} (hn : A 0 0 = nI n) (hb : n < 8) (h : Q (some (.int (A 0 0))) (mem (va_up A 0 (f_come (A 0) n a b)) F X)) : pz_C yX7_comes KX7_comes [.ref 4, .int a, .int b] (mem A F X) Q := by
  have ef : f_come (A 0) n a b = upd (upd (upd (upd (A 0) (118 + 3 * n + 0) a) (118 + 3 * n + 1) b) (118 + 3 * n + 2) 0) 0 (A 0 0 + 1) := by
    unfold f_come
    rw [upd_comm (A 0) (i := 0) (j := 118 + 3 * n + 0) _ _ (by omega), upd_comm _ (i := 0) (j := 118 + 3 * n + 1) _ _ (by omega), upd_comm _ (i := 0) (j := 118 + 3 * n + 2) _ _ (by omega)]
  rw [ef] at h
  have cn := qcl _ hn (by omega)
  have t32 : pz_T z0 KX7_comes Q 32 (0, 0) [some (.ref 4), some (.int a), some (.int b), some (.int (A 0 0))] [] (mem (va_up A 0 (upd (upd (upd (A 0) (118 + 3 * n + 0) a) (118 + 3 * n + 1) b) (118 + 3 * n + 2) 0)) F X) := by
    refine pz_wp_ok (pz_Is_ok SX7_comes) [] 100 ?_
    have e0 : upd (upd (upd (A 0) (118 + 3 * n + 0) a) (118 + 3 * n + 1) b) (118 + 3 * n + 2) 0 0 = A 0 0 := by rw [upd_ne _ _ (by omega), upd_ne _ _ (by omega), upd_ne _ _ (by omega)]
    generalize upd (upd (upd (A 0) (118 + 3 * n + 0) a) (118 + 3 * n + 1) b) (118 + 3 * n + 2) 0 = t3 at h e0
    have hm := mf_eat0 (A := va_up A 0 t3) (F := F) (X := X) (t3 0 + 1)
    rw [vu_vu, vu_at] at hm
    rw [show A 0 0 + 1 = t3 0 + 1 by rw [e0], ← hm] at h
    exact h
  have t25 : pz_T z0 KX7_comes Q 25 (0, 0) [some (.ref 4), some (.int a), some (.int b), some (.int (A 0 0))] [] (mem (va_up A 0 (upd (upd (A 0) (118 + 3 * n + 0) a) (118 + 3 * n + 1) b)) F X) := by
    generalize upd (upd (A 0) (118 + 3 * n + 0) a) (118 + 3 * n + 1) b = t2 at t32
    refine pz_wp_ok (pz_Is_ok SX7_comes) [32] 100 ?_
    refine ⟨qin n hn hb (by omega), ?_⟩
    rw [cn]
    have hm := ma0 (A := va_up A 0 t2) (F := F) (X := X) hb 0
    rw [vu_vu, vu_at] at hm
    rw [← hm] at t32
    exact t32
  have t18 : pz_T z0 KX7_comes Q 18 (0, 0) [some (.ref 4), some (.int a), some (.int b), some (.int (A 0 0))] [] (mem (va_up A 0 (upd (A 0) (118 + 3 * n + 0) a)) F X) := by
    generalize upd (A 0) (118 + 3 * n + 0) a = t2 at t25
    refine pz_wp_ok (pz_Is_ok SX7_comes) [25] 100 ?_
    refine ⟨qin n hn hb (by omega), ?_⟩
    rw [cn]
    have hm := ml0 (A := va_up A 0 t2) (F := F) (X := X) hb b
    rw [vu_vu, vu_at] at hm
    rw [← hm] at t25
    exact t25
  refine pz_C_of rfl rfl rfl (Nat.le_of_ble_eq_true rfl) (pz_wp_ok (pz_Is_ok SX7_comes) [18] 100 ?_)
  refine br2 (fun z => ?_) ?_
  · have z : (8 : Int32) ≤ A 0 0 := z
    rw [hn] at z
    exact n_ge (b := 8) (by omega) (by omega) hb z
  refine ⟨qin n hn hb (by omega), ?_⟩
  rw [cn]
  rw [← mk0 hb] at t18
  exact t18
set_option maxRecDepth 8000 in
theorem cP_eater {k c : Int32} (hok : okS (A 0)) (h : Q (some (.int (s_eater (A 0) k c).1)) (mem (va_up A 0 (s_eater (A 0) k c).2) F X)) : pz_C yX9_eater KX9_eater [.ref 0, .int k, .int c] (mem A F X) Q := by
  refine pz_C_of rfl rfl rfl (Nat.le_of_ble_eq_true rfl) (pz_wp_ok (pz_Is_ok SX9_eater) [] 100 ?_)
  obtain ⟨n1, n2⟩ := hok.n
  unfold s_eater at h
  refine cP_isKind (fun g1 => ?_) (fun g1 => ?_)
  · refine br2 (by decide) ?_
    refine cP_isCell (fun g2 => ?_) (fun g2 => ?_)
    · refine br1 (by decide) ?_
      rw [if_pos ⟨g1, g2⟩] at h
      refine ⟨fun g => ?_, fun g => ?_⟩
      · have g : (8 : Int32) ≤ A 0 0 := g
        have e8 : A 0 0 = 8 := by
          rw [n2] at g ⊢
          have := (nI_leI (a := 8) (b := f_n (A 0)) (by omega) (by omega)).mp g
          have : f_n (A 0) = 8 := by omega
          rw [this]; rfl
        rw [if_pos e8, vu_s] at h
        exact h
      · have g : ¬ (8 : Int32) ≤ A 0 0 := g
        have hlt : f_n (A 0) < 8 := by
          rcases Nat.lt_or_ge (f_n (A 0)) 8 with z | z
          · exact z
          · exact absurd (by rw [n2]; exact nI_le (a := 8) z (by omega)) g
        have e8 : ¬ A 0 0 = 8 := fun z => g (by rw [z]; decide)
        rw [if_neg e8] at h
        exact cT0_comes n2 hlt h
    · refine br2 (fun z => z rfl) ?_
      rw [if_neg (fun z => g2 z.2), vu_s] at h
      exact h
  · refine br1 (fun z => z rfl) ?_
    rw [if_neg (fun z => g1 z.1), vu_s] at h
    exact h
set_option maxRecDepth 8000 in
theorem cP_told {e w : Int32} (hok : okS (A 0)) (h : Q (some (.int (s_told (A 0) e w))) (mem A F X)) : pz_C yX9_told KX9_told [.ref 0, .int e, .int w] (mem A F X) Q := by
  refine pz_C_of rfl rfl rfl (Nat.le_of_ble_eq_true rfl) (pz_wp_ok (pz_Is_ok SX9_told) [] 100 ?_)
  obtain ⟨n1, n2⟩ := hok.n
  unfold s_told at h
  refine cT0_hasEater n2 (by omega) (fun g1 => ?_) (fun g1 => ?_)
  · refine br1 (by decide) ?_
    obtain ⟨a1, a2, a3⟩ := qI (m := 8) g1 (by omega)
    obtain ⟨c1, c2⟩ := hok.cell a2
    have cc := qcl _ c2 (by omega)
    refine ⟨qin _ a1 a2 (by omega), ?_⟩
    rw [qm_k a2]
    have go : qIn 0 5 w → Q (some (.int (if w.toInt < 3 then A 0 (118 + 3 * e.toNatClampNeg + w.toNatClampNeg) else if w = 3 then f_eats (A 0 (118 + 3 * e.toNatClampNeg + 0)) (A 0 (82 + f_cell (A 0) e.toNatClampNeg)) else if w = 4 then f_wades (A 0 (118 + 3 * e.toNatClampNeg + 0)) else f_worth (A 0 (118 + 3 * e.toNatClampNeg + 0)) (A 0 (118 + 3 * e.toNatClampNeg + 2))))) (mem A F X) := fun g2 => by
      rw [if_pos ⟨g1, g2⟩] at h
      exact h
    refine ⟨fun g => ?_, fun g0 => ⟨fun g => ?_, fun g1' => ⟨fun g => ?_, fun g2 => ⟨fun g => ?_, fun g3 => ⟨fun g => ?_, fun g4 => ⟨fun g => ?_, fun g5 => ?_⟩⟩⟩⟩⟩⟩
    · have g : w = 0 := g
      subst g
      have h := go ⟨by decide, by decide⟩
      rw [if_pos (by decide)] at h
      exact h
    · have g : w = 1 := g
      subst g
      have h := go ⟨by decide, by decide⟩
      rw [if_pos (by decide)] at h
      refine ⟨qin _ a1 a2 (by omega), ?_⟩
      rw [qm_l a2]
      exact h
    · have g : w = 2 := g
      subst g
      have h := go ⟨by decide, by decide⟩
      rw [if_pos (by decide)] at h
      refine ⟨qin _ a1 a2 (by omega), ?_⟩
      rw [qm_a a2]
      exact h
    · have g : w = 3 := g
      subst g
      have h := go ⟨by decide, by decide⟩
      rw [if_neg (by decide), if_pos rfl] at h
      refine ⟨qin _ a1 a2 (by omega), ?_⟩
      rw [qm_l a2]
      refine ⟨qin _ c2 c1 (by omega), ?_⟩
      rw [cc, qm_1 c1]
      exact cP_eats h
    · have g : w = 4 := g
      subst g
      have h := go ⟨by decide, by decide⟩
      rw [if_neg (by decide), if_neg (by decide), if_pos rfl] at h
      exact cP_wades h
    · have g : w = 5 := g
      subst g
      have h := go ⟨by decide, by decide⟩
      rw [if_neg (by decide), if_neg (by decide), if_neg (by decide)] at h
      refine ⟨qin _ a1 a2 (by omega), ?_⟩
      rw [qm_a a2]
      exact cP_worth h
    · have hn : ¬ qIn 0 5 w := fun z => by
        rcases kind6 z with q | q | q | q | q | q
        · exact g0 q
        · exact g1' q
        · exact g2 q
        · exact g3 q
        · exact g4 q
        · exact g5 q
      rw [if_neg (fun z => hn z.2)] at h
      exact h
  · refine br2 (fun z => z rfl) ?_
    rw [if_neg (fun z => g1 z.1)] at h
    exact h
theorem three {w : Int32} (h : qIn 0 2 w) : w = 0 ∨ w = 1 ∨ w = 2 := by
  obtain ⟨m, m1, m2, m3⟩ := qIn_nat h
  have : m = 0 ∨ m = 1 ∨ m = 2 := by omega
  rcases this with e | e | e <;> subst e <;> simp [m3] <;> decide
theorem cT0_laid0 (h : Q (some (.ref 5)) (mem A F X)) : pz_C yX7_laid KX7_laid [.ref 4, .int 0] (mem A F X) Q := by
  refine pz_C_of rfl rfl rfl (Nat.le_of_ble_eq_true rfl) (pz_wp_ok (pz_Is_ok SX7_laid) [] 100 ?_)
  exact br2 (fun z => z rfl) h
theorem cT0_laid1 (h : Q (some (.ref 6)) (mem A F X)) : pz_C yX7_laid KX7_laid [.ref 4, .int 1] (mem A F X) Q := by
  refine pz_C_of rfl rfl rfl (Nat.le_of_ble_eq_true rfl) (pz_wp_ok (pz_Is_ok SX7_laid) [] 100 ?_)
  exact br1 (by decide) (br2 (fun z => z rfl) h)
theorem cT0_laid2 (h : Q (some (.ref 7)) (mem A F X)) : pz_C yX7_laid KX7_laid [.ref 4, .int 2] (mem A F X) Q := by
  refine pz_C_of rfl rfl rfl (Nat.le_of_ble_eq_true rfl) (pz_wp_ok (pz_Is_ok SX7_laid) [] 100 ?_)
  exact br1 (by decide) (br1 (by decide) h)
set_option maxRecDepth 8000 in
theorem cP_cell {c w : Int32} (h : Q (some (.int (s_cell (A 0) c w))) (mem A F X)) : pz_C yX9_cell KX9_cell [.ref 0, .int c, .int w] (mem A F X) Q := by
  refine pz_C_of rfl rfl rfl (Nat.le_of_ble_eq_true rfl) (pz_wp_ok (pz_Is_ok SX9_cell) [] 100 ?_)
  unfold s_cell at h
  refine cP_isCell (fun g1 => ?_) (fun g1 => ?_)
  · refine br2 (by decide) ?_
    refine cP_within 0 3 rfl rfl (fun g2 => ?_) (fun g2 => ?_)
    · refine br1 (by decide) ?_
      rw [if_pos ⟨g1, g2⟩] at h
      obtain ⟨a1, a2, a3⟩ := qI (m := 36) g1 (by omega)
      refine ⟨fun g => ?_, fun g => ?_⟩
      · have g : ¬ w = 3 := g
        rw [if_neg g] at h
        have hw : qIn 0 2 w := ⟨g2.1, by
          have := g2.2
          rw [i_eq, show (3 : Int32).toInt = 3 from rfl] at g
          omega⟩
        rcases three hw with e | e | e <;> subst e
        · refine cT0_laid0 ?_
          refine ⟨qin _ a1 a2 (by omega), ?_⟩
          rw [qm_1 a2]
          exact h
        · refine cT0_laid1 ?_
          refine ⟨qin _ a1 a2 (by omega), ?_⟩
          rw [qm_1 a2]
          exact h
        · refine cT0_laid2 ?_
          refine ⟨qin _ a1 a2 (by omega), ?_⟩
          rw [qm_1 a2]
          exact h
      · have g : w = 3 := g
        rw [if_pos g] at h
        exact cT0_level a1 a2 h
    · refine br2 (fun z => z rfl) ?_
      rw [if_neg (fun z => g2 z.2)] at h
      exact h
  · refine br1 (fun z => z rfl) ?_
    rw [if_neg (fun z => g1 z.1)] at h
    exact h
set_option maxRecDepth 8000 in
theorem cP_lays {c w v : Int32} (h : Q (some (.int (s_lays (A 0) c w v).1)) (mem (va_up A 0 (s_lays (A 0) c w v).2) F X)) : pz_C yX9_lays KX9_lays [.ref 0, .int c, .int w, .int v] (mem A F X) Q := by
  refine pz_C_of rfl rfl rfl (Nat.le_of_ble_eq_true rfl) (pz_wp_ok (pz_Is_ok SX9_lays) [] 100 ?_)
  unfold s_lays at h
  refine cP_isCell (fun g1 => ?_) (fun g1 => ?_)
  · refine br2 (by decide) ?_
    refine cP_within 0 2 rfl rfl (fun g2 => ?_) (fun g2 => ?_)
    · refine br2 (by decide) ?_
      obtain ⟨a1, a2, a3⟩ := qI (m := 36) g1 (by omega)
      obtain ⟨b1, b2, b3⟩ := qI (m := 3) g2 (by omega)
      refine ⟨qin _ b1 b2 (by decide), ?_⟩
      have bad : ¬ qIn 0 (if w = 2 then 999 else 20) v → Q (some (.int BAD)) (mem A F X) := fun z => by
        rw [if_neg (fun y => z y.2.2), vu_s] at h
        exact h
      have good : qIn 0 (if w = 2 then 999 else 20) v → Q (some (.int (A 0 (10 + 36 * w.toNatClampNeg + c.toNatClampNeg)))) (mem (va_up A 0 (upd (A 0) (10 + 36 * w.toNatClampNeg + c.toNatClampNeg) v)) F X) := fun z => by
        rw [if_pos ⟨g1, g2, z⟩] at h
        exact h
      rcases three g2 with e | e | e <;> subst e
      · refine cP_within 0 20 rfl rfl (fun g3 => ?_) (fun g3 => ?_)
        · refine br1 (by decide) ?_
          have h := good g3
          refine cT0_laid0 ?_
          refine ⟨qin _ a1 a2 (by omega), ?_⟩
          refine ⟨qin _ a1 a2 (by omega), ?_⟩
          rw [qm_1 a2]
          have hm := mh0 (A := A) (F := F) (X := X) a2 v
          rw [show 10 + 36 * (0 : Int32).toNatClampNeg + c.toNatClampNeg = 10 + c.toNatClampNeg from rfl, ← hm] at h
          exact h
        · refine br2 (fun z => z rfl) ?_
          exact bad g3
      · refine cP_within 0 20 rfl rfl (fun g3 => ?_) (fun g3 => ?_)
        · refine br1 (by decide) ?_
          have h := good g3
          refine cT0_laid1 ?_
          refine ⟨qin _ a1 a2 (by omega), ?_⟩
          refine ⟨qin _ a1 a2 (by omega), ?_⟩
          rw [qm_1 a2]
          have hm := mw0 (A := A) (F := F) (X := X) a2 v
          rw [show 10 + 36 * (1 : Int32).toNatClampNeg + c.toNatClampNeg = 46 + c.toNatClampNeg from rfl, ← hm] at h
          exact h
        · refine br2 (fun z => z rfl) ?_
          exact bad g3
      · refine cP_within 0 999 rfl rfl (fun g3 => ?_) (fun g3 => ?_)
        · refine br1 (by decide) ?_
          have h := good g3
          refine cT0_laid2 ?_
          refine ⟨qin _ a1 a2 (by omega), ?_⟩
          refine ⟨qin _ a1 a2 (by omega), ?_⟩
          rw [qm_1 a2]
          have hm := mp0 (A := A) (F := F) (X := X) a2 v
          rw [show 10 + 36 * (2 : Int32).toNatClampNeg + c.toNatClampNeg = 82 + c.toNatClampNeg from rfl, ← hm] at h
          exact h
        · refine br2 (fun z => z rfl) ?_
          exact bad g3
    · refine br1 (fun z => z rfl) ?_
      rw [if_neg (fun z => g2 z.2.1), vu_s] at h
      exact h
  · refine br1 (fun z => z rfl) ?_
    rw [if_neg (fun z => g1 z.1), vu_s] at h
    exact h
set_option maxRecDepth 8000 in
theorem cP_as {e w : Int32} (hok : okS (A 0)) (hk : ∀ k, k < 8 → qIn 0 5 (A 0 (118 + 3 * k + 0))) (h : Q (some (.int (s_as (A 0) e w))) (mem A F X)) : pz_C yX9_as KX9_as [.ref 0, .int e, .int w] (mem A F X) Q := by
  refine pz_C_of rfl rfl rfl (Nat.le_of_ble_eq_true rfl) (pz_wp_ok (pz_Is_ok SX9_as) [] 100 ?_)
  obtain ⟨n1, n2⟩ := hok.n
  unfold s_as at h
  refine cT0_hasEater n2 (by omega) (fun g1 => ?_) (fun g1 => ?_)
  · refine br2 (by decide) ?_
    refine cP_isKind (fun g2 => ?_) (fun g2 => ?_)
    · refine br1 (by decide) ?_
      rw [if_pos ⟨g1, g2⟩] at h
      obtain ⟨a1, a2, a3⟩ := qI (m := 8) g1 (by omega)
      refine ⟨qin _ a1 a2 (by omega), ?_⟩
      rw [qm_k a2]
      refine cP_isUnder (hk _ a2) g2 (fun b hb => ?_)
      cases b with
      | true =>
        rw [if_pos (hb.mp rfl)] at h
        refine br2 (by decide) ?_
        refine ⟨qin _ a1 a2 (by omega), ?_⟩
        rw [qm_a a2]
        exact h
      | false =>
        rw [if_neg (fun z => Bool.noConfusion (hb.mpr z))] at h
        refine br1 (fun z => z rfl) ?_
        exact h
    · refine br2 (fun z => z rfl) ?_
      rw [if_neg (fun z => g2 z.2)] at h
      exact h
  · refine br1 (fun z => z rfl) ?_
    rw [if_neg (fun z => g1 z.1)] at h
    exact h
set_option maxRecDepth 8000 in
theorem cP_turns {e w : Int32} (hok : okS (A 0)) (h : Q (some (.int (s_turns (A 0) e w).1)) (mem (va_up A 0 (s_turns (A 0) e w).2) F X)) : pz_C yX9_turns KX9_turns [.ref 0, .int e, .int w] (mem A F X) Q := by
  refine pz_C_of rfl rfl rfl (Nat.le_of_ble_eq_true rfl) (pz_wp_ok (pz_Is_ok SX9_turns) [] 100 ?_)
  obtain ⟨n1, n2⟩ := hok.n
  unfold s_turns at h
  refine cT0_hasEater n2 (by omega) (fun g1 => ?_) (fun g1 => ?_)
  · refine br2 (by decide) ?_
    refine cP_isKind (fun g2 => ?_) (fun g2 => ?_)
    · refine br1 (by decide) ?_
      rw [if_pos ⟨g1, g2⟩] at h
      obtain ⟨a1, a2, a3⟩ := qI (m := 8) g1 (by omega)
      refine ⟨qin _ a1 a2 (by omega), ?_⟩
      refine ⟨qin _ a1 a2 (by omega), ?_⟩
      rw [qm_k a2]
      have hm := mk0 (A := A) (F := F) (X := X) a2 w
      dsimp only at h
      rw [← hm] at h
      exact h
    · refine br2 (fun z => z rfl) ?_
      rw [if_neg (fun z => g2 z.2), vu_s] at h
      exact h
  · refine br1 (fun z => z rfl) ?_
    rw [if_neg (fun z => g1 z.1), vu_s] at h
    exact h
set_option maxRecDepth 8000 in
theorem cP_sends {e c : Int32} (hok : okS (A 0)) (h : Q (some (.int (s_sends (A 0) e c).1)) (mem (va_up A 0 (s_sends (A 0) e c).2) F X)) : pz_C yX9_sends KX9_sends [.ref 0, .int e, .int c] (mem A F X) Q := by
  refine pz_C_of rfl rfl rfl (Nat.le_of_ble_eq_true rfl) (pz_wp_ok (pz_Is_ok SX9_sends) [] 100 ?_)
  obtain ⟨n1, n2⟩ := hok.n
  unfold s_sends at h
  refine cT0_hasEater n2 (by omega) (fun g1 => ?_) (fun g1 => ?_)
  · refine br2 (by decide) ?_
    refine cP_isCell (fun g2 => ?_) (fun g2 => ?_)
    · refine br1 (by decide) ?_
      rw [if_pos ⟨g1, g2⟩] at h
      obtain ⟨a1, a2, a3⟩ := qI (m := 8) g1 (by omega)
      refine ⟨qin _ a1 a2 (by omega), ?_⟩
      refine ⟨qin _ a1 a2 (by omega), ?_⟩
      rw [qm_l a2]
      have hm := ml0 (A := A) (F := F) (X := X) a2 c
      dsimp only at h
      rw [← hm] at h
      exact h
    · refine br2 (fun z => z rfl) ?_
      rw [if_neg (fun z => g2 z.2), vu_s] at h
      exact h
  · refine br1 (fun z => z rfl) ?_
    rw [if_neg (fun z => g1 z.1), vu_s] at h
    exact h
set_option maxRecDepth 8000 in
theorem cP_cook {c : Int32} (h : Q (some (.int (s_cook (A 0) c).1)) (mem (va_up A 0 (s_cook (A 0) c).2) F X)) : pz_C yX9_cook KX9_cook [.ref 0, .int c] (mem A F X) Q := by
  refine pz_C_of rfl rfl rfl (Nat.le_of_ble_eq_true rfl) (pz_wp_ok (pz_Is_ok SX9_cook) [26] 100 ?_)
  unfold s_cook at h
  refine cP_isCell (fun g1 => ?_) (fun g1 => ?_)
  · refine br1 (by decide) ?_
    rw [if_pos g1] at h
    dsimp only at h
    rw [upd_comm _ _ _ (by omega)] at h
    have t26 : pz_T z0 KX9_cook Q 26 (0, 0) [some (.ref 0), some (.int c), some (.int (A 0 3))] [] (mem (va_up A 0 (upd (A 0) 3 c)) F X) := by
      generalize upd (A 0) 3 c = t2 at h
      refine pz_wp_ok (pz_Is_ok SX9_cook) [] 100 ?_
      refine ⟨Or.inr rfl, ?_⟩
      have hm := mf_coo0 (A := va_up A 0 t2) (F := F) (X := X) 1
      rw [vu_vu, vu_at] at hm
      rw [← hm] at h
      exact h
    rw [← mf_pot0] at t26
    exact t26
  · refine br2 (fun z => z rfl) ?_
    rw [if_neg g1, vu_s] at h
    exact h
set_option maxRecDepth 8000 in
theorem cP_seed {v : Int32} (h : Q (some (.int (A 0 5))) (mem (va_up A 0 (upd (A 0) 5 v)) F X)) : pz_C yX9_seed KX9_seed [.ref 0, .int v] (mem A F X) Q := by
  refine pz_C_of rfl rfl rfl (Nat.le_of_ble_eq_true rfl) (pz_wp_ok (pz_Is_ok SX9_seed) [] 100 ?_)
  rw [← mf_z0] at h
  exact h
set_option maxRecDepth 8000 in
theorem cP_rule {w v : Int32} (h : Q (some (.int (s_rule (A 0) w v).1)) (mem (va_up A 0 (s_rule (A 0) w v).2) F X)) : pz_C yX9_rule KX9_rule [.ref 0, .int w, .int v] (mem A F X) Q := by
  refine pz_C_of rfl rfl rfl (Nat.le_of_ble_eq_true rfl) (pz_wp_ok (pz_Is_ok SX9_rule) [] 100 ?_)
  unfold s_rule at h
  refine cP_within 0 3 rfl rfl (fun g1 => ?_) (fun g1 => ?_)
  · refine br2 (by decide) ?_
    obtain ⟨a1, a2, a3⟩ := qI (m := 4) g1 (by omega)
    refine ⟨qin _ a1 a2 (by decide), ?_⟩
    have em : ((pz_stn 0).2.2.2.getD w.toNatClampNeg 0).toInt = (f_mr w).toInt := by
      generalize w.toNatClampNeg = m at a1 a2
      have : m = 0 ∨ m = 1 ∨ m = 2 ∨ m = 3 := by omega
      rcases this with e | e | e | e <;> subst e <;> subst a1 <;> decide
    refine cP_within 0 (f_mr w).toInt rfl em (fun g2 => ?_) (fun g2 => ?_)
    · refine br1 (by decide) ?_
      rw [if_pos ⟨g1, g2⟩] at h
      refine ⟨qin _ a1 a2 (by omega), ?_⟩
      refine ⟨qin _ a1 a2 (by omega), ?_⟩
      rw [qm_1 a2]
      dsimp only at h
      rw [← mr0 a2] at h
      exact h
    · refine br2 (fun z => z rfl) ?_
      rw [if_neg (fun z => g2 z.2), vu_s] at h
      exact h
  · refine br1 (fun z => z rfl) ?_
    rw [if_neg (fun z => g1 z.1), vu_s] at h
    exact h
end POT
