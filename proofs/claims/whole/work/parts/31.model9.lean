/-! what the town's own calls answer, and what becomes of t -/
abbrev BAD : Int32 := -1000000001
def s_eater (t : Nat → Int32) (k c : Int32) : Int32 × (Nat → Int32) := if qIn 0 5 k ∧ qIn 0 35 c then (if t 0 = 8 then (-1000000003, t) else (t 0, f_come t (f_n t) k c)) else (BAD, t)
def s_told (t : Nat → Int32) (e w : Int32) : Int32 := if qIn 0 ((f_n t : Int) - 1) e ∧ qIn 0 5 w then
    (let k := e.toNatClampNeg
     if w.toInt < 3 then t (118 + 3 * k + w.toNatClampNeg) else if w = 3 then f_eats (t (118 + 3 * k + 0)) (t (82 + f_cell t k)) else if w = 4 then f_wades (t (118 + 3 * k + 0)) else f_worth (t (118 + 3 * k + 0)) (t (118 + 3 * k + 2))) else BAD
def s_cell (t : Nat → Int32) (c w : Int32) : Int32 := if qIn 0 35 c ∧ qIn 0 3 w then (if w = 3 then f_lev t c.toNatClampNeg else t (10 + 36 * w.toNatClampNeg + c.toNatClampNeg)) else BAD
def s_lays (t : Nat → Int32) (c w v : Int32) : Int32 × (Nat → Int32) := if qIn 0 35 c ∧ qIn 0 2 w ∧ qIn 0 (if w = 2 then 999 else 20) v then (t (10 + 36 * w.toNatClampNeg + c.toNatClampNeg), upd t (10 + 36 * w.toNatClampNeg + c.toNatClampNeg) v) else (BAD, t)
def f_isOf (own kind : Int32) : Prop := own = kind ∨ kind = 0 ∨ (kind = 1 ∧ own = 3) ∨ (kind = 2 ∧ own = 4)
abbrev f_isOfb (own kind : Int32) : Bool := decide (own = kind) || decide (kind = 0) || (decide (kind = 1) && decide (own = 3)) || (decide (kind = 2) && decide (own = 4))
def s_as (t : Nat → Int32) (e w : Int32) : Int32 := if qIn 0 ((f_n t : Int) - 1) e ∧ qIn 0 5 w then (if f_isOfb (t (118 + 3 * e.toNatClampNeg + 0)) w = true then t (118 + 3 * e.toNatClampNeg + 2) else -1000000012) else BAD
def s_turns (t : Nat → Int32) (e w : Int32) : Int32 × (Nat → Int32) := if qIn 0 ((f_n t : Int) - 1) e ∧ qIn 0 5 w then (t (118 + 3 * e.toNatClampNeg + 0), upd t (118 + 3 * e.toNatClampNeg + 0) w) else (BAD, t)
def s_sends (t : Nat → Int32) (e c : Int32) : Int32 × (Nat → Int32) := if qIn 0 ((f_n t : Int) - 1) e ∧ qIn 0 35 c then (t (118 + 3 * e.toNatClampNeg + 1), upd t (118 + 3 * e.toNatClampNeg + 1) c) else (BAD, t)
def s_cook (t : Nat → Int32) (c : Int32) : Int32 × (Nat → Int32) := if qIn 0 35 c then (t 3, upd (upd t 4 1) 3 c) else (BAD, t)
def f_wd (t : Nat → Int32) (w : Int32) : Int32 := f_rem (w - t 6 + 10) 10
def s_say (t : Nat → Int32) (w : Int32) : Int32 × (Nat → Int32) := if qIn 0 9 w then (if t 4 = 0 then (-1000000002, t) else if f_wd t w = 0 then (0, upd t 4 0) else if f_wd t w = 1 then (1, upd t 8 (f_w (t 8 + 1) 9)) else if f_wd t w = 9 then (2, upd t 7 (f_w (t 7 + 5) 99)) else (3, t)) else (BAD, t)
def f_mr (w : Int32) : Int32 := if w = 1 then 99 else if w = 3 then 100 else 9
def s_rule (t : Nat → Int32) (w v : Int32) : Int32 × (Nat → Int32) := if qIn 0 3 w ∧ qIn 0 (f_mr w).toInt v then (t (6 + w.toNatClampNeg), upd t (6 + w.toNatClampNeg) v) else (BAD, t)
section MOD
variable {A : qA} {F : qF} {X : qX} {Q : pz_Q} {M : pz_M}
theorem qI {x : Int32} {hi : Int} {m : Nat} (h : qIn 0 hi x) (hm : hi < (m : Int)) : x = nI x.toNatClampNeg ∧ x.toNatClampNeg < m ∧ x.toNatClampNeg < 2147483648 := by
  obtain ⟨n, h1, h2, h3⟩ := qIn_nat h
  have : x.toNatClampNeg = n := qcl n h3 h2
  rw [this]
  exact ⟨h3, by omega, h2⟩
set_option maxRecDepth 8000 in
theorem cM_eater {k c : Int32} (hok : okS (A 20)) (h : Q (some (.int (s_eater (A 20) k c).1)) (mem (va_up A 20 (s_eater (A 20) k c).2) F X)) : pz_C yX10_eater KX10_eater [.ref 69, .int k, .int c] (mem A F X) Q := by
  refine pz_C_of rfl rfl rfl (Nat.le_of_ble_eq_true rfl) (pz_wp_ok (pz_Is_ok SX10_eater) [] 100 ?_)
  obtain ⟨n1, n2⟩ := hok.n
  unfold s_eater at h
  refine cM_isIn3 0 5 rfl rfl (fun g1 => ?_) (fun g1 => ?_)
  · refine br2 (by decide) ?_
    refine cM_isCell (fun g2 => ?_) (fun g2 => ?_)
    · refine br1 (by decide) ?_
      rw [if_pos ⟨g1, g2⟩] at h
      refine ⟨qin 0 rfl (by omega) (by omega), ?_⟩
      refine ⟨fun g => ?_, fun g => ?_⟩
      · have g : ¬ A 20 0 = 8 := g
        rw [if_neg g] at h
        have hlt : f_n (A 20) < 8 := by
          rcases Nat.lt_or_ge (f_n (A 20)) 8 with z | z
          · exact z
          · exact absurd (by rw [n2, show f_n (A 20) = 8 by omega]; rfl) g
        refine cM_comes n2 hlt ?_
        refine ⟨qin 0 rfl (by omega) (by omega), ?_⟩
        refine qQ h ?_ rfl
        show some (Value.int (f_come (A 20) (f_n (A 20)) k c 0 - 1)) = some (Value.int (A 20 0))
        have e : f_come (A 20) (f_n (A 20)) k c 0 = A 20 0 + 1 := by
          unfold f_come
          rw [upd_ne _ _ (by omega), upd_ne _ _ (by omega), upd_ne _ _ (by omega), upd_at]
        rw [e, n2, nI_1, nI_pred]
      · have g : A 20 0 = 8 := g
        rw [if_pos g] at h
        rw [vu_s] at h
        exact h
    · refine br2 (fun z => z rfl) ?_
      rw [if_neg (fun z => g2 z.2)] at h
      rw [vu_s] at h
      exact h
  · refine br1 (fun z => z rfl) ?_
    rw [if_neg (fun z => g1 z.1)] at h
    rw [vu_s] at h
    exact h
set_option maxRecDepth 8000 in
theorem cM_told {e w : Int32} (hok : okS (A 20)) (h : Q (some (.int (s_told (A 20) e w))) (mem A F X)) : pz_C yX10_told KX10_told [.ref 69, .int e, .int w] (mem A F X) Q := by
  refine pz_C_of rfl rfl rfl (Nat.le_of_ble_eq_true rfl) (pz_wp_ok (pz_Is_ok SX10_told) [] 100 ?_)
  obtain ⟨n1, n2⟩ := hok.n
  unfold s_told at h
  refine cM_isEater n2 (by omega) (fun g1 => ?_) (fun g1 => ?_)
  · refine br2 (by decide) ?_
    refine cM_isIn3 0 5 rfl rfl (fun g2 => ?_) (fun g2 => ?_)
    · refine br1 (by decide) ?_
      rw [if_pos ⟨g1, g2⟩] at h
      dsimp only at h
      obtain ⟨a1, a2, a3⟩ := qI (m := 8) g1 (by omega)
      obtain ⟨b1, b2, b3⟩ := qI (m := 6) g2 (by omega)
      have e3 : (3 : Int32).toInt = 3 := rfl
      refine ⟨fun g => ?_, fun g => ?_⟩
      · have g : 3 ≤ w.toInt := (i_le _ _).mp g
        rw [if_neg (by omega)] at h
        refine ⟨fun g => ?_, fun g => ?_⟩
        · rw [if_neg g] at h
          refine ⟨fun g => ?_, fun g => ?_⟩
          · rw [if_neg g] at h
            exact cM_worth a1 a2 h
          · rw [if_pos g] at h
            exact cM_wades a1 a2 h
        · rw [if_pos g] at h
          have hc := hok.cell a2
          exact cM_eats a1 a2 hc.2 hc.1 h
      · have g : ¬ 3 ≤ w.toInt := fun z => g ((i_le _ _).mpr z)
        rw [if_pos (by omega)] at h
        refine cM_of a1 b1 a2 ?_ h
        have := nIi b3
        rw [← b1] at this
        omega
    · refine br2 (fun z => z rfl) ?_
      rw [if_neg (fun z => g2 z.2)] at h
      exact h
  · refine br1 (fun z => z rfl) ?_
    rw [if_neg (fun z => g1 z.1)] at h
    exact h
theorem e_cell {c w : Int32} (b1 : c = nI c.toNatClampNeg) (b2 : w = nI w.toNatClampNeg) : (10 : Int32) + 36 * w + c = nI (10 + 36 * w.toNatClampNeg + c.toNatClampNeg) := by
  generalize c.toNatClampNeg = n at b1 ⊢
  generalize w.toNatClampNeg = m at b2 ⊢
  subst b1; subst b2
  rw [show (36 : Int32) * nI m = nI (36 * m) from pk_mul 36 m, show (10 : Int32) + nI (36 * m) = nI (10 + 36 * m) from nI_add 10 _, nI_add]
set_option maxRecDepth 8000 in
theorem cM_cell {c w : Int32} (h : Q (some (.int (s_cell (A 20) c w))) (mem A F X)) : pz_C yX10_cell KX10_cell [.ref 69, .int c, .int w] (mem A F X) Q := by
  refine pz_C_of rfl rfl rfl (Nat.le_of_ble_eq_true rfl) (pz_wp_ok (pz_Is_ok SX10_cell) [] 100 ?_)
  unfold s_cell at h
  refine cM_isCell (fun g1 => ?_) (fun g1 => ?_)
  · refine br2 (by decide) ?_
    refine cM_isIn3 0 3 rfl rfl (fun g2 => ?_) (fun g2 => ?_)
    · refine br1 (by decide) ?_
      rw [if_pos ⟨g1, g2⟩] at h
      obtain ⟨a1, a2, a3⟩ := qI (m := 36) g1 (by omega)
      obtain ⟨b1, b2, b3⟩ := qI (m := 4) g2 (by omega)
      refine ⟨fun g => ?_, fun g => ?_⟩
      · rw [if_neg g] at h
        have e := e_cell a1 b1
        have ce := qcl _ e (by omega)
        refine ⟨qin _ e (by omega) (by omega), ?_⟩
        rw [← ce] at h
        exact h
      · rw [if_pos g] at h
        exact cM_level a1 a2 h
    · refine br2 (fun z => z rfl) ?_
      rw [if_neg (fun z => g2 z.2)] at h
      exact h
  · refine br1 (fun z => z rfl) ?_
    rw [if_neg (fun z => g1 z.1)] at h
    exact h
set_option maxRecDepth 8000 in
theorem cM_lays {c w v : Int32} (h : Q (some (.int (s_lays (A 20) c w v).1)) (mem (va_up A 20 (s_lays (A 20) c w v).2) F X)) : pz_C yX10_lays KX10_lays [.ref 69, .int c, .int w, .int v] (mem A F X) Q := by
  refine pz_C_of rfl rfl rfl (Nat.le_of_ble_eq_true rfl) (pz_wp_ok (pz_Is_ok SX10_lays) [] 100 ?_)
  unfold s_lays at h
  refine cM_isCell (fun g1 => ?_) (fun g1 => ?_)
  · refine br2 (by decide) ?_
    refine cM_isIn3 0 2 rfl rfl (fun g2 => ?_) (fun g2 => ?_)
    · refine br2 (by decide) ?_
      obtain ⟨a1, a2, a3⟩ := qI (m := 36) g1 (by omega)
      obtain ⟨b1, b2, b3⟩ := qI (m := 3) g2 (by omega)
      have e := e_cell a1 b1
      refine ⟨fun g => ?_, fun g => ?_⟩
      · rw [if_neg g] at h
        refine cM_isIn3 0 20 rfl rfl (fun g3 => ?_) (fun g3 => ?_)
        · refine br1 (by decide) ?_
          rw [if_pos ⟨g1, g2, g3⟩] at h
          exact cM_becomes e (by omega) h
        · refine br2 (fun z => z rfl) ?_
          rw [if_neg (fun z => g3 z.2.2)] at h
          rw [vu_s] at h
          exact h
      · rw [if_pos g] at h
        refine cM_isIn3 0 999 rfl rfl (fun g3 => ?_) (fun g3 => ?_)
        · refine br1 (by decide) ?_
          rw [if_pos ⟨g1, g2, g3⟩] at h
          exact cM_becomes e (by omega) h
        · refine br2 (fun z => z rfl) ?_
          rw [if_neg (fun z => g3 z.2.2)] at h
          rw [vu_s] at h
          exact h
    · refine br1 (fun z => z rfl) ?_
      rw [if_neg (fun z => g2 z.2.1)] at h
      rw [vu_s] at h
      exact h
  · refine br1 (fun z => z rfl) ?_
    rw [if_neg (fun z => g1 z.1)] at h
    rw [vu_s] at h
    exact h
end MOD
