def f_mok (t : Nat → Int32) (wd : Int32) : Nat → Bool := fun o => decide (1 ≤ (t (82 + o)).toInt ∧ (t (82 + o)).toInt ≤ wd.toInt)
def f_btm (t : Nat → Int32) : Nat → Nat → Bool := fun o q => decide (t (82 + q) < t (82 + o))
def f_mostN (t : Nat → Int32) (wd : Int32) (c : Nat) : Nat → Option Nat := f_pk (f_mok t wd) (f_btm t) c
theorem f_mostN_s (t : Nat → Int32) (wd : Int32) (c w : Nat) : f_mostN t wd c (w + 1) = match nb c w with
    | none => f_mostN t wd c w
    | some o => if f_mok t wd o = true then (match f_mostN t wd c w with
      | none => some o
      | some q => if f_btm t o q = true then some o else some q) else f_mostN t wd c w := rfl
def f_to (o : Option Nat) (c : Nat) : Nat := o.getD c
def f_ate (t : Nat → Int32) (k c : Nat) : Int32 := f_w (f_eats (t (118 + 3 * k + 0)) (t (82 + c))) (t (82 + c))
def f_eaten (t : Nat → Int32) (k c : Nat) : Nat → Int32 :=
  upd (upd t (82 + c) (t (82 + c) - f_ate t k c)) (118 + 3 * k + 2) (upd t (82 + c) (t (82 + c) - f_ate t k c) (118 + 3 * k + 2) + f_ate t k c)
def f_goes (t : Nat → Int32) (k c : Nat) : Nat → Int32 :=
  if t (82 + c) ≤ 0 then upd t (118 + 3 * k + 1) (nI (f_to (f_mostN t (f_wades (t (118 + 3 * k + 0))) c 4) c)) else t
def f_dine (t : Nat → Int32) (k c : Nat) : Nat → Int32 := f_goes (f_eaten t k c) k c
section MOD
variable {A : qA} {F : qF} {X : qX} {Q : pz_Q} {M : pz_M}
set_option maxRecDepth 4000 in
theorem tM_dines {k c : Nat} {a : Int32} (hk : k < 8) (hc : c < 36) (h : Q (some (.int a)) (mem (va_up A 20 (upd (A 20) (118 + 3 * k + 1) (nI (f_to (f_mostN (A 20) (f_wades (A 20 (118 + 3 * k + 0))) c 4) c)))) F X)) : ∀ (n w : Nat), w + n = 4 → ∀ x6 x7 : Option Value, pz_T z0 KX10_dines Q 64 (0, 0) [some (.ref 69), some (.int (nI k)), some (.int (nI c)), some (.int a), some (.int (ov (f_mostN (A 20) (f_wades (A 20 (118 + 3 * k + 0))) c w))), some (.int (nI w)), x6, x7] [] (mem A F X) := by
  generalize hwd : f_wades (A 20 (118 + 3 * k + 0)) = wd at h ⊢
  intro n
  induction n with
  | zero =>
    intro w hw x6 x7
    have hw : w = 4 := by omega
    subst hw
    refine pz_wp_ok (pz_Is_ok SX10_dines) [64] 100 ?_
    refine br1 (fun z => z (by decide)) ?_
    have hlow : ∀ q, f_mostN (A 20) wd c 4 = some q → q < 36 := fun q hq => (f_pk_lt hc 4 q hq).1
    cases hm : f_mostN (A 20) wd c 4 with
    | none =>
      rw [hm] at h
      refine br2 (by decide) ?_
      exact cM_sets (k := k) (w := 1) rfl rfl hk (by omega) h
    | some q =>
      rw [hm] at h
      have hq := hlow q hm
      refine br1 (fun z => z (nI_pos' (by omega))) ?_
      exact cM_sets (k := k) (w := 1) rfl rfl hk (by omega) h
  | succ n ih =>
    intro w hw x6 x7
    refine pz_wp_ok (pz_Is_ok SX10_dines) [64] 100 ?_
    have hlow : ∀ q, f_mostN (A 20) wd c w = some q → q < 36 := fun q hq => (f_pk_lt hc w q hq).1
    have e1 : nI w + 1 = nI (w + 1) := nI_1 w
    refine br2 (fun z => ?_) ?_
    · have z : nI 4 ≤ nI w := z
      have := (nI_leI (by omega) (by omega)).mp z
      omega
    refine cM_beside rfl rfl hc (by omega) ?_
    have ih' := ih (w + 1) (by omega)
    rw [f_mostN_s] at ih'
    cases hnb : nb c w with
    | none =>
      rw [hnb] at ih'
      refine br1 (by decide) ?_
      refine br1 (fun z => z rfl) ?_
      exact qT (ih' (some (.int (-1))) (some (.int 0))) (by rw [← e1]; rfl) rfl rfl
    | some o =>
      rw [hnb] at ih'
      dsimp only at ih'
      have ho := nb_lt hc hnb
      refine br2 (fun z => absurd z (nI_pos (by omega))) ?_
      refine cM_parts rfl ho ?_
      refine cM_wades rfl hk ?_
      rw [hwd]
      refine cM_isIn3 1 wd.toInt rfl (Int32.toInt_toInt64 _) (fun g => ?_) (fun g => ?_)
      · rw [if_pos (by unfold f_mok; simp only [decide_eq_true_eq]; exact g)] at ih'
        refine br2 (by decide) ?_
        refine br2 (by decide) ?_
        cases hlo : f_mostN (A 20) wd c w with
        | none =>
          rw [hlo] at ih'
          refine br1 (by decide) ?_
          exact qT (ih' (some (.int (nI o))) (some (.int 1))) (by rw [← e1]; rfl) rfl rfl
        | some q =>
          rw [hlo] at ih'
          dsimp only at ih'
          have hq := hlow q hlo
          refine br2 (fun z => absurd z (nI_pos (by omega))) ?_
          refine cM_parts rfl ho ?_
          refine cM_parts rfl hq ⟨fun g => ?_, fun g => ?_⟩
          · rw [if_neg (by unfold f_btm; simp only [decide_eq_true_eq]; exact i_nlt.mpr g)] at ih'
            exact qT (ih' (some (.int (nI o))) (some (.int 1))) (by rw [← e1]; rfl) rfl rfl
          · rw [if_pos (by unfold f_btm; simp only [decide_eq_true_eq]; exact i_nle.mp g)] at ih'
            exact qT (ih' (some (.int (nI o))) (some (.int 1))) (by rw [← e1]; rfl) rfl rfl
      · rw [if_neg (by unfold f_mok; simp only [decide_eq_true_eq]; exact g)] at ih'
        refine br1 (fun z => z rfl) ?_
        refine br1 (fun z => z rfl) ?_
        exact qT (ih' (some (.int (nI o))) (some (.int 0))) (by rw [← e1]; rfl) rfl rfl
set_option maxRecDepth 4000 in
theorem cM_dines {k c : Nat} {x : Int32} (hx : x = nI k) (hk : k < 8) (hcc : A 20 (118 + 3 * k + 1) = nI c) (hc : c < 36) (h : Q (some (.int (f_ate (A 20) k c))) (mem (va_up A 20 (f_dine (A 20) k c)) F X)) : pz_C yX10_dines KX10_dines [.ref 69, .int x] (mem A F X) Q := by
  subst hx
  refine pz_C_of rfl rfl rfl (Nat.le_of_ble_eq_true rfl) (pz_wp_ok (pz_Is_ok SX10_dines) [64] 100 ?_)
  refine cM_of (w := 1) rfl rfl hk (by omega) ?_
  rw [hcc]
  refine cM_eats rfl hk hcc hc ?_
  refine cM_parts rfl hc ?_
  refine cM_within ?_
  have a1 : (82 : Int32) + nI c = nI (82 + c) := nI_add 82 c
  have b1 := qcl (82 + c) a1 (by omega)
  refine ⟨qin (82 + c) a1 (by omega) (by omega), ?_⟩
  refine ⟨qin (82 + c) a1 (by omega) (by omega), ?_⟩
  rw [b1]
  have hstart : ∀ A1 : qA, A1 = va_up A 20 (upd (A 20) (82 + c) (A 20 (82 + c) - f_ate (A 20) k c)) → mem A1 F X = mem (va_up A 20 (upd (A 20) (82 + c) (A 20 (82 + c) - f_ate (A 20) k c))) F X := fun A1 e => by rw [e]
  refine qC (cM_of (A := va_up A 20 (upd (A 20) (82 + c) (A 20 (82 + c) - f_ate (A 20) k c))) (F := F) (X := X) (k := k) (w := 2) rfl rfl hk (by omega) ?_) rfl rfl
  refine cM_sets (k := k) (w := 2) rfl rfl hk (by omega) ?_
  rw [vu_at, vu_vu]
  show pz_C _ _ _ (mem (va_up A 20 (f_eaten (A 20) k c)) F X) _
  refine cM_parts rfl hc ?_
  rw [vu_at]
  unfold f_dine f_goes at h
  refine ⟨fun g => ?_, fun g => ?_⟩
  · rw [if_pos g] at h
    refine tM_dines (A := va_up A 20 (f_eaten (A 20) k c)) (k := k) (c := c) hk hc ?_ 4 0 rfl none none
    rw [vu_at, vu_vu]
    exact h
  · rw [if_neg g] at h
    exact h
end MOD
