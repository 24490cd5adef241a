/-! the towns: flows, feasts, miceEat -/
theorem i_div_pos {x y : Int32} (hx : 0 ≤ x.toInt) (hy : 0 < y.toInt) : 0 ≤ (x / y).toInt := by
  have r := i_rng x
  have h1 : 0 ≤ x.toInt.tdiv y.toInt := Int.tdiv_nonneg hx (by omega)
  have h2 : x.toInt.tdiv y.toInt ≤ x.toInt := by
    rw [Int.tdiv_eq_ediv_of_nonneg hx]
    exact Int.ediv_le_self _ hx
  rw [Int32.toInt_div, Int.bmod_eq_of_le (by omega) (by omega)]
  exact h1
theorem min_fw {x p : Int32} (hx : 0 ≤ x.toInt) : (if x < p then x else p) = f_w x p := by
  unfold f_w
  have h0 : ¬ x < 0 := by rw [i_lt, show (0 : Int32).toInt = 0 from rfl]; omega
  rw [if_neg h0]
  by_cases h : x < p
  · have h2 : ¬ p < x := by rw [i_lt] at h ⊢; omega
    rw [if_pos h, if_neg h2]
  · rw [if_neg h]
    by_cases h2 : p < x
    · rw [if_pos h2]
    · rw [if_neg h2]
      rw [i_lt] at h h2
      exact (i_eq _ _).mpr (by omega)
theorem f_w_0 (x : Int32) : f_w x 0 = 0 := by
  unfold f_w
  by_cases h : x < 0
  · rw [if_pos h]
  · rw [if_neg h]
    by_cases h2 : 0 < x
    · rw [if_pos h2]
    · rw [if_neg h2]
      rw [i_lt] at h h2
      exact (i_eq _ _).mpr (by omega)
theorem f_flow_dry {t : Nat → Int32} {c : Nat} (h : t (82 + c) = 0) : f_flow t c = t := by
  unfold f_flow
  split
  · rfl
  · dsimp only
    rw [h, f_w_0, Int32.sub_zero]
    have e : upd t (82 + c) 0 = t := by
      rw [← h]; exact upd_s _ _
    rw [e, Int32.add_zero, upd_s]
/-- the lowest so far, and how low -/
def f_lw (t : Nat → Int32) (c : Nat) (o : Option Nat) : Int32 × Int32 := match o with
  | none => (nI c, 2147483647)
  | some q => (nI q, f_lev t q)
/-- the fullest so far, and how full -/
def f_fl (t : Nat → Int32) (c : Nat) (o : Option Nat) : Int32 × Int32 := match o with
  | none => (nI c, 0)
  | some q => (nI q, t (82 + q))
section POT
variable {A A1 : qA} {F : qF} {X : qX} {Q : pz_Q} {M : pz_M}
set_option maxRecDepth 8000 in
theorem tT0_fl113 {lo : Nat} (hlo : lo < 36) {g : Int32} {x1 x3 x4 : Option Value} (h : Q none (mem (va_up A 0 (upd (A 0) (82 + lo) (A 0 (82 + lo) + g))) F X)) : pz_T z0 KX7_flows Q 113 (0, 0) [some (.ref 4), x1, some (.int (nI lo)), x3, x4, some (.int g)] [] (mem A F X) := by
  refine pz_wp_ok (pz_Is_ok SX7_flows) [] 100 ?_
  have cl := qcl (x := nI lo) lo rfl (by omega)
  refine ⟨qin lo rfl hlo (by omega), ?_⟩
  refine ⟨qin lo rfl hlo (by omega), ?_⟩
  rw [cl, qm_1 hlo]
  rw [← mp0 hlo] at h
  exact h
set_option maxRecDepth 8000 in
theorem tT0_flows {c : Nat} (hc : c < 36) (hth : ∃ n, n ≤ 9 ∧ A 0 8 = nI n) (hL : ∀ q, q < 36 → f_lev (A 0) q < 2147483647) (h : Q none (mem (va_up A 0 (f_flow (A 0) c)) F X)) : ∀ (n w : Nat), w + n = 4 → ∀ x5 : Option Value, pz_T z0 KX7_flows Q 18 (0, 0) [some (.ref 4), some (.int (nI c)), some (.int (f_lw (A 0) c (f_lowN (A 0) c w)).1), some (.int (f_lw (A 0) c (f_lowN (A 0) c w)).2), some (.int (nI w)), x5] [] (mem A F X) := by
  intro n
  induction n with
  | zero =>
    intro w hw x5
    have hw : w = 4 := by omega
    subst hw
    refine pz_wp_ok (pz_Is_ok SX7_flows) [18, 113] 100 ?_
    obtain ⟨e1, e2⟩ := f_low_some (A 0) hc
    rw [e1]
    refine br1 (fun z => z (by decide)) ?_
    refine cT0_level rfl hc ?_
    unfold f_flow at h
    refine ⟨fun g => ?_, fun g => ?_⟩
    · have g : f_lev (A 0) c - f_lev (A 0) (f_low (A 0) c) ≤ 1 := g
      rw [if_pos g, vu_s] at h
      exact h
    · have g : ¬ f_lev (A 0) c - f_lev (A 0) (f_low (A 0) c) ≤ 1 := g
      rw [if_neg g] at h
      dsimp only at h
      have cc := qcl (x := nI c) c rfl (by omega)
      obtain ⟨n8, n8b, e8⟩ := hth
      have e9 : (1 : Int32) + A 0 8 = nI (1 + n8) := by rw [e8]; exact nI_add 1 n8
      have q8 : qm 4 6 1 (A 0) (2 : Int32).toNatClampNeg = A 0 8 := rfl
      have hth : ¬ (1 : Int32) + A 0 8 = 0 := by rw [e9]; exact nI_ne0 (by omega) (by omega)
      refine ⟨qin c rfl hc (by omega), ?_⟩
      refine ⟨by decide, ?_⟩
      refine ⟨qin 2 rfl (by omega) (by omega), ?_⟩
      refine ⟨hth, ?_⟩
      refine ⟨qin c rfl hc (by omega), ?_⟩
      refine ⟨qin c rfl hc (by omega), ?_⟩
      have hX : 0 ≤ ((f_lev (A 0) c - f_lev (A 0) (f_low (A 0) c)) / 2 / (1 + A 0 8)).toInt := by
        refine i_div_pos (i_div_pos ?_ (by decide)) ?_
        · rw [i_le, show (1 : Int32).toInt = 1 from rfl] at g
          omega
        · rw [e9, nIi (by omega)]
          omega
      rw [← min_fw hX] at h
      rw [cc, qm_1 hc]
      refine qT (tT0_fl113 (A := va_up A 0 (upd (A 0) (82 + c) (A 0 (82 + c) - (if (f_lev (A 0) c - f_lev (A 0) (f_low (A 0) c)) / 2 / (1 + A 0 8) < A 0 (82 + c) then (f_lev (A 0) c - f_lev (A 0) (f_low (A 0) c)) / 2 / (1 + A 0 8) else A 0 (82 + c))))) (lo := f_low (A 0) c) e2 ?_) rfl rfl (mp0 hc _)
      rw [vu_at, vu_vu]
      exact h
  | succ n ih =>
    intro w hw x5
    refine pz_wp_ok (pz_Is_ok SX7_flows) [18] 100 ?_
    have e1 : nI w + 1 = nI (w + 1) := nI_1 w
    refine br2 (n_ge (b := 4) (by omega) (by omega) (by omega)) ?_
    refine cP_beside rfl rfl hc (by omega) ?_
    have ih' := ih (w + 1) (by omega)
    rw [f_lowN_s] at ih'
    cases hnb : nb c w with
    | none =>
      rw [hnb] at ih'
      refine br1 (by decide) ?_
      exact qT (ih' (some (.int (-1)))) (by rw [← e1]; rfl) rfl rfl
    | some q =>
      rw [hnb] at ih'
      dsimp only at ih'
      have hq := nb_lt hc hnb
      refine br2 (i_nlt.mpr (nI_pos' (by omega))) ?_
      refine cT0_level rfl hq ?_
      cases hlo : f_lowN (A 0) c w with
      | none =>
        rw [hlo] at ih'
        refine br2 (fun z => ?_) ?_
        · have z : (2147483647 : Int32) ≤ f_lev (A 0) q := z
          have := hL q hq
          rw [i_lt] at this
          rw [i_le] at z
          omega
        refine cT0_level rfl hq ?_
        exact qT (ih' (some (.int (nI q)))) (by rw [← e1]; rfl) rfl rfl
      | some p =>
        rw [hlo] at ih'
        dsimp only at ih'
        refine ⟨fun g => ?_, fun g => ?_⟩
        · have g : f_lev (A 0) p ≤ f_lev (A 0) q := g
          rw [if_neg (by unfold f_btl; simp only [decide_eq_true_eq]; exact i_nlt.mpr g)] at ih'
          exact qT (ih' (some (.int (nI q)))) (by rw [← e1]; rfl) rfl rfl
        · have g : ¬ f_lev (A 0) p ≤ f_lev (A 0) q := g
          rw [if_pos (by unfold f_btl; simp only [decide_eq_true_eq]; exact i_nle.mp g)] at ih'
          refine cT0_level rfl hq ?_
          exact qT (ih' (some (.int (nI q)))) (by rw [← e1]; rfl) rfl rfl
theorem cT0_flows {c : Nat} {x : Int32} (hx : x = nI c) (hc : c < 36) (hth : ∃ n, n ≤ 9 ∧ A 0 8 = nI n) (hL : ∀ q, q < 36 → f_lev (A 0) q < 2147483647) (h : Q none (mem (va_up A 0 (f_flow (A 0) c)) F X)) : pz_C yX7_flows KX7_flows [.ref 4, .int x] (mem A F X) Q := by
  subst hx
  refine pz_C_of rfl rfl rfl (Nat.le_of_ble_eq_true rfl) (pz_wp_ok (pz_Is_ok SX7_flows) [18] 100 ?_)
  have cc := qcl (x := nI c) c rfl (by omega)
  refine ⟨qin c rfl hc (by omega), ?_⟩
  rw [cc, qm_1 hc]
  refine ⟨fun g => ?_, fun g => ?_⟩
  · exact tT0_flows hc hth hL h 4 0 rfl none
  · have g : A 0 (82 + c) = 0 := g
    rw [f_flow_dry g, vu_s] at h
    exact h
set_option maxRecDepth 8000 in
theorem tT0_full {c : Nat} {wd : Int32} (hc : c < 36) (h : Q (some (.int (nI (f_to (f_mostN (A 0) wd c 4) c)))) (mem A F X)) : ∀ (n w : Nat), w + n = 4 → ∀ x6 : Option Value, pz_T z0 KX7_fullestBeside Q 8 (0, 0) [some (.ref 4), some (.int (nI c)), some (.int wd), some (.int (f_fl (A 0) c (f_mostN (A 0) wd c w)).1), some (.int (f_fl (A 0) c (f_mostN (A 0) wd c w)).2), some (.int (nI w)), x6] [] (mem A F X) := by
  intro n
  induction n with
  | zero =>
    intro w hw x6
    have hw : w = 4 := by omega
    subst hw
    refine pz_wp_ok (pz_Is_ok SX7_fullestBeside) [8] 100 ?_
    refine br1 (fun z => z (by decide)) ?_
    cases hm : f_mostN (A 0) wd c 4 with
    | none => rw [hm] at h; exact h
    | some q => rw [hm] at h; exact h
  | succ n ih =>
    intro w hw x6
    refine pz_wp_ok (pz_Is_ok SX7_fullestBeside) [8] 100 ?_
    have e1 : nI w + 1 = nI (w + 1) := nI_1 w
    refine br2 (n_ge (b := 4) (by omega) (by omega) (by omega)) ?_
    refine cP_beside rfl rfl hc (by omega) ?_
    have ih' := ih (w + 1) (by omega)
    rw [f_mostN_s] at ih'
    cases hnb : nb c w with
    | none =>
      rw [hnb] at ih'
      refine br1 (by decide) ?_
      exact qT (ih' (some (.int (-1)))) (by rw [← e1]; rfl) rfl rfl
    | some q =>
      rw [hnb] at ih'
      dsimp only at ih'
      have hq := nb_lt hc hnb
      have cq := qcl (x := nI q) q rfl (by omega)
      refine br2 (i_nlt.mpr (nI_pos' (by omega))) ?_
      refine ⟨qin q rfl hq (by omega), ?_⟩
      have er : qm 36 82 1 (A 0) (ov (some q)).toNatClampNeg = A 0 (82 + q) := by
        show qm 36 82 1 (A 0) (nI q).toNatClampNeg = _
        rw [cq, qm_1 hq]
      rw [er]
      have hmok : f_mok (A 0) wd q = true ↔ (1 ≤ (A 0 (82 + q)).toInt ∧ (A 0 (82 + q)).toInt ≤ wd.toInt) := by unfold f_mok; exact decide_eq_true_iff
      have hprev : ∀ p, f_mostN (A 0) wd c w = some p → 1 ≤ (A 0 (82 + p)).toInt := fun p hp => by
        have := (f_pk_lt hc w p hp).2
        exact (of_decide_eq_true this).1
      cases hlo : f_mostN (A 0) wd c w with
      | none =>
        rw [hlo] at ih'
        dsimp only at ih'
        refine ⟨fun g => ?_, fun g => ?_⟩
        · have g : A 0 (82 + q) ≤ 0 := g
          rw [i_le, show (0 : Int32).toInt = 0 from rfl] at g
          rw [if_neg (fun z => by have := (hmok.mp z).1; omega)] at ih'
          exact qT (ih' (some (.int (nI q)))) (by rw [← e1]; rfl) rfl rfl
        · have g : ¬ A 0 (82 + q) ≤ 0 := g
          rw [i_le, show (0 : Int32).toInt = 0 from rfl] at g
          refine ⟨qin q rfl hq (by omega), ?_⟩
          rw [er]
          refine ⟨fun g2 => ?_, fun g2 => ?_⟩
          · have g2 : wd < A 0 (82 + q) := g2
            rw [i_lt] at g2
            rw [if_neg (fun z => by have := (hmok.mp z).2; omega)] at ih'
            exact qT (ih' (some (.int (nI q)))) (by rw [← e1]; rfl) rfl rfl
          · have g2 : ¬ wd < A 0 (82 + q) := g2
            rw [i_lt] at g2
            rw [if_pos (hmok.mpr ⟨by omega, by omega⟩)] at ih'
            refine ⟨qin q rfl hq (by omega), ?_⟩
            rw [er]
            exact qT (ih' (some (.int (nI q)))) (by rw [← e1]; rfl) rfl rfl
      | some p =>
        rw [hlo] at ih'
        dsimp only at ih'
        have hp1 := hprev p hlo
        refine ⟨fun g => ?_, fun g => ?_⟩
        · have g : A 0 (82 + q) ≤ A 0 (82 + p) := g
          have gb : ¬ f_btm (A 0) q p = true := by unfold f_btm; simp only [decide_eq_true_eq]; exact i_nlt.mpr g
          rw [if_neg gb] at ih'
          rw [ite_self] at ih'
          exact qT (ih' (some (.int (nI q)))) (by rw [← e1]; rfl) rfl rfl
        · have g : ¬ A 0 (82 + q) ≤ A 0 (82 + p) := g
          have gb : f_btm (A 0) q p = true := by unfold f_btm; simp only [decide_eq_true_eq]; exact i_nle.mp g
          rw [if_pos gb] at ih'
          rw [i_le] at g
          refine ⟨qin q rfl hq (by omega), ?_⟩
          rw [er]
          refine ⟨fun g2 => ?_, fun g2 => ?_⟩
          · have g2 : wd < A 0 (82 + q) := g2
            rw [i_lt] at g2
            rw [if_neg (fun z => by have := (hmok.mp z).2; omega)] at ih'
            exact qT (ih' (some (.int (nI q)))) (by rw [← e1]; rfl) rfl rfl
          · have g2 : ¬ wd < A 0 (82 + q) := g2
            rw [i_lt] at g2
            rw [if_pos (hmok.mpr ⟨by omega, by omega⟩)] at ih'
            refine ⟨qin q rfl hq (by omega), ?_⟩
            rw [er]
            exact qT (ih' (some (.int (nI q)))) (by rw [← e1]; rfl) rfl rfl
theorem cT0_full {c : Nat} {x wd : Int32} (hx : x = nI c) (hc : c < 36) (h : Q (some (.int (nI (f_to (f_mostN (A 0) wd c 4) c)))) (mem A F X)) : pz_C yX7_fullestBeside KX7_fullestBeside [.ref 4, .int x, .int wd] (mem A F X) Q := by
  subst hx
  refine pz_C_of rfl rfl rfl (Nat.le_of_ble_eq_true rfl) (pz_wp_ok (pz_Is_ok SX7_fullestBeside) [8] 100 ?_)
  exact tT0_full hc h 4 0 rfl none
set_option maxRecDepth 8000 in
theorem tT0_feast52 {k c : Nat} {x3 : Option Value} (hk : k < 8) (hc : c < 36) (hp : 0 ≤ (A 0 (82 + c)).toInt) (h : Q none (mem (va_up A 0 (f_goes (A 0) k c)) F X)) : pz_T z0 KX7_feasts Q 52 (0, 0) [some (.ref 4), some (.int (nI k)), some (.int (nI c)), x3] [] (mem A F X) := by
  have cc := qcl (x := nI c) c rfl (by omega)
  have ck := qcl (x := nI k) k rfl (by omega)
  refine pz_wp_ok (pz_Is_ok SX7_feasts) [] 100 ?_
  unfold f_goes at h
  refine ⟨qin c rfl hc (by omega), ?_⟩
  rw [cc, qm_1 hc]
  refine ⟨fun g => ?_, fun g => ?_⟩
  · have g : ¬ A 0 (82 + c) = 0 := g
    rw [i_eq, show (0 : Int32).toInt = 0 from rfl] at g
    rw [if_neg (by rw [i_le, show (0 : Int32).toInt = 0 from rfl]; omega), vu_s] at h
    exact h
  · have g : A 0 (82 + c) = 0 := g
    rw [if_pos (by rw [g]; decide)] at h
    refine ⟨qin k rfl hk (by omega), ?_⟩
    rw [ck, qm_k hk]
    refine cP_wades ?_
    refine cT0_full rfl hc ?_
    refine ⟨qin k rfl hk (by omega), ?_⟩
    rw [ck]
    rw [← ml0 hk] at h
    exact h
set_option maxRecDepth 8000 in
theorem tT0_feast42 {k : Nat} {x2 : Option Value} {g : Int32} (hk : k < 8) {u : Nat → Int32} (hu : u = upd (A 0) (118 + 3 * k + 2) (A 0 (118 + 3 * k + 2) + g)) (h : ∀ A1 : qA, A1 = va_up A 0 u → pz_T z0 KX7_feasts Q 52 (0, 0) [some (.ref 4), some (.int (nI k)), x2, some (.int g)] [] (mem A1 F X)) : pz_T z0 KX7_feasts Q 42 (0, 0) [some (.ref 4), some (.int (nI k)), x2, some (.int g)] [] (mem A F X) := by
  have ck := qcl (x := nI k) k rfl (by omega)
  refine pz_wp_ok (pz_Is_ok SX7_feasts) [52] 100 ?_
  refine ⟨qin k rfl hk (by omega), ?_⟩
  refine ⟨qin k rfl hk (by omega), ?_⟩
  rw [ck, qm_a hk]
  refine qT (h _ rfl) rfl rfl ?_
  rw [hu]
  exact ma0 hk _
set_option maxRecDepth 8000 in
theorem cT0_feasts {k c : Nat} {x : Int32} (hx : x = nI k) (hk : k < 8) (hcc : A 0 (118 + 3 * k + 1) = nI c) (hc : c < 36) (hp : 0 ≤ (A 0 (82 + c)).toInt) (h : Q none (mem (va_up A 0 (f_dine (A 0) k c)) F X)) : pz_C yX7_feasts KX7_feasts [.ref 4, .int x] (mem A F X) Q := by
  subst hx
  have cc := qcl (x := nI c) c rfl (by omega)
  have ck := qcl (x := nI k) k rfl (by omega)
  refine pz_C_of rfl rfl rfl (Nat.le_of_ble_eq_true rfl) (pz_wp_ok (pz_Is_ok SX7_feasts) [42] 100 ?_)
  refine ⟨qin k rfl hk (by omega), ?_⟩
  rw [ck, qm_l hk, hcc]
  refine ⟨qin c rfl hc (by omega), ?_⟩
  rw [cc, qm_1 hc]
  refine ⟨qin k rfl hk (by omega), ?_⟩
  rw [ck, qm_k hk]
  refine ⟨qin c rfl hc (by omega), ?_⟩
  rw [cc, qm_1 hc]
  refine cP_eats ?_
  refine ⟨qin c rfl hc (by omega), ?_⟩
  refine ⟨qin c rfl hc (by omega), ?_⟩
  rw [cc, qm_1 hc]
  have em := min_fw (x := f_eats (A 0 (118 + 3 * k + 0)) (A 0 (82 + c))) (p := A 0 (82 + c)) (f_eats_in _ _)
  rw [em]
  have ea : f_w (f_eats (A 0 (118 + 3 * k + 0)) (A 0 (82 + c))) (A 0 (82 + c)) = f_ate (A 0) k c := rfl
  rw [ea]
  have m1 := f_w_in (x := f_eats (A 0 (118 + 3 * k + 0)) (A 0 (82 + c))) hp
  rw [ea] at m1
  have rp := i_rng (A 0 (82 + c))
  have e1 : (A 0 (82 + c) - f_ate (A 0) k c).toInt = (A 0 (82 + c)).toInt - (f_ate (A 0) k c).toInt := i_sub (by omega) (by omega)
  have he : f_eaten (A 0) k c = upd (upd (A 0) (82 + c) (A 0 (82 + c) - f_ate (A 0) k c)) (118 + 3 * k + 2) (upd (A 0) (82 + c) (A 0 (82 + c) - f_ate (A 0) k c) (118 + 3 * k + 2) + f_ate (A 0) k c) := rfl
  have hpe : 0 ≤ (f_eaten (A 0) k c (82 + c)).toInt := by
    rw [he, upd_ne _ _ (by omega), upd_at, e1]
    omega
  unfold f_dine at h
  generalize f_eaten (A 0) k c = u at h he hpe
  refine qT (tT0_feast42 (A := va_up A 0 (upd (A 0) (82 + c) (A 0 (82 + c) - f_ate (A 0) k c))) hk (u := u) (by rw [vu_at]; exact he) (fun A1 hA1 => ?_)) rfl rfl (mp0 hc _)
  subst hA1
  rw [vu_vu]
  refine tT0_feast52 (A := va_up A 0 u) hk hc (by rw [vu_at]; exact hpe) ?_
  rw [vu_at, vu_vu]
  exact h
set_option maxRecDepth 8000 in
theorem tT0_mice16 {t1 : Nat → Int32} (hA : A 0 = t1) (hw : ∀ c, c < 36 → qIn 0 25 (t1 (46 + c))) (h : Q none (mem (va_up A 0 (f_bite (f_dr t1))) F X)) {x1 : Option Value} : pz_T z0 KX7_miceEat Q 16 (0, 0) [some (.ref 4), x1] [] (mem A F X) := by
  refine pz_wp_ok (pz_Is_ok SX7_miceEat) [] 100 ?_
  refine cT0_draw (fun z hz => ?_)
  have ed : upd (A 0) 5 z = f_dr t1 := by rw [hz, hA]; rfl
  have ez : z = f_dr t1 5 := by rw [hz, hA]; exact (upd_at _ _ _).symm
  rw [ed, ez]
  clear hz ed ez
  have hw2 : ∀ c, c < 36 → qIn 0 25 (f_dr t1 (46 + c)) := fun c hc => by rw [f_dr_out _ (by omega)]; exact hw c hc
  generalize f_dr t1 = t2 at h hw2 ⊢
  refine ⟨by decide, ?_⟩
  obtain ⟨j, hj, ej⟩ := f_rem_g (t2 5) (d := 36) (by omega) (by omega)
  have ej' : f_g (t2 5) - f_g (t2 5) / 36 * 36 = nI j := ej
  have cj := qcl _ ej' (by omega)
  have eat : f_at t2 = 46 + j := by
    unfold f_at
    have : f_rem (f_g (t2 5)) 36 = nI j := ej
    rw [this, nI_clamp (by omega)]
  unfold f_bite at h
  rw [eat] at h
  refine ⟨qin _ ej' hj (by omega), ?_⟩
  refine ⟨qin _ ej' hj (by omega), ?_⟩
  rw [cj]
  have e46 : qm 36 46 1 (va_up A 0 t2 0) j = t2 (46 + j) := by rw [vu_at]; exact qm_1 hj
  rw [e46]
  obtain ⟨w1, w2⟩ := hw2 j hj
  have es : (t2 (46 + j) - 1).toInt = (t2 (46 + j)).toInt - 1 := i_sub (x := t2 (46 + j)) (y := 1) (by rw [show (1 : Int32).toInt = 1 from rfl]; omega) (by rw [show (1 : Int32).toInt = 1 from rfl]; omega)
  have emx : (if (0 : Int32) < t2 (46 + j) - 1 then t2 (46 + j) - 1 else 0) = f_w (t2 (46 + j) - 1) 25 := by
    have z0' : (0 : Int32).toInt = 0 := rfl
    have z25 : (25 : Int32).toInt = 25 := rfl
    unfold f_w
    by_cases z : (0 : Int32) < t2 (46 + j) - 1
    · have y1 := (i_lt _ _).mp z
      rw [es, z0'] at y1
      rw [if_pos z, if_neg (fun q => by rw [i_lt, es, z0'] at q; omega), if_neg (fun q => by rw [i_lt, es, z25] at q; omega)]
    · have y1 : ¬ (0 : Int32).toInt < (t2 (46 + j) - 1).toInt := fun q => z ((i_lt _ _).mpr q)
      rw [es, z0'] at y1
      rw [if_neg z]
      by_cases z2 : t2 (46 + j) - 1 < 0
      · rw [if_pos z2]
      · have y2 : ¬ (t2 (46 + j) - 1).toInt < (0 : Int32).toInt := fun q => z2 ((i_lt _ _).mpr q)
        rw [es, z0'] at y2
        rw [if_neg z2, if_neg (fun q => by rw [i_lt, es, z25] at q; omega)]
        exact (i_eq _ _).mpr (by rw [es, z0']; omega)
  rw [← emx] at h
  have hm := mw0 (A := va_up A 0 t2) (F := F) (X := X) hj (if (0 : Int32) < t2 (46 + j) - 1 then t2 (46 + j) - 1 else 0)
  rw [vu_vu, vu_at] at hm
  rw [← hm] at h
  exact h
set_option maxRecDepth 8000 in
theorem cT0_mice (hw : ∀ c, c < 36 → qIn 0 25 (A 0 (46 + c))) (h : Q none (mem (va_up A 0 (f_mice (A 0))) F X)) : pz_C yX7_miceEat KX7_miceEat [.ref 4] (mem A F X) Q := by
  refine pz_C_of rfl rfl rfl (Nat.le_of_ble_eq_true rfl) (pz_wp_ok (pz_Is_ok SX7_miceEat) [16] 100 ?_)
  refine cT0_draw (fun z hz => ?_)
  have ed : upd (A 0) 5 z = f_dr (A 0) := by rw [hz]; rfl
  rw [ed]
  have e9 : f_dr (A 0) 9 = A 0 9 := f_dr_out _ (by omega)
  have hm1 : A 0 9 ≤ f_rem (f_g z) 100 → f_mice (A 0) = f_dr (A 0) := fun g => by unfold f_mice; rw [← hz, if_pos g]
  have hm2 : ¬ A 0 9 ≤ f_rem (f_g z) 100 → f_mice (A 0) = f_bite (f_dr (f_dr (A 0))) := fun g => by unfold f_mice; rw [← hz, if_neg g]
  clear hz ed
  have hw2 : ∀ c, c < 36 → qIn 0 25 (f_dr (A 0) (46 + c)) := fun c hc => by rw [f_dr_out _ (by omega)]; exact hw c hc
  generalize f_mice (A 0) = tm at h hm1 hm2
  generalize f_dr (A 0) = t1 at e9 hm1 hm2 hw2 ⊢
  refine ⟨by decide, ?_⟩
  refine ⟨qin 3 rfl (by omega) (by omega), ?_⟩
  refine ⟨fun g => ?_, fun g => ?_⟩
  · have g : t1 9 ≤ f_rem (f_g z) 100 := g
    rw [e9] at g
    have hm := hm1 g
    subst hm
    exact h
  · have g : ¬ t1 9 ≤ f_rem (f_g z) 100 := g
    rw [e9] at g
    have hm := hm2 g
    subst hm
    refine tT0_mice16 (A := va_up A 0 t1) (vu_at _ _ _) hw2 ?_
    rw [vu_vu]
    exact h
set_option maxRecDepth 8000 in
theorem tT2_fl113 {lo : Nat} (hlo : lo < 36) {g : Int32} {x1 x3 x4 : Option Value} (h : Q none (mem (va_up A 2 (upd (A 2) (82 + lo) (A 2 (82 + lo) + g))) F X)) : pz_T z0 KX7_flows Q 113 (0, 0) [some (.ref 20), x1, some (.int (nI lo)), x3, x4, some (.int g)] [] (mem A F X) := by
  refine pz_wp_ok (pz_Is_ok SX7_flows) [] 100 ?_
  have cl := qcl (x := nI lo) lo rfl (by omega)
  refine ⟨qin lo rfl hlo (by omega), ?_⟩
  refine ⟨qin lo rfl hlo (by omega), ?_⟩
  rw [cl, qm_1 hlo]
  rw [← mp2 hlo] at h
  exact h
set_option maxRecDepth 8000 in
theorem tT2_flows {c : Nat} (hc : c < 36) (hth : ∃ n, n ≤ 9 ∧ A 2 8 = nI n) (hL : ∀ q, q < 36 → f_lev (A 2) q < 2147483647) (h : Q none (mem (va_up A 2 (f_flow (A 2) c)) F X)) : ∀ (n w : Nat), w + n = 4 → ∀ x5 : Option Value, pz_T z0 KX7_flows Q 18 (0, 0) [some (.ref 20), some (.int (nI c)), some (.int (f_lw (A 2) c (f_lowN (A 2) c w)).1), some (.int (f_lw (A 2) c (f_lowN (A 2) c w)).2), some (.int (nI w)), x5] [] (mem A F X) := by
  intro n
  induction n with
  | zero =>
    intro w hw x5
    have hw : w = 4 := by omega
    subst hw
    refine pz_wp_ok (pz_Is_ok SX7_flows) [18, 113] 100 ?_
    obtain ⟨e1, e2⟩ := f_low_some (A 2) hc
    rw [e1]
    refine br1 (fun z => z (by decide)) ?_
    refine cT2_level rfl hc ?_
    unfold f_flow at h
    refine ⟨fun g => ?_, fun g => ?_⟩
    · have g : f_lev (A 2) c - f_lev (A 2) (f_low (A 2) c) ≤ 1 := g
      rw [if_pos g, vu_s] at h
      exact h
    · have g : ¬ f_lev (A 2) c - f_lev (A 2) (f_low (A 2) c) ≤ 1 := g
      rw [if_neg g] at h
      dsimp only at h
      have cc := qcl (x := nI c) c rfl (by omega)
      obtain ⟨n8, n8b, e8⟩ := hth
      have e9 : (1 : Int32) + A 2 8 = nI (1 + n8) := by rw [e8]; exact nI_add 1 n8
      have q8 : qm 4 6 1 (A 2) (2 : Int32).toNatClampNeg = A 2 8 := rfl
      have hth : ¬ (1 : Int32) + A 2 8 = 0 := by rw [e9]; exact nI_ne0 (by omega) (by omega)
      refine ⟨qin c rfl hc (by omega), ?_⟩
      refine ⟨by decide, ?_⟩
      refine ⟨qin 2 rfl (by omega) (by omega), ?_⟩
      refine ⟨hth, ?_⟩
      refine ⟨qin c rfl hc (by omega), ?_⟩
      refine ⟨qin c rfl hc (by omega), ?_⟩
      have hX : 0 ≤ ((f_lev (A 2) c - f_lev (A 2) (f_low (A 2) c)) / 2 / (1 + A 2 8)).toInt := by
        refine i_div_pos (i_div_pos ?_ (by decide)) ?_
        · rw [i_le, show (1 : Int32).toInt = 1 from rfl] at g
          omega
        · rw [e9, nIi (by omega)]
          omega
      rw [← min_fw hX] at h
      rw [cc, qm_1 hc]
      refine qT (tT2_fl113 (A := va_up A 2 (upd (A 2) (82 + c) (A 2 (82 + c) - (if (f_lev (A 2) c - f_lev (A 2) (f_low (A 2) c)) / 2 / (1 + A 2 8) < A 2 (82 + c) then (f_lev (A 2) c - f_lev (A 2) (f_low (A 2) c)) / 2 / (1 + A 2 8) else A 2 (82 + c))))) (lo := f_low (A 2) c) e2 ?_) rfl rfl (mp2 hc _)
      rw [vu_at, vu_vu]
      exact h
  | succ n ih =>
    intro w hw x5
    refine pz_wp_ok (pz_Is_ok SX7_flows) [18] 100 ?_
    have e1 : nI w + 1 = nI (w + 1) := nI_1 w
    refine br2 (n_ge (b := 4) (by omega) (by omega) (by omega)) ?_
    refine cP_beside rfl rfl hc (by omega) ?_
    have ih' := ih (w + 1) (by omega)
    rw [f_lowN_s] at ih'
    cases hnb : nb c w with
    | none =>
      rw [hnb] at ih'
      refine br1 (by decide) ?_
      exact qT (ih' (some (.int (-1)))) (by rw [← e1]; rfl) rfl rfl
    | some q =>
      rw [hnb] at ih'
      dsimp only at ih'
      have hq := nb_lt hc hnb
      refine br2 (i_nlt.mpr (nI_pos' (by omega))) ?_
      refine cT2_level rfl hq ?_
      cases hlo : f_lowN (A 2) c w with
      | none =>
        rw [hlo] at ih'
        refine br2 (fun z => ?_) ?_
        · have z : (2147483647 : Int32) ≤ f_lev (A 2) q := z
          have := hL q hq
          rw [i_lt] at this
          rw [i_le] at z
          omega
        refine cT2_level rfl hq ?_
        exact qT (ih' (some (.int (nI q)))) (by rw [← e1]; rfl) rfl rfl
      | some p =>
        rw [hlo] at ih'
        dsimp only at ih'
        refine ⟨fun g => ?_, fun g => ?_⟩
        · have g : f_lev (A 2) p ≤ f_lev (A 2) q := g
          rw [if_neg (by unfold f_btl; simp only [decide_eq_true_eq]; exact i_nlt.mpr g)] at ih'
          exact qT (ih' (some (.int (nI q)))) (by rw [← e1]; rfl) rfl rfl
        · have g : ¬ f_lev (A 2) p ≤ f_lev (A 2) q := g
          rw [if_pos (by unfold f_btl; simp only [decide_eq_true_eq]; exact i_nle.mp g)] at ih'
          refine cT2_level rfl hq ?_
          exact qT (ih' (some (.int (nI q)))) (by rw [← e1]; rfl) rfl rfl
theorem cT2_flows {c : Nat} {x : Int32} (hx : x = nI c) (hc : c < 36) (hth : ∃ n, n ≤ 9 ∧ A 2 8 = nI n) (hL : ∀ q, q < 36 → f_lev (A 2) q < 2147483647) (h : Q none (mem (va_up A 2 (f_flow (A 2) c)) F X)) : pz_C yX7_flows KX7_flows [.ref 20, .int x] (mem A F X) Q := by
  subst hx
  refine pz_C_of rfl rfl rfl (Nat.le_of_ble_eq_true rfl) (pz_wp_ok (pz_Is_ok SX7_flows) [18] 100 ?_)
  have cc := qcl (x := nI c) c rfl (by omega)
  refine ⟨qin c rfl hc (by omega), ?_⟩
  rw [cc, qm_1 hc]
  refine ⟨fun g => ?_, fun g => ?_⟩
  · exact tT2_flows hc hth hL h 4 0 rfl none
  · have g : A 2 (82 + c) = 0 := g
    rw [f_flow_dry g, vu_s] at h
    exact h
set_option maxRecDepth 8000 in
theorem tT2_full {c : Nat} {wd : Int32} (hc : c < 36) (h : Q (some (.int (nI (f_to (f_mostN (A 2) wd c 4) c)))) (mem A F X)) : ∀ (n w : Nat), w + n = 4 → ∀ x6 : Option Value, pz_T z0 KX7_fullestBeside Q 8 (0, 0) [some (.ref 20), some (.int (nI c)), some (.int wd), some (.int (f_fl (A 2) c (f_mostN (A 2) wd c w)).1), some (.int (f_fl (A 2) c (f_mostN (A 2) wd c w)).2), some (.int (nI w)), x6] [] (mem A F X) := by
  intro n
  induction n with
  | zero =>
    intro w hw x6
    have hw : w = 4 := by omega
    subst hw
    refine pz_wp_ok (pz_Is_ok SX7_fullestBeside) [8] 100 ?_
    refine br1 (fun z => z (by decide)) ?_
    cases hm : f_mostN (A 2) wd c 4 with
    | none => rw [hm] at h; exact h
    | some q => rw [hm] at h; exact h
  | succ n ih =>
    intro w hw x6
    refine pz_wp_ok (pz_Is_ok SX7_fullestBeside) [8] 100 ?_
    have e1 : nI w + 1 = nI (w + 1) := nI_1 w
    refine br2 (n_ge (b := 4) (by omega) (by omega) (by omega)) ?_
    refine cP_beside rfl rfl hc (by omega) ?_
    have ih' := ih (w + 1) (by omega)
    rw [f_mostN_s] at ih'
    cases hnb : nb c w with
    | none =>
      rw [hnb] at ih'
      refine br1 (by decide) ?_
      exact qT (ih' (some (.int (-1)))) (by rw [← e1]; rfl) rfl rfl
    | some q =>
      rw [hnb] at ih'
      dsimp only at ih'
      have hq := nb_lt hc hnb
      have cq := qcl (x := nI q) q rfl (by omega)
      refine br2 (i_nlt.mpr (nI_pos' (by omega))) ?_
      refine ⟨qin q rfl hq (by omega), ?_⟩
      have er : qm 36 82 1 (A 2) (ov (some q)).toNatClampNeg = A 2 (82 + q) := by
        show qm 36 82 1 (A 2) (nI q).toNatClampNeg = _
        rw [cq, qm_1 hq]
      rw [er]
      have hmok : f_mok (A 2) wd q = true ↔ (1 ≤ (A 2 (82 + q)).toInt ∧ (A 2 (82 + q)).toInt ≤ wd.toInt) := by unfold f_mok; exact decide_eq_true_iff
      have hprev : ∀ p, f_mostN (A 2) wd c w = some p → 1 ≤ (A 2 (82 + p)).toInt := fun p hp => by
        have := (f_pk_lt hc w p hp).2
        exact (of_decide_eq_true this).1
      cases hlo : f_mostN (A 2) wd c w with
      | none =>
        rw [hlo] at ih'
        dsimp only at ih'
        refine ⟨fun g => ?_, fun g => ?_⟩
        · have g : A 2 (82 + q) ≤ 0 := g
          rw [i_le, show (0 : Int32).toInt = 0 from rfl] at g
          rw [if_neg (fun z => by have := (hmok.mp z).1; omega)] at ih'
          exact qT (ih' (some (.int (nI q)))) (by rw [← e1]; rfl) rfl rfl
        · have g : ¬ A 2 (82 + q) ≤ 0 := g
          rw [i_le, show (0 : Int32).toInt = 0 from rfl] at g
          refine ⟨qin q rfl hq (by omega), ?_⟩
          rw [er]
          refine ⟨fun g2 => ?_, fun g2 => ?_⟩
          · have g2 : wd < A 2 (82 + q) := g2
            rw [i_lt] at g2
            rw [if_neg (fun z => by have := (hmok.mp z).2; omega)] at ih'
            exact qT (ih' (some (.int (nI q)))) (by rw [← e1]; rfl) rfl rfl
          · have g2 : ¬ wd < A 2 (82 + q) := g2
            rw [i_lt] at g2
            rw [if_pos (hmok.mpr ⟨by omega, by omega⟩)] at ih'
            refine ⟨qin q rfl hq (by omega), ?_⟩
            rw [er]
            exact qT (ih' (some (.int (nI q)))) (by rw [← e1]; rfl) rfl rfl
      | some p =>
        rw [hlo] at ih'
        dsimp only at ih'
        have hp1 := hprev p hlo
        refine ⟨fun g => ?_, fun g => ?_⟩
        · have g : A 2 (82 + q) ≤ A 2 (82 + p) := g
          have gb : ¬ f_btm (A 2) q p = true := by unfold f_btm; simp only [decide_eq_true_eq]; exact i_nlt.mpr g
          rw [if_neg gb] at ih'
          rw [ite_self] at ih'
          exact qT (ih' (some (.int (nI q)))) (by rw [← e1]; rfl) rfl rfl
        · have g : ¬ A 2 (82 + q) ≤ A 2 (82 + p) := g
          have gb : f_btm (A 2) q p = true := by unfold f_btm; simp only [decide_eq_true_eq]; exact i_nle.mp g
          rw [if_pos gb] at ih'
          rw [i_le] at g
          refine ⟨qin q rfl hq (by omega), ?_⟩
          rw [er]
          refine ⟨fun g2 => ?_, fun g2 => ?_⟩
          · have g2 : wd < A 2 (82 + q) := g2
            rw [i_lt] at g2
            rw [if_neg (fun z => by have := (hmok.mp z).2; omega)] at ih'
            exact qT (ih' (some (.int (nI q)))) (by rw [← e1]; rfl) rfl rfl
          · have g2 : ¬ wd < A 2 (82 + q) := g2
            rw [i_lt] at g2
            rw [if_pos (hmok.mpr ⟨by omega, by omega⟩)] at ih'
            refine ⟨qin q rfl hq (by omega), ?_⟩
            rw [er]
            exact qT (ih' (some (.int (nI q)))) (by rw [← e1]; rfl) rfl rfl
theorem cT2_full {c : Nat} {x wd : Int32} (hx : x = nI c) (hc : c < 36) (h : Q (some (.int (nI (f_to (f_mostN (A 2) wd c 4) c)))) (mem A F X)) : pz_C yX7_fullestBeside KX7_fullestBeside [.ref 20, .int x, .int wd] (mem A F X) Q := by
  subst hx
  refine pz_C_of rfl rfl rfl (Nat.le_of_ble_eq_true rfl) (pz_wp_ok (pz_Is_ok SX7_fullestBeside) [8] 100 ?_)
  exact tT2_full hc h 4 0 rfl none
set_option maxRecDepth 8000 in
theorem tT2_feast52 {k c : Nat} {x3 : Option Value} (hk : k < 8) (hc : c < 36) (hp : 0 ≤ (A 2 (82 + c)).toInt) (h : Q none (mem (va_up A 2 (f_goes (A 2) k c)) F X)) : pz_T z0 KX7_feasts Q 52 (0, 0) [some (.ref 20), some (.int (nI k)), some (.int (nI c)), x3] [] (mem A F X) := by
  have cc := qcl (x := nI c) c rfl (by omega)
  have ck := qcl (x := nI k) k rfl (by omega)
  refine pz_wp_ok (pz_Is_ok SX7_feasts) [] 100 ?_
  unfold f_goes at h
  refine ⟨qin c rfl hc (by omega), ?_⟩
  rw [cc, qm_1 hc]
  refine ⟨fun g => ?_, fun g => ?_⟩
  · have g : ¬ A 2 (82 + c) = 0 := g
    rw [i_eq, show (0 : Int32).toInt = 0 from rfl] at g
    rw [if_neg (by rw [i_le, show (0 : Int32).toInt = 0 from rfl]; omega), vu_s] at h
    exact h
  · have g : A 2 (82 + c) = 0 := g
    rw [if_pos (by rw [g]; decide)] at h
    refine ⟨qin k rfl hk (by omega), ?_⟩
    rw [ck, qm_k hk]
    refine cP_wades ?_
    refine cT2_full rfl hc ?_
    refine ⟨qin k rfl hk (by omega), ?_⟩
    rw [ck]
    rw [← ml2 hk] at h
    exact h
set_option maxRecDepth 8000 in
theorem tT2_feast42 {k : Nat} {x2 : Option Value} {g : Int32} (hk : k < 8) {u : Nat → Int32} (hu : u = upd (A 2) (118 + 3 * k + 2) (A 2 (118 + 3 * k + 2) + g)) (h : ∀ A1 : qA, A1 = va_up A 2 u → pz_T z0 KX7_feasts Q 52 (0, 0) [some (.ref 20), some (.int (nI k)), x2, some (.int g)] [] (mem A1 F X)) : pz_T z0 KX7_feasts Q 42 (0, 0) [some (.ref 20), some (.int (nI k)), x2, some (.int g)] [] (mem A F X) := by
  have ck := qcl (x := nI k) k rfl (by omega)
  refine pz_wp_ok (pz_Is_ok SX7_feasts) [52] 100 ?_
  refine ⟨qin k rfl hk (by omega), ?_⟩
  refine ⟨qin k rfl hk (by omega), ?_⟩
  rw [ck, qm_a hk]
  refine qT (h _ rfl) rfl rfl ?_
  rw [hu]
  exact ma2 hk _
set_option maxRecDepth 8000 in
theorem cT2_feasts {k c : Nat} {x : Int32} (hx : x = nI k) (hk : k < 8) (hcc : A 2 (118 + 3 * k + 1) = nI c) (hc : c < 36) (hp : 0 ≤ (A 2 (82 + c)).toInt) (h : Q none (mem (va_up A 2 (f_dine (A 2) k c)) F X)) : pz_C yX7_feasts KX7_feasts [.ref 20, .int x] (mem A F X) Q := by
  subst hx
  have cc := qcl (x := nI c) c rfl (by omega)
  have ck := qcl (x := nI k) k rfl (by omega)
  refine pz_C_of rfl rfl rfl (Nat.le_of_ble_eq_true rfl) (pz_wp_ok (pz_Is_ok SX7_feasts) [42] 100 ?_)
  refine ⟨qin k rfl hk (by omega), ?_⟩
  rw [ck, qm_l hk, hcc]
  refine ⟨qin c rfl hc (by omega), ?_⟩
  rw [cc, qm_1 hc]
  refine ⟨qin k rfl hk (by omega), ?_⟩
  rw [ck, qm_k hk]
  refine ⟨qin c rfl hc (by omega), ?_⟩
  rw [cc, qm_1 hc]
  refine cP_eats ?_
  refine ⟨qin c rfl hc (by omega), ?_⟩
  refine ⟨qin c rfl hc (by omega), ?_⟩
  rw [cc, qm_1 hc]
  have em := min_fw (x := f_eats (A 2 (118 + 3 * k + 0)) (A 2 (82 + c))) (p := A 2 (82 + c)) (f_eats_in _ _)
  rw [em]
  have ea : f_w (f_eats (A 2 (118 + 3 * k + 0)) (A 2 (82 + c))) (A 2 (82 + c)) = f_ate (A 2) k c := rfl
  rw [ea]
  have m1 := f_w_in (x := f_eats (A 2 (118 + 3 * k + 0)) (A 2 (82 + c))) hp
  rw [ea] at m1
  have rp := i_rng (A 2 (82 + c))
  have e1 : (A 2 (82 + c) - f_ate (A 2) k c).toInt = (A 2 (82 + c)).toInt - (f_ate (A 2) k c).toInt := i_sub (by omega) (by omega)
  have he : f_eaten (A 2) k c = upd (upd (A 2) (82 + c) (A 2 (82 + c) - f_ate (A 2) k c)) (118 + 3 * k + 2) (upd (A 2) (82 + c) (A 2 (82 + c) - f_ate (A 2) k c) (118 + 3 * k + 2) + f_ate (A 2) k c) := rfl
  have hpe : 0 ≤ (f_eaten (A 2) k c (82 + c)).toInt := by
    rw [he, upd_ne _ _ (by omega), upd_at, e1]
    omega
  unfold f_dine at h
  generalize f_eaten (A 2) k c = u at h he hpe
  refine qT (tT2_feast42 (A := va_up A 2 (upd (A 2) (82 + c) (A 2 (82 + c) - f_ate (A 2) k c))) hk (u := u) (by rw [vu_at]; exact he) (fun A1 hA1 => ?_)) rfl rfl (mp2 hc _)
  subst hA1
  rw [vu_vu]
  refine tT2_feast52 (A := va_up A 2 u) hk hc (by rw [vu_at]; exact hpe) ?_
  rw [vu_at, vu_vu]
  exact h
set_option maxRecDepth 8000 in
theorem tT2_mice16 {t1 : Nat → Int32} (hA : A 2 = t1) (hw : ∀ c, c < 36 → qIn 0 25 (t1 (46 + c))) (h : Q none (mem (va_up A 2 (f_bite (f_dr t1))) F X)) {x1 : Option Value} : pz_T z0 KX7_miceEat Q 16 (0, 0) [some (.ref 20), x1] [] (mem A F X) := by
  refine pz_wp_ok (pz_Is_ok SX7_miceEat) [] 100 ?_
  refine cT2_draw (fun z hz => ?_)
  have ed : upd (A 2) 5 z = f_dr t1 := by rw [hz, hA]; rfl
  have ez : z = f_dr t1 5 := by rw [hz, hA]; exact (upd_at _ _ _).symm
  rw [ed, ez]
  clear hz ed ez
  have hw2 : ∀ c, c < 36 → qIn 0 25 (f_dr t1 (46 + c)) := fun c hc => by rw [f_dr_out _ (by omega)]; exact hw c hc
  generalize f_dr t1 = t2 at h hw2 ⊢
  refine ⟨by decide, ?_⟩
  obtain ⟨j, hj, ej⟩ := f_rem_g (t2 5) (d := 36) (by omega) (by omega)
  have ej' : f_g (t2 5) - f_g (t2 5) / 36 * 36 = nI j := ej
  have cj := qcl _ ej' (by omega)
  have eat : f_at t2 = 46 + j := by
    unfold f_at
    have : f_rem (f_g (t2 5)) 36 = nI j := ej
    rw [this, nI_clamp (by omega)]
  unfold f_bite at h
  rw [eat] at h
  refine ⟨qin _ ej' hj (by omega), ?_⟩
  refine ⟨qin _ ej' hj (by omega), ?_⟩
  rw [cj]
  have e46 : qm 36 46 1 (va_up A 2 t2 2) j = t2 (46 + j) := by rw [vu_at]; exact qm_1 hj
  rw [e46]
  obtain ⟨w1, w2⟩ := hw2 j hj
  have es : (t2 (46 + j) - 1).toInt = (t2 (46 + j)).toInt - 1 := i_sub (x := t2 (46 + j)) (y := 1) (by rw [show (1 : Int32).toInt = 1 from rfl]; omega) (by rw [show (1 : Int32).toInt = 1 from rfl]; omega)
  have emx : (if (0 : Int32) < t2 (46 + j) - 1 then t2 (46 + j) - 1 else 0) = f_w (t2 (46 + j) - 1) 25 := by
    have z0' : (0 : Int32).toInt = 0 := rfl
    have z25 : (25 : Int32).toInt = 25 := rfl
    unfold f_w
    by_cases z : (0 : Int32) < t2 (46 + j) - 1
    · have y1 := (i_lt _ _).mp z
      rw [es, z0'] at y1
      rw [if_pos z, if_neg (fun q => by rw [i_lt, es, z0'] at q; omega), if_neg (fun q => by rw [i_lt, es, z25] at q; omega)]
    · have y1 : ¬ (0 : Int32).toInt < (t2 (46 + j) - 1).toInt := fun q => z ((i_lt _ _).mpr q)
      rw [es, z0'] at y1
      rw [if_neg z]
      by_cases z2 : t2 (46 + j) - 1 < 0
      · rw [if_pos z2]
      · have y2 : ¬ (t2 (46 + j) - 1).toInt < (0 : Int32).toInt := fun q => z2 ((i_lt _ _).mpr q)
        rw [es, z0'] at y2
        rw [if_neg z2, if_neg (fun q => by rw [i_lt, es, z25] at q; omega)]
        exact (i_eq _ _).mpr (by rw [es, z0']; omega)
  rw [← emx] at h
  have hm := mw2 (A := va_up A 2 t2) (F := F) (X := X) hj (if (0 : Int32) < t2 (46 + j) - 1 then t2 (46 + j) - 1 else 0)
  rw [vu_vu, vu_at] at hm
  rw [← hm] at h
  exact h
set_option maxRecDepth 8000 in
theorem cT2_mice (hw : ∀ c, c < 36 → qIn 0 25 (A 2 (46 + c))) (h : Q none (mem (va_up A 2 (f_mice (A 2))) F X)) : pz_C yX7_miceEat KX7_miceEat [.ref 20] (mem A F X) Q := by
  refine pz_C_of rfl rfl rfl (Nat.le_of_ble_eq_true rfl) (pz_wp_ok (pz_Is_ok SX7_miceEat) [16] 100 ?_)
  refine cT2_draw (fun z hz => ?_)
  have ed : upd (A 2) 5 z = f_dr (A 2) := by rw [hz]; rfl
  rw [ed]
  have e9 : f_dr (A 2) 9 = A 2 9 := f_dr_out _ (by omega)
  have hm1 : A 2 9 ≤ f_rem (f_g z) 100 → f_mice (A 2) = f_dr (A 2) := fun g => by unfold f_mice; rw [← hz, if_pos g]
  have hm2 : ¬ A 2 9 ≤ f_rem (f_g z) 100 → f_mice (A 2) = f_bite (f_dr (f_dr (A 2))) := fun g => by unfold f_mice; rw [← hz, if_neg g]
  clear hz ed
  have hw2 : ∀ c, c < 36 → qIn 0 25 (f_dr (A 2) (46 + c)) := fun c hc => by rw [f_dr_out _ (by omega)]; exact hw c hc
  generalize f_mice (A 2) = tm at h hm1 hm2
  generalize f_dr (A 2) = t1 at e9 hm1 hm2 hw2 ⊢
  refine ⟨by decide, ?_⟩
  refine ⟨qin 3 rfl (by omega) (by omega), ?_⟩
  refine ⟨fun g => ?_, fun g => ?_⟩
  · have g : t1 9 ≤ f_rem (f_g z) 100 := g
    rw [e9] at g
    have hm := hm1 g
    subst hm
    exact h
  · have g : ¬ t1 9 ≤ f_rem (f_g z) 100 := g
    rw [e9] at g
    have hm := hm2 g
    subst hm
    refine tT2_mice16 (A := va_up A 2 t1) (vu_at _ _ _) hw2 ?_
    rw [vu_vu]
    exact h
set_option maxRecDepth 8000 in
theorem tT3_fl113 {lo : Nat} (hlo : lo < 36) {g : Int32} {x1 x3 x4 : Option Value} (h : Q none (mem (va_up A 3 (upd (A 3) (82 + lo) (A 3 (82 + lo) + g))) F X)) : pz_T z0 KX7_flows Q 113 (0, 0) [some (.ref 28), x1, some (.int (nI lo)), x3, x4, some (.int g)] [] (mem A F X) := by
  refine pz_wp_ok (pz_Is_ok SX7_flows) [] 100 ?_
  have cl := qcl (x := nI lo) lo rfl (by omega)
  refine ⟨qin lo rfl hlo (by omega), ?_⟩
  refine ⟨qin lo rfl hlo (by omega), ?_⟩
  rw [cl, qm_1 hlo]
  rw [← mp3 hlo] at h
  exact h
set_option maxRecDepth 8000 in
theorem tT3_flows {c : Nat} (hc : c < 36) (hth : ∃ n, n ≤ 9 ∧ A 3 8 = nI n) (hL : ∀ q, q < 36 → f_lev (A 3) q < 2147483647) (h : Q none (mem (va_up A 3 (f_flow (A 3) c)) F X)) : ∀ (n w : Nat), w + n = 4 → ∀ x5 : Option Value, pz_T z0 KX7_flows Q 18 (0, 0) [some (.ref 28), some (.int (nI c)), some (.int (f_lw (A 3) c (f_lowN (A 3) c w)).1), some (.int (f_lw (A 3) c (f_lowN (A 3) c w)).2), some (.int (nI w)), x5] [] (mem A F X) := by
  intro n
  induction n with
  | zero =>
    intro w hw x5
    have hw : w = 4 := by omega
    subst hw
    refine pz_wp_ok (pz_Is_ok SX7_flows) [18, 113] 100 ?_
    obtain ⟨e1, e2⟩ := f_low_some (A 3) hc
    rw [e1]
    refine br1 (fun z => z (by decide)) ?_
    refine cT3_level rfl hc ?_
    unfold f_flow at h
    refine ⟨fun g => ?_, fun g => ?_⟩
    · have g : f_lev (A 3) c - f_lev (A 3) (f_low (A 3) c) ≤ 1 := g
      rw [if_pos g, vu_s] at h
      exact h
    · have g : ¬ f_lev (A 3) c - f_lev (A 3) (f_low (A 3) c) ≤ 1 := g
      rw [if_neg g] at h
      dsimp only at h
      have cc := qcl (x := nI c) c rfl (by omega)
      obtain ⟨n8, n8b, e8⟩ := hth
      have e9 : (1 : Int32) + A 3 8 = nI (1 + n8) := by rw [e8]; exact nI_add 1 n8
      have q8 : qm 4 6 1 (A 3) (2 : Int32).toNatClampNeg = A 3 8 := rfl
      have hth : ¬ (1 : Int32) + A 3 8 = 0 := by rw [e9]; exact nI_ne0 (by omega) (by omega)
      refine ⟨qin c rfl hc (by omega), ?_⟩
      refine ⟨by decide, ?_⟩
      refine ⟨qin 2 rfl (by omega) (by omega), ?_⟩
      refine ⟨hth, ?_⟩
      refine ⟨qin c rfl hc (by omega), ?_⟩
      refine ⟨qin c rfl hc (by omega), ?_⟩
      have hX : 0 ≤ ((f_lev (A 3) c - f_lev (A 3) (f_low (A 3) c)) / 2 / (1 + A 3 8)).toInt := by
        refine i_div_pos (i_div_pos ?_ (by decide)) ?_
        · rw [i_le, show (1 : Int32).toInt = 1 from rfl] at g
          omega
        · rw [e9, nIi (by omega)]
          omega
      rw [← min_fw hX] at h
      rw [cc, qm_1 hc]
      refine qT (tT3_fl113 (A := va_up A 3 (upd (A 3) (82 + c) (A 3 (82 + c) - (if (f_lev (A 3) c - f_lev (A 3) (f_low (A 3) c)) / 2 / (1 + A 3 8) < A 3 (82 + c) then (f_lev (A 3) c - f_lev (A 3) (f_low (A 3) c)) / 2 / (1 + A 3 8) else A 3 (82 + c))))) (lo := f_low (A 3) c) e2 ?_) rfl rfl (mp3 hc _)
      rw [vu_at, vu_vu]
      exact h
  | succ n ih =>
    intro w hw x5
    refine pz_wp_ok (pz_Is_ok SX7_flows) [18] 100 ?_
    have e1 : nI w + 1 = nI (w + 1) := nI_1 w
    refine br2 (n_ge (b := 4) (by omega) (by omega) (by omega)) ?_
    refine cP_beside rfl rfl hc (by omega) ?_
    have ih' := ih (w + 1) (by omega)
    rw [f_lowN_s] at ih'
    cases hnb : nb c w with
    | none =>
      rw [hnb] at ih'
      refine br1 (by decide) ?_
      exact qT (ih' (some (.int (-1)))) (by rw [← e1]; rfl) rfl rfl
    | some q =>
      rw [hnb] at ih'
      dsimp only at ih'
      have hq := nb_lt hc hnb
      refine br2 (i_nlt.mpr (nI_pos' (by omega))) ?_
      refine cT3_level rfl hq ?_
      cases hlo : f_lowN (A 3) c w with
      | none =>
        rw [hlo] at ih'
        refine br2 (fun z => ?_) ?_
        · have z : (2147483647 : Int32) ≤ f_lev (A 3) q := z
          have := hL q hq
          rw [i_lt] at this
          rw [i_le] at z
          omega
        refine cT3_level rfl hq ?_
        exact qT (ih' (some (.int (nI q)))) (by rw [← e1]; rfl) rfl rfl
      | some p =>
        rw [hlo] at ih'
        dsimp only at ih'
        refine ⟨fun g => ?_, fun g => ?_⟩
        · have g : f_lev (A 3) p ≤ f_lev (A 3) q := g
          rw [if_neg (by unfold f_btl; simp only [decide_eq_true_eq]; exact i_nlt.mpr g)] at ih'
          exact qT (ih' (some (.int (nI q)))) (by rw [← e1]; rfl) rfl rfl
        · have g : ¬ f_lev (A 3) p ≤ f_lev (A 3) q := g
          rw [if_pos (by unfold f_btl; simp only [decide_eq_true_eq]; exact i_nle.mp g)] at ih'
          refine cT3_level rfl hq ?_
          exact qT (ih' (some (.int (nI q)))) (by rw [← e1]; rfl) rfl rfl
theorem cT3_flows {c : Nat} {x : Int32} (hx : x = nI c) (hc : c < 36) (hth : ∃ n, n ≤ 9 ∧ A 3 8 = nI n) (hL : ∀ q, q < 36 → f_lev (A 3) q < 2147483647) (h : Q none (mem (va_up A 3 (f_flow (A 3) c)) F X)) : pz_C yX7_flows KX7_flows [.ref 28, .int x] (mem A F X) Q := by
  subst hx
  refine pz_C_of rfl rfl rfl (Nat.le_of_ble_eq_true rfl) (pz_wp_ok (pz_Is_ok SX7_flows) [18] 100 ?_)
  have cc := qcl (x := nI c) c rfl (by omega)
  refine ⟨qin c rfl hc (by omega), ?_⟩
  rw [cc, qm_1 hc]
  refine ⟨fun g => ?_, fun g => ?_⟩
  · exact tT3_flows hc hth hL h 4 0 rfl none
  · have g : A 3 (82 + c) = 0 := g
    rw [f_flow_dry g, vu_s] at h
    exact h
set_option maxRecDepth 8000 in
theorem tT3_full {c : Nat} {wd : Int32} (hc : c < 36) (h : Q (some (.int (nI (f_to (f_mostN (A 3) wd c 4) c)))) (mem A F X)) : ∀ (n w : Nat), w + n = 4 → ∀ x6 : Option Value, pz_T z0 KX7_fullestBeside Q 8 (0, 0) [some (.ref 28), some (.int (nI c)), some (.int wd), some (.int (f_fl (A 3) c (f_mostN (A 3) wd c w)).1), some (.int (f_fl (A 3) c (f_mostN (A 3) wd c w)).2), some (.int (nI w)), x6] [] (mem A F X) := by
  intro n
  induction n with
  | zero =>
    intro w hw x6
    have hw : w = 4 := by omega
    subst hw
    refine pz_wp_ok (pz_Is_ok SX7_fullestBeside) [8] 100 ?_
    refine br1 (fun z => z (by decide)) ?_
    cases hm : f_mostN (A 3) wd c 4 with
    | none => rw [hm] at h; exact h
    | some q => rw [hm] at h; exact h
  | succ n ih =>
    intro w hw x6
    refine pz_wp_ok (pz_Is_ok SX7_fullestBeside) [8] 100 ?_
    have e1 : nI w + 1 = nI (w + 1) := nI_1 w
    refine br2 (n_ge (b := 4) (by omega) (by omega) (by omega)) ?_
    refine cP_beside rfl rfl hc (by omega) ?_
    have ih' := ih (w + 1) (by omega)
    rw [f_mostN_s] at ih'
    cases hnb : nb c w with
    | none =>
      rw [hnb] at ih'
      refine br1 (by decide) ?_
      exact qT (ih' (some (.int (-1)))) (by rw [← e1]; rfl) rfl rfl
    | some q =>
      rw [hnb] at ih'
      dsimp only at ih'
      have hq := nb_lt hc hnb
      have cq := qcl (x := nI q) q rfl (by omega)
      refine br2 (i_nlt.mpr (nI_pos' (by omega))) ?_
      refine ⟨qin q rfl hq (by omega), ?_⟩
      have er : qm 36 82 1 (A 3) (ov (some q)).toNatClampNeg = A 3 (82 + q) := by
        show qm 36 82 1 (A 3) (nI q).toNatClampNeg = _
        rw [cq, qm_1 hq]
      rw [er]
      have hmok : f_mok (A 3) wd q = true ↔ (1 ≤ (A 3 (82 + q)).toInt ∧ (A 3 (82 + q)).toInt ≤ wd.toInt) := by unfold f_mok; exact decide_eq_true_iff
      have hprev : ∀ p, f_mostN (A 3) wd c w = some p → 1 ≤ (A 3 (82 + p)).toInt := fun p hp => by
        have := (f_pk_lt hc w p hp).2
        exact (of_decide_eq_true this).1
      cases hlo : f_mostN (A 3) wd c w with
      | none =>
        rw [hlo] at ih'
        dsimp only at ih'
        refine ⟨fun g => ?_, fun g => ?_⟩
        · have g : A 3 (82 + q) ≤ 0 := g
          rw [i_le, show (0 : Int32).toInt = 0 from rfl] at g
          rw [if_neg (fun z => by have := (hmok.mp z).1; omega)] at ih'
          exact qT (ih' (some (.int (nI q)))) (by rw [← e1]; rfl) rfl rfl
        · have g : ¬ A 3 (82 + q) ≤ 0 := g
          rw [i_le, show (0 : Int32).toInt = 0 from rfl] at g
          refine ⟨qin q rfl hq (by omega), ?_⟩
          rw [er]
          refine ⟨fun g2 => ?_, fun g2 => ?_⟩
          · have g2 : wd < A 3 (82 + q) := g2
            rw [i_lt] at g2
            rw [if_neg (fun z => by have := (hmok.mp z).2; omega)] at ih'
            exact qT (ih' (some (.int (nI q)))) (by rw [← e1]; rfl) rfl rfl
          · have g2 : ¬ wd < A 3 (82 + q) := g2
            rw [i_lt] at g2
            rw [if_pos (hmok.mpr ⟨by omega, by omega⟩)] at ih'
            refine ⟨qin q rfl hq (by omega), ?_⟩
            rw [er]
            exact qT (ih' (some (.int (nI q)))) (by rw [← e1]; rfl) rfl rfl
      | some p =>
        rw [hlo] at ih'
        dsimp only at ih'
        have hp1 := hprev p hlo
        refine ⟨fun g => ?_, fun g => ?_⟩
        · have g : A 3 (82 + q) ≤ A 3 (82 + p) := g
          have gb : ¬ f_btm (A 3) q p = true := by unfold f_btm; simp only [decide_eq_true_eq]; exact i_nlt.mpr g
          rw [if_neg gb] at ih'
          rw [ite_self] at ih'
          exact qT (ih' (some (.int (nI q)))) (by rw [← e1]; rfl) rfl rfl
        · have g : ¬ A 3 (82 + q) ≤ A 3 (82 + p) := g
          have gb : f_btm (A 3) q p = true := by unfold f_btm; simp only [decide_eq_true_eq]; exact i_nle.mp g
          rw [if_pos gb] at ih'
          rw [i_le] at g
          refine ⟨qin q rfl hq (by omega), ?_⟩
          rw [er]
          refine ⟨fun g2 => ?_, fun g2 => ?_⟩
          · have g2 : wd < A 3 (82 + q) := g2
            rw [i_lt] at g2
            rw [if_neg (fun z => by have := (hmok.mp z).2; omega)] at ih'
            exact qT (ih' (some (.int (nI q)))) (by rw [← e1]; rfl) rfl rfl
          · have g2 : ¬ wd < A 3 (82 + q) := g2
            rw [i_lt] at g2
            rw [if_pos (hmok.mpr ⟨by omega, by omega⟩)] at ih'
            refine ⟨qin q rfl hq (by omega), ?_⟩
            rw [er]
            exact qT (ih' (some (.int (nI q)))) (by rw [← e1]; rfl) rfl rfl
theorem cT3_full {c : Nat} {x wd : Int32} (hx : x = nI c) (hc : c < 36) (h : Q (some (.int (nI (f_to (f_mostN (A 3) wd c 4) c)))) (mem A F X)) : pz_C yX7_fullestBeside KX7_fullestBeside [.ref 28, .int x, .int wd] (mem A F X) Q := by
  subst hx
  refine pz_C_of rfl rfl rfl (Nat.le_of_ble_eq_true rfl) (pz_wp_ok (pz_Is_ok SX7_fullestBeside) [8] 100 ?_)
  exact tT3_full hc h 4 0 rfl none
set_option maxRecDepth 8000 in
theorem tT3_feast52 {k c : Nat} {x3 : Option Value} (hk : k < 8) (hc : c < 36) (hp : 0 ≤ (A 3 (82 + c)).toInt) (h : Q none (mem (va_up A 3 (f_goes (A 3) k c)) F X)) : pz_T z0 KX7_feasts Q 52 (0, 0) [some (.ref 28), some (.int (nI k)), some (.int (nI c)), x3] [] (mem A F X) := by
  have cc := qcl (x := nI c) c rfl (by omega)
  have ck := qcl (x := nI k) k rfl (by omega)
  refine pz_wp_ok (pz_Is_ok SX7_feasts) [] 100 ?_
  unfold f_goes at h
  refine ⟨qin c rfl hc (by omega), ?_⟩
  rw [cc, qm_1 hc]
  refine ⟨fun g => ?_, fun g => ?_⟩
  · have g : ¬ A 3 (82 + c) = 0 := g
    rw [i_eq, show (0 : Int32).toInt = 0 from rfl] at g
    rw [if_neg (by rw [i_le, show (0 : Int32).toInt = 0 from rfl]; omega), vu_s] at h
    exact h
  · have g : A 3 (82 + c) = 0 := g
    rw [if_pos (by rw [g]; decide)] at h
    refine ⟨qin k rfl hk (by omega), ?_⟩
    rw [ck, qm_k hk]
    refine cP_wades ?_
    refine cT3_full rfl hc ?_
    refine ⟨qin k rfl hk (by omega), ?_⟩
    rw [ck]
    rw [← ml3 hk] at h
    exact h
set_option maxRecDepth 8000 in
theorem tT3_feast42 {k : Nat} {x2 : Option Value} {g : Int32} (hk : k < 8) {u : Nat → Int32} (hu : u = upd (A 3) (118 + 3 * k + 2) (A 3 (118 + 3 * k + 2) + g)) (h : ∀ A1 : qA, A1 = va_up A 3 u → pz_T z0 KX7_feasts Q 52 (0, 0) [some (.ref 28), some (.int (nI k)), x2, some (.int g)] [] (mem A1 F X)) : pz_T z0 KX7_feasts Q 42 (0, 0) [some (.ref 28), some (.int (nI k)), x2, some (.int g)] [] (mem A F X) := by
  have ck := qcl (x := nI k) k rfl (by omega)
  refine pz_wp_ok (pz_Is_ok SX7_feasts) [52] 100 ?_
  refine ⟨qin k rfl hk (by omega), ?_⟩
  refine ⟨qin k rfl hk (by omega), ?_⟩
  rw [ck, qm_a hk]
  refine qT (h _ rfl) rfl rfl ?_
  rw [hu]
  exact ma3 hk _
set_option maxRecDepth 8000 in
theorem cT3_feasts {k c : Nat} {x : Int32} (hx : x = nI k) (hk : k < 8) (hcc : A 3 (118 + 3 * k + 1) = nI c) (hc : c < 36) (hp : 0 ≤ (A 3 (82 + c)).toInt) (h : Q none (mem (va_up A 3 (f_dine (A 3) k c)) F X)) : pz_C yX7_feasts KX7_feasts [.ref 28, .int x] (mem A F X) Q := by
  subst hx
  have cc := qcl (x := nI c) c rfl (by omega)
  have ck := qcl (x := nI k) k rfl (by omega)
  refine pz_C_of rfl rfl rfl (Nat.le_of_ble_eq_true rfl) (pz_wp_ok (pz_Is_ok SX7_feasts) [42] 100 ?_)
  refine ⟨qin k rfl hk (by omega), ?_⟩
  rw [ck, qm_l hk, hcc]
  refine ⟨qin c rfl hc (by omega), ?_⟩
  rw [cc, qm_1 hc]
  refine ⟨qin k rfl hk (by omega), ?_⟩
  rw [ck, qm_k hk]
  refine ⟨qin c rfl hc (by omega), ?_⟩
  rw [cc, qm_1 hc]
  refine cP_eats ?_
  refine ⟨qin c rfl hc (by omega), ?_⟩
  refine ⟨qin c rfl hc (by omega), ?_⟩
  rw [cc, qm_1 hc]
  have em := min_fw (x := f_eats (A 3 (118 + 3 * k + 0)) (A 3 (82 + c))) (p := A 3 (82 + c)) (f_eats_in _ _)
  rw [em]
  have ea : f_w (f_eats (A 3 (118 + 3 * k + 0)) (A 3 (82 + c))) (A 3 (82 + c)) = f_ate (A 3) k c := rfl
  rw [ea]
  have m1 := f_w_in (x := f_eats (A 3 (118 + 3 * k + 0)) (A 3 (82 + c))) hp
  rw [ea] at m1
  have rp := i_rng (A 3 (82 + c))
  have e1 : (A 3 (82 + c) - f_ate (A 3) k c).toInt = (A 3 (82 + c)).toInt - (f_ate (A 3) k c).toInt := i_sub (by omega) (by omega)
  have he : f_eaten (A 3) k c = upd (upd (A 3) (82 + c) (A 3 (82 + c) - f_ate (A 3) k c)) (118 + 3 * k + 2) (upd (A 3) (82 + c) (A 3 (82 + c) - f_ate (A 3) k c) (118 + 3 * k + 2) + f_ate (A 3) k c) := rfl
  have hpe : 0 ≤ (f_eaten (A 3) k c (82 + c)).toInt := by
    rw [he, upd_ne _ _ (by omega), upd_at, e1]
    omega
  unfold f_dine at h
  generalize f_eaten (A 3) k c = u at h he hpe
  refine qT (tT3_feast42 (A := va_up A 3 (upd (A 3) (82 + c) (A 3 (82 + c) - f_ate (A 3) k c))) hk (u := u) (by rw [vu_at]; exact he) (fun A1 hA1 => ?_)) rfl rfl (mp3 hc _)
  subst hA1
  rw [vu_vu]
  refine tT3_feast52 (A := va_up A 3 u) hk hc (by rw [vu_at]; exact hpe) ?_
  rw [vu_at, vu_vu]
  exact h
set_option maxRecDepth 8000 in
theorem tT3_mice16 {t1 : Nat → Int32} (hA : A 3 = t1) (hw : ∀ c, c < 36 → qIn 0 25 (t1 (46 + c))) (h : Q none (mem (va_up A 3 (f_bite (f_dr t1))) F X)) {x1 : Option Value} : pz_T z0 KX7_miceEat Q 16 (0, 0) [some (.ref 28), x1] [] (mem A F X) := by
  refine pz_wp_ok (pz_Is_ok SX7_miceEat) [] 100 ?_
  refine cT3_draw (fun z hz => ?_)
  have ed : upd (A 3) 5 z = f_dr t1 := by rw [hz, hA]; rfl
  have ez : z = f_dr t1 5 := by rw [hz, hA]; exact (upd_at _ _ _).symm
  rw [ed, ez]
  clear hz ed ez
  have hw2 : ∀ c, c < 36 → qIn 0 25 (f_dr t1 (46 + c)) := fun c hc => by rw [f_dr_out _ (by omega)]; exact hw c hc
  generalize f_dr t1 = t2 at h hw2 ⊢
  refine ⟨by decide, ?_⟩
  obtain ⟨j, hj, ej⟩ := f_rem_g (t2 5) (d := 36) (by omega) (by omega)
  have ej' : f_g (t2 5) - f_g (t2 5) / 36 * 36 = nI j := ej
  have cj := qcl _ ej' (by omega)
  have eat : f_at t2 = 46 + j := by
    unfold f_at
    have : f_rem (f_g (t2 5)) 36 = nI j := ej
    rw [this, nI_clamp (by omega)]
  unfold f_bite at h
  rw [eat] at h
  refine ⟨qin _ ej' hj (by omega), ?_⟩
  refine ⟨qin _ ej' hj (by omega), ?_⟩
  rw [cj]
  have e46 : qm 36 46 1 (va_up A 3 t2 3) j = t2 (46 + j) := by rw [vu_at]; exact qm_1 hj
  rw [e46]
  obtain ⟨w1, w2⟩ := hw2 j hj
  have es : (t2 (46 + j) - 1).toInt = (t2 (46 + j)).toInt - 1 := i_sub (x := t2 (46 + j)) (y := 1) (by rw [show (1 : Int32).toInt = 1 from rfl]; omega) (by rw [show (1 : Int32).toInt = 1 from rfl]; omega)
  have emx : (if (0 : Int32) < t2 (46 + j) - 1 then t2 (46 + j) - 1 else 0) = f_w (t2 (46 + j) - 1) 25 := by
    have z0' : (0 : Int32).toInt = 0 := rfl
    have z25 : (25 : Int32).toInt = 25 := rfl
    unfold f_w
    by_cases z : (0 : Int32) < t2 (46 + j) - 1
    · have y1 := (i_lt _ _).mp z
      rw [es, z0'] at y1
      rw [if_pos z, if_neg (fun q => by rw [i_lt, es, z0'] at q; omega), if_neg (fun q => by rw [i_lt, es, z25] at q; omega)]
    · have y1 : ¬ (0 : Int32).toInt < (t2 (46 + j) - 1).toInt := fun q => z ((i_lt _ _).mpr q)
      rw [es, z0'] at y1
      rw [if_neg z]
      by_cases z2 : t2 (46 + j) - 1 < 0
      · rw [if_pos z2]
      · have y2 : ¬ (t2 (46 + j) - 1).toInt < (0 : Int32).toInt := fun q => z2 ((i_lt _ _).mpr q)
        rw [es, z0'] at y2
        rw [if_neg z2, if_neg (fun q => by rw [i_lt, es, z25] at q; omega)]
        exact (i_eq _ _).mpr (by rw [es, z0']; omega)
  rw [← emx] at h
  have hm := mw3 (A := va_up A 3 t2) (F := F) (X := X) hj (if (0 : Int32) < t2 (46 + j) - 1 then t2 (46 + j) - 1 else 0)
  rw [vu_vu, vu_at] at hm
  rw [← hm] at h
  exact h
set_option maxRecDepth 8000 in
theorem cT3_mice (hw : ∀ c, c < 36 → qIn 0 25 (A 3 (46 + c))) (h : Q none (mem (va_up A 3 (f_mice (A 3))) F X)) : pz_C yX7_miceEat KX7_miceEat [.ref 28] (mem A F X) Q := by
  refine pz_C_of rfl rfl rfl (Nat.le_of_ble_eq_true rfl) (pz_wp_ok (pz_Is_ok SX7_miceEat) [16] 100 ?_)
  refine cT3_draw (fun z hz => ?_)
  have ed : upd (A 3) 5 z = f_dr (A 3) := by rw [hz]; rfl
  rw [ed]
  have e9 : f_dr (A 3) 9 = A 3 9 := f_dr_out _ (by omega)
  have hm1 : A 3 9 ≤ f_rem (f_g z) 100 → f_mice (A 3) = f_dr (A 3) := fun g => by unfold f_mice; rw [← hz, if_pos g]
  have hm2 : ¬ A 3 9 ≤ f_rem (f_g z) 100 → f_mice (A 3) = f_bite (f_dr (f_dr (A 3))) := fun g => by unfold f_mice; rw [← hz, if_neg g]
  clear hz ed
  have hw2 : ∀ c, c < 36 → qIn 0 25 (f_dr (A 3) (46 + c)) := fun c hc => by rw [f_dr_out _ (by omega)]; exact hw c hc
  generalize f_mice (A 3) = tm at h hm1 hm2
  generalize f_dr (A 3) = t1 at e9 hm1 hm2 hw2 ⊢
  refine ⟨by decide, ?_⟩
  refine ⟨qin 3 rfl (by omega) (by omega), ?_⟩
  refine ⟨fun g => ?_, fun g => ?_⟩
  · have g : t1 9 ≤ f_rem (f_g z) 100 := g
    rw [e9] at g
    have hm := hm1 g
    subst hm
    exact h
  · have g : ¬ t1 9 ≤ f_rem (f_g z) 100 := g
    rw [e9] at g
    have hm := hm2 g
    subst hm
    refine tT3_mice16 (A := va_up A 3 t1) (vu_at _ _ _) hw2 ?_
    rw [vu_vu]
    exact h
end POT
