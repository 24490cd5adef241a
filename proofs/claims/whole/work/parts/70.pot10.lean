/-! the pot's calls: what will be -/
def e_or (x : Int32) : Int32 := if x < 0 then -1000000005 else x
theorem e_or_n {k : Nat} (h : k < 2147483648) : e_or (nI k) = nI k := by
  unfold e_or
  rw [if_neg (i_nlt.mpr (nI_pos' (by omega)))]
def p_first (x : Int32 × Int32) (k : Nat) : Int32 × Int32 := match k with
  | 0 => (0, 2147483647)
  | _ + 1 => x
theorem f_wal_z (t : Nat → Int32) (cell n : Nat) : (f_wal t cell n 0).1 < 0 := show (-1 : Int32) < 0 by decide
theorem f_wal_pos (t : Nat → Int32) (cell n : Nat) : ∀ k, k < 36 → ¬ (f_wal t cell n (k + 1)).1 < 0
  | 0, _ => by
    rw [f_wal, if_pos (Or.inl (f_wal_z _ _ _))]
    show ¬ nI 0 < 0
    decide
  | k + 1, h => by
    rw [f_wal]
    by_cases g : (f_wal t cell n (k + 1)).1 < 0 ∨ f_walv t cell n (k + 1) < (f_wal t cell n (k + 1)).2
    · rw [if_pos g]; exact i_nlt.mpr (nI_pos' (by omega))
    · rw [if_neg g]; exact f_wal_pos t cell n k (by omega)
section POT
variable {A A1 : qA} {F : qF} {X : qX} {Q : pz_Q} {M : pz_M}
set_option maxRecDepth 8000 in
theorem cP_behind {n w : Int32} {B : Int} (hok : okS (A 0)) (hv : okV 20 B (A 0)) (hB : B + 20000 < 1073741824) (hr : rTxs X (A 0)) (h : ∀ A' : qA, qag [2, 4] A A' → Q (some (.int (s_behind (A 0) n w))) (mem A' F X)) : pz_C yX9_behind KX9_behind [.ref 0, .int n, .int w] (mem A F X) Q := by
  refine pz_C_of rfl rfl rfl (Nat.le_of_ble_eq_true rfl) (pz_wp_ok (pz_Is_ok SX9_behind) [] 100 ?_)
  unfold s_behind at h
  refine cP_within 0 60 rfl rfl (fun g1 => ?_) (fun g1 => ?_)
  · refine br2 (by decide) ?_
    refine cP_within 0 37 rfl rfl (fun g2 => ?_) (fun g2 => ?_)
    · refine br1 (by decide) ?_
      rw [if_pos ⟨g1, g2⟩] at h
      obtain ⟨a1, a2, a3⟩ := qI (m := 61) g1 (by omega)
      obtain ⟨b1, b2, b3⟩ := qI (m := 38) g2 (by omega)
      refine cT2_becomes0 (t := A 0) (fun j _ => rfl) hok.2.2.2.1 ?_
      refine cT2_passes (A := va_up A 2 (A 0)) (W := 20) (B := B) a1 (by omega) hok hv ⟨by decide, by decide⟩ (by omega) hr (fun A2 hA2 e2 => ?_)
      have e2 : A2 2 = f_it n.toNatClampNeg (A 0) := e2
      have ag : qag [2, 4] A A2 := (qag.up (by simp)).trans (hA2.mono (by simp))
      have ok2 : okS (A2 2) := by rw [e2]; exact okS_it hok _
      obtain ⟨n1, n2⟩ := ok2.n
      rw [← e2] at h
      refine ⟨fun g => ?_, fun g => ?_⟩
      · have g : ¬ w = 0 := g
        rw [if_neg g] at h
        refine ⟨fun g' => ?_, fun g' => ?_⟩
        · have g' : ¬ w = 1 := g'
          rw [if_neg g'] at h
          have w2 : 2 ≤ w.toNatClampNeg := by
            rcases Nat.lt_or_ge w.toNatClampNeg 2 with z | z
            · exfalso
              generalize w.toNatClampNeg = m at b1 z
              have : m = 0 ∨ m = 1 := by omega
              rcases this with e | e
              · subst e; exact g b1
              · subst e; exact g' b1
            · exact z
          have ew : w - 2 = nI (w.toNatClampNeg - 2) := by
            generalize w.toNatClampNeg = m at b1 w2
            subst b1
            exact nI_sub1 (b := 2) w2
          have cw := qcl _ ew (by omega)
          refine ⟨qin _ ew (by omega) (by omega), ?_⟩
          rw [cw, qm_1 (by omega)]
          exact h A2 ag
        · have g' : w = 1 := g'
          rw [if_pos g'] at h
          exact cT2_allAte n2 n1 (h A2 ag)
      · have g : w = 0 := g
        rw [if_pos g] at h
        exact cT2_allParts (h A2 ag)
    · refine br2 (fun z => z rfl) ?_
      rw [if_neg (fun z => g2 z.2)] at h
      exact h A (qag.refl _ A)
  · refine br1 (fun z => z rfl) ?_
    rw [if_neg (fun z => g1 z.1)] at h
    exact h A (qag.refl _ A)
set_option maxRecDepth 8000 in
theorem tP_wets {c : Int32} {cn : Nat} {B : Int} {t0 : Nat → Int32} (hc : c = nI cn) (hcn : cn < 36) (hok : okS t0) (hv : okV 20 B t0) (hB : B + 20000 < 1073741824) (hr : rTxs X t0) {r : Int32} (h : ∀ A' : qA, qag [2, 4] A A' → Q (some (.int (e_or r))) (mem A' F X)) : ∀ (d k : Nat), k + d = 200 → r = f_wets cn (d + 1) k (f_it k t0) → ∀ A1 : qA, qag [2, 4] A A1 → A1 2 = f_it k t0 → pz_T z0 KX9_wets Q 23 (0, 0) [some (.ref 0), some (.int c), some (.int (nI k))] [] (mem A1 F X) := by
  have cc := qcl _ hc (by omega)
  intro d
  induction d with
  | zero =>
    intro k hk hrr A1 hA e1
    have hk : k = 200 := by omega
    subst hk
    rw [f_wets, ← e1, f_wets] at hrr
    refine pz_wp_ok (pz_Is_ok SX9_wets) [23] 100 ?_
    refine br1 (fun z => z (nI_le (Nat.le_refl _) (by omega))) ?_
    refine ⟨qin _ hc hcn (by omega), ?_⟩
    rw [cc, qm_1 hcn]
    refine ⟨fun g => ?_, fun g => ?_⟩
    · have g : A1 2 (82 + cn) ≤ 0 := g
      rw [if_pos g] at hrr
      subst hrr
      exact h A1 hA
    · have g : ¬ A1 2 (82 + cn) ≤ 0 := g
      rw [if_neg g] at hrr
      subst hrr
      exact h A1 hA
  | succ d ih =>
    intro k hk hrr A1 hA e1
    rw [f_wets, show f_pass (f_it k t0) = f_it (k + 1) t0 from rfl, ← e1] at hrr
    refine pz_wp_ok (pz_Is_ok SX9_wets) [23] 100 ?_
    refine br2 (n_ge (b := 200) (by omega) (by omega) (by omega)) ?_
    refine ⟨qin _ hc hcn (by omega), ?_⟩
    rw [cc, qm_1 hcn]
    refine ⟨fun g => ?_, fun g => ?_⟩
    · have g : A1 2 (82 + cn) ≤ 0 := g
      rw [if_pos g] at hrr
      refine cT2_pass (W := 20) (B := B + 99 * (k : Int)) (by rw [e1]; exact okS_it hok k) (by rw [e1]; exact okV_it hv hok ⟨by decide, by decide⟩ k (by omega)) ⟨by decide, by decide⟩ (by omega) (by rw [e1]; exact rTxs_cg (f_it_out hok k (by omega)) (fun j hj => f_it_out hok k (by omega)) hr) (fun A2 hA2 e2 => ?_)
      have e2 : A2 2 = f_it (k + 1) t0 := by rw [e2, e1]; rfl
      refine qT (ih (k + 1) (by omega) hrr A2 (hA.trans (hA2.mono (by simp))) e2) ?_ rfl rfl
      rw [← nI_1 k]
      rfl
    · have g : ¬ A1 2 (82 + cn) ≤ 0 := g
      rw [if_neg g] at hrr
      subst hrr
      have h' := h A1 hA
      rw [e_or_n (by omega)] at h'
      exact h'
set_option maxRecDepth 8000 in
theorem cP_wets {c : Int32} {B : Int} (hok : okS (A 0)) (hv : okV 20 B (A 0)) (hB : B + 20000 < 1073741824) (hr : rTxs X (A 0)) (h : ∀ A' : qA, qag [2, 4] A A' → Q (some (.int (s_wets (A 0) c))) (mem A' F X)) : pz_C yX9_wets KX9_wets [.ref 0, .int c] (mem A F X) Q := by
  refine pz_C_of rfl rfl rfl (Nat.le_of_ble_eq_true rfl) (pz_wp_ok (pz_Is_ok SX9_wets) [23] 100 ?_)
  unfold s_wets at h
  refine cP_isCell (fun g1 => ?_) (fun g1 => ?_)
  · refine br1 (by decide) ?_
    rw [if_pos g1] at h
    obtain ⟨a1, a2, a3⟩ := qI (m := 36) g1 (by omega)
    refine cT2_becomes0 (t := A 0) (fun j _ => rfl) hok.2.2.2.1 ?_
    exact tP_wets (A := A) a1 a2 hok hv hB hr (r := f_wets c.toNatClampNeg 201 0 (A 0)) h 200 0 (by omega) rfl (va_up A 2 (A 0)) (qag.up (by simp)) rfl
  · refine br2 (fun z => z rfl) ?_
    rw [if_neg g1] at h
    exact h A (qag.refl _ A)
set_option maxRecDepth 8000 in
theorem tP_deepest {x1 w : Int32} (h : Q (some (.int (if w = 0 then nI (f_best (A 2) 36) else A 2 (82 + f_best (A 2) 36)))) (mem A F X)) : ∀ (d c : Nat), c + d = 36 → 1 ≤ c → pz_T z0 KX9_deepest Q 46 (0, 0) [some (.ref 0), some (.int x1), some (.int w), some (.int (nI (f_best (A 2) c))), some (.int (nI c))] [] (mem A F X) := by
  intro d
  induction d with
  | zero =>
    intro c hc h1
    have hc : c = 36 := by omega
    subst hc
    have hb := f_best_lt (A 2) 36
    have hb36 : f_best (A 2) 36 < 36 := by
      have : ∀ c, 1 ≤ c → f_best (A 2) c < c := by
        intro c
        induction c with
        | zero => intro h; omega
        | succ c ih =>
          intro _
          rw [f_best]
          by_cases z : A 2 (82 + c) ≤ A 2 (82 + f_best (A 2) c)
          · rw [if_pos z]
            have := f_best_lt (A 2) c
            omega
          · rw [if_neg z]; omega
      exact this 36 (by omega)
    generalize f_best (A 2) 36 = b at h hb36
    have cb := qcl (x := nI b) b rfl (by omega)
    refine pz_wp_ok (pz_Is_ok SX9_deepest) [46] 100 ?_
    refine br1 (fun z => z (nI_le (Nat.le_refl _) (by omega))) ?_
    refine ⟨fun g => ?_, fun g => ?_⟩
    · have g : ¬ w = 0 := g
      rw [if_neg g] at h
      refine ⟨qin b rfl hb36 (by omega), ?_⟩
      rw [cb, qm_1 hb36]
      exact h
    · have g : w = 0 := g
      rw [if_pos g] at h
      exact h
  | succ d ih =>
    intro c hc h1
    have ih' := ih (c + 1) (by omega) (by omega)
    have hb := f_best_lt (A 2) c
    rw [f_best] at ih'
    generalize f_best (A 2) c = b at ih' hb ⊢
    have cb := qcl (x := nI b) b rfl (by omega)
    have cc := qcl (x := nI c) c rfl (by omega)
    refine pz_wp_ok (pz_Is_ok SX9_deepest) [46] 100 ?_
    refine br2 (n_ge (b := 36) (by omega) (by omega) (by omega)) ?_
    refine ⟨qin c rfl (by omega) (by omega), ?_⟩
    have hb36 : b < 36 := by omega
    refine ⟨qin b rfl hb36 (by omega), ?_⟩
    rw [cb, cc, qm_1 hb36, qm_1 (show c < 36 by omega)]
    refine ⟨fun g => ?_, fun g => ?_⟩
    · have g : A 2 (82 + c) ≤ A 2 (82 + b) := g
      rw [if_pos g] at ih'
      exact qT ih' (by rw [← nI_1 c]; rfl) rfl rfl
    · have g : ¬ A 2 (82 + c) ≤ A 2 (82 + b) := g
      rw [if_neg g] at ih'
      exact qT ih' (by rw [← nI_1 c]; rfl) rfl rfl
theorem f_best_1 (t : Nat → Int32) : f_best t 1 = 0 := by
  show (if t (82 + 0) ≤ t (82 + 0) then 0 else 0) = 0
  exact ite_self 0
set_option maxRecDepth 8000 in
theorem cP_deepest {n w : Int32} {B : Int} (hok : okS (A 0)) (hv : okV 20 B (A 0)) (hB : B + 20000 < 1073741824) (hr : rTxs X (A 0)) (h : ∀ A' : qA, qag [2, 4] A A' → Q (some (.int (s_deepest (A 0) n w))) (mem A' F X)) : pz_C yX9_deepest KX9_deepest [.ref 0, .int n, .int w] (mem A F X) Q := by
  refine pz_C_of rfl rfl rfl (Nat.le_of_ble_eq_true rfl) (pz_wp_ok (pz_Is_ok SX9_deepest) [46] 100 ?_)
  unfold s_deepest at h
  refine cP_within 0 60 rfl rfl (fun g1 => ?_) (fun g1 => ?_)
  · refine br2 (by decide) ?_
    refine cP_within 0 1 rfl rfl (fun g2 => ?_) (fun g2 => ?_)
    · refine br1 (by decide) ?_
      rw [if_pos ⟨g1, g2⟩] at h
      obtain ⟨a1, a2, a3⟩ := qI (m := 61) g1 (by omega)
      refine cT2_becomes0 (t := A 0) (fun j _ => rfl) hok.2.2.2.1 ?_
      refine cT2_passes (A := va_up A 2 (A 0)) (W := 20) (B := B) a1 (by omega) hok hv ⟨by decide, by decide⟩ (by omega) hr (fun A2 hA2 e2 => ?_)
      have e2 : A2 2 = f_it n.toNatClampNeg (A 0) := e2
      have ag : qag [2, 4] A A2 := (qag.up (by simp)).trans (hA2.mono (by simp))
      rw [← e2] at h
      have := tP_deepest (x1 := n) (h A2 ag) 35 1 (by omega) (by omega)
      rw [f_best_1] at this
      exact this
    · refine br2 (fun z => z rfl) ?_
      rw [if_neg (fun z => g2 z.2)] at h
      exact h A (qag.refl _ A)
  · refine br1 (fun z => z rfl) ?_
    rw [if_neg (fun z => g1 z.1)] at h
    exact h A (qag.refl _ A)
theorem okV_wall {B : Int} {t : Nat → Int32} (h : okV 20 B t) {c : Nat} (hc : c < 36) : okV 25 B (upd t (46 + c) (t (46 + c) + 5)) := by
  obtain ⟨o1, o2, o3, o4, o5⟩ := h
  have hw := (o1 c hc).2.1
  have e : (t (46 + c) + 5).toInt = (t (46 + c)).toInt + 5 := i_add (x := t (46 + c)) (y := 5) (by rw [show (5 : Int32).toInt = 5 from rfl]; omega) (by rw [show (5 : Int32).toInt = 5 from rfl]; omega)
  refine ⟨fun d hd => ?_, ?_, ?_, fun k hk => ?_, ?_⟩
  · rw [upd_ne _ _ (show 10 + d ≠ 46 + c by omega), upd_ne _ _ (show 82 + d ≠ 46 + c by omega)]
    refine ⟨(o1 d hd).1, ?_, (o1 d hd).2.2⟩
    by_cases q : d = c
    · subst q
      rw [upd_at]
      show 0 ≤ (t (46 + d) + 5).toInt ∧ (t (46 + d) + 5).toInt ≤ 25
      rw [e]
      omega
    · rw [upd_ne _ _ (by omega)]
      have := (o1 d hd).2.1
      exact ⟨this.1, by have := this.2; omega⟩
  · rw [f_sI_cg 36 (fun d hd => upd_ne _ _ (by omega))]; exact o2
  · rw [upd_ne _ _ (by omega)]; exact o3
  · rw [upd_ne _ _ (by omega)]; exact o4 k hk
  · rw [upd_ne _ _ (by omega)]; exact o5
set_option maxRecDepth 8000 in
theorem tP_walled {c n w : Int32} {cn nn : Nat} {B : Int} (hc : c = nI cn) (hcn : cn < 36) (hn : n = nI nn) (hnn : nn ≤ 20) (hok : okS (A 0)) (hv : okV 20 B (A 0)) (hB : B + 20000 < 1073741824) (hr : rTxs X (A 0)) (h : ∀ A' : qA, qag [2, 4] A A' → Q (some (.int (if w = 0 then (f_wal (A 0) cn nn 36).1 else (f_wal (A 0) cn nn 36).2))) (mem A' F X)) : ∀ (d k : Nat), k + d = 36 → ∀ A1 : qA, qag [2, 4] A A1 → pz_T z0 KX9_walled Q 39 (0, 0) [some (.ref 0), some (.int c), some (.int n), some (.int w), some (.int (p_first (f_wal (A 0) cn nn k) k).1), some (.int (p_first (f_wal (A 0) cn nn k) k).2), some (.int (nI k))] [] (mem A1 F X) := by
  have cc := qcl _ hc (by omega)
  intro d
  induction d with
  | zero =>
    intro k hk A1 hA
    have hk : k = 36 := by omega
    subst hk
    have h := h A1 hA
    have e : p_first (f_wal (A 0) cn nn 36) 36 = f_wal (A 0) cn nn 36 := rfl
    rw [e]
    generalize f_wal (A 0) cn nn 36 = r at h ⊢
    refine pz_wp_ok (pz_Is_ok SX9_walled) [39] 100 ?_
    refine br1 (fun z => z (nI_le (Nat.le_refl _) (by omega))) ?_
    refine ⟨fun g => ?_, fun g => ?_⟩
    · have g : ¬ w = 0 := g
      rw [if_neg g] at h
      exact h
    · have g : w = 0 := g
      rw [if_pos g] at h
      exact h
  | succ d ih =>
    intro k hk A1 hA
    have e0 : A1 0 = A 0 := hA 0 (by simp)
    refine pz_wp_ok (pz_Is_ok SX9_walled) [39, 71] 100 ?_
    refine br2 (n_ge (b := 36) (by omega) (by omega) (by omega)) ?_
    refine cT2_becomes0 (A := A1) (t := A 0) (fun j _ => by rw [e0]) (by rw [e0]; exact hok.2.2.2.1) ?_
    have ck := qcl (x := nI k) k rfl (by omega)
    refine ⟨qin k rfl (by omega) (by omega), ?_⟩
    refine ⟨qin k rfl (by omega) (by omega), ?_⟩
    rw [ck]
    have hm := mw2 (A := va_up A1 2 (A 0)) (F := F) (X := X) (c := k) (by omega) (A 0 (46 + k) + 5)
    rw [vu_vu, vu_at] at hm
    have e46 : qm 36 46 1 (va_up A1 2 (A 0) 2) k = A 0 (46 + k) := by rw [vu_at]; exact qm_1 (by omega)
    rw [e46]
    refine qT (M' := mem (va_up A1 2 (upd (A 0) (46 + k) (A 0 (46 + k) + 5))) F X) ?_ rfl rfl hm
    have okw := okS_wall hok (c := k) (by omega) (A 0 (46 + k) + 5)
    have okvw := okV_wall hv (c := k) (by omega)
    have rw' : rTxs X (upd (A 0) (46 + k) (A 0 (46 + k) + 5)) := rTxs_cg (upd_ne _ _ (by omega)) (fun j hj => upd_ne _ _ (by omega)) hr
    have evv : f_walv (A 0) cn nn k = f_it nn (upd (A 0) (46 + k) (A 0 (46 + k) + 5)) (82 + cn) := rfl
    have hw : f_wal (A 0) cn nn (k + 1) = if (f_wal (A 0) cn nn k).1 < 0 ∨ f_walv (A 0) cn nn k < (f_wal (A 0) cn nn k).2 then (nI k, f_walv (A 0) cn nn k) else f_wal (A 0) cn nn k := rfl
    have hpos := fun (z : 1 ≤ k) => f_wal_pos (A 0) cn nn (k - 1) (by omega)
    generalize upd (A 0) (46 + k) (A 0 (46 + k) + 5) = t1 at okw okvw rw' evv ⊢
    refine pz_wp_ok (pz_Is_ok SX9_walled) [39] 100 ?_
    refine cT2_passes (A := va_up A1 2 t1) (W := 25) (B := B) hn (by omega) okw okvw ⟨by decide, by decide⟩ (by omega) rw' (fun A2 hA2 e2 => ?_)
    have e2 : A2 2 = f_it nn t1 := e2
    have ag : qag [2, 4] A A2 := (hA.trans (qag.up (by simp))).trans (hA2.mono (by simp))
    rw [← e2] at evv
    have bnd := (okV_it okvw okw ⟨by decide, by decide⟩ nn (by omega)).part hcn
    rw [← e2, ← evv] at bnd
    refine ⟨qin _ hc hcn (by omega), ?_⟩
    rw [cc, qm_1 hcn, ← evv]
    have ih' := ih (k + 1) (by omega) A2 ag
    rw [← nI_1 k] at ih'
    have e1 : p_first (f_wal (A 0) cn nn (k + 1)) (k + 1) = f_wal (A 0) cn nn (k + 1) := rfl
    rw [e1, hw] at ih'
    generalize f_walv (A 0) cn nn k = v at ih' bnd evv ⊢
    match k, hpos with
    | 0, _ =>
      rw [if_pos (Or.inl (f_wal_z _ _ _))] at ih'
      refine br2 (fun z => ?_) ?_
      · have z : (2147483647 : Int32) ≤ v := z
        rw [i_le, show (2147483647 : Int32).toInt = 2147483647 from rfl] at z
        omega
      refine ⟨qin _ hc hcn (by omega), ?_⟩
      rw [cc, qm_1 hcn, ← evv]
      exact ih'
    | k + 1, hpos =>
      have hp : ¬ (f_wal (A 0) cn nn (k + 1)).1 < 0 := hpos (by omega)
      have e3 : p_first (f_wal (A 0) cn nn (k + 1)) (k + 1) = f_wal (A 0) cn nn (k + 1) := rfl
      rw [e3]
      generalize f_wal (A 0) cn nn (k + 1) = r at ih' hp ⊢
      refine ⟨fun g => ?_, fun g => ?_⟩
      · have g : r.2 ≤ v := g
        rw [if_neg (fun z => z.elim hp (i_nlt.mpr g))] at ih'
        exact ih'
      · have g : ¬ r.2 ≤ v := g
        rw [if_pos (Or.inr (i_nle.mp g))] at ih'
        refine ⟨qin _ hc hcn (by omega), ?_⟩
        rw [cc, qm_1 hcn, ← evv]
        exact ih'
set_option maxRecDepth 8000 in
theorem cP_walled {c n w : Int32} {B : Int} (hok : okS (A 0)) (hv : okV 20 B (A 0)) (hB : B + 20000 < 1073741824) (hr : rTxs X (A 0)) (h : ∀ A' : qA, qag [2, 4] A A' → Q (some (.int (s_walled (A 0) c n w))) (mem A' F X)) : pz_C yX9_walled KX9_walled [.ref 0, .int c, .int n, .int w] (mem A F X) Q := by
  refine pz_C_of rfl rfl rfl (Nat.le_of_ble_eq_true rfl) (pz_wp_ok (pz_Is_ok SX9_walled) [39] 100 ?_)
  unfold s_walled at h
  refine cP_isCell (fun g1 => ?_) (fun g1 => ?_)
  · refine br2 (by decide) ?_
    refine cP_within 1 20 rfl rfl (fun g2 => ?_) (fun g2 => ?_)
    · refine br2 (by decide) ?_
      refine cP_within 0 1 rfl rfl (fun g3 => ?_) (fun g3 => ?_)
      · refine br1 (by decide) ?_
        rw [if_pos ⟨g1, g2, g3⟩] at h
        obtain ⟨a1, a2, a3⟩ := qI (m := 36) g1 (by omega)
        obtain ⟨m, e, m1, m2⟩ := qIpos g2 (by omega)
        have em := qcl m e (by omega)
        rw [em] at h
        exact tP_walled a1 a2 e (by omega) hok hv hB hr h 36 0 (by omega) A (qag.refl _ A)
      · refine br2 (fun z => z rfl) ?_
        rw [if_neg (fun z => g3 z.2.2)] at h
        exact h A (qag.refl _ A)
    · refine br1 (fun z => z rfl) ?_
      rw [if_neg (fun z => g2 z.2.1)] at h
      exact h A (qag.refl _ A)
  · refine br1 (fun z => z rfl) ?_
    rw [if_neg (fun z => g1 z.1)] at h
    exact h A (qag.refl _ A)
set_option maxRecDepth 8000 in
theorem tP_enough {c n : Int32} {cn nn : Nat} {B : Int} (hc : c = nI cn) (hcn : cn < 36) (hn : n = nI nn) (hnn : nn ≤ 40) (hok : okS (A 0)) (hv : okV 20 B (A 0)) (hB : B + 20000 < 1073741824) (hr : rTxs X (A 0)) (h : ∀ A' : qA, qag [2, 3, 4] A A' → Q (some (.int (e_or (f_en (A 0) cn nn (nn + 1))))) (mem A' F X)) : ∀ (d k : Nat), k + d = nn + 1 → ∀ A1 : qA, qag [2, 3, 4] A A1 → A1 3 = f_it k (A 0) → pz_T z0 KX9_enough Q 37 (0, 0) [some (.ref 0), some (.int c), some (.int n), some (.int (e_or (f_en (A 0) cn nn k))), some (.int (nI k))] [] (mem A1 F X) := by
  have cc := qcl _ hc (by omega)
  intro d
  induction d with
  | zero =>
    intro k hk A1 hA e1
    have hk : k = nn + 1 := by omega
    subst hk
    refine pz_wp_ok (pz_Is_ok SX9_enough) [37] 100 ?_
    refine br1 (fun z => z ?_) ?_
    · show n < nI (nn + 1)
      rw [hn, i_lt, nIi (by omega), nIi (by omega)]
      omega
    exact h A1 hA
  | succ d ih =>
    intro k hk A1 hA e1
    have okk := okS_it hok k
    have okvk := okV_it hv hok ⟨by decide, by decide⟩ k (by omega)
    have rk : rTxs X (f_it k (A 0)) := rTxs_cg (f_it_out hok k (by omega)) (fun j hj => f_it_out hok k (by omega)) hr
    have okc := okS_cooks okk
    have okvc : okV 20 (B + 99 * (k : Int)) (upd (f_it k (A 0)) 4 0) := okV_cg (fun j hj => upd_ne _ _ (by omega)) okvk
    have rc : rTxs X (upd (f_it k (A 0)) 4 0) := rTxs_cg (upd_ne _ _ (by omega)) (fun j hj => upd_ne _ _ (by omega)) rk
    have hen : f_en (A 0) cn nn (k + 1) = if f_it (nn - k) (upd (f_it k (A 0)) 4 0) (82 + cn) = 0 then nI k else f_en (A 0) cn nn k := rfl
    have hnx : ∀ A3 : qA, A3 3 = f_pass (A1 3) → A3 3 = f_it (k + 1) (A 0) := fun A3 z => by rw [z, e1]; rfl
    rw [← e1] at okk okvk rk okc okvc rc hen
    refine pz_wp_ok (pz_Is_ok SX9_enough) [37, 62] 100 ?_
    refine br2 (fun z => ?_) ?_
    · have z : n < nI k := z
      rw [hn, i_lt, nIi (by omega), nIi (by omega)] at z
      omega
    refine cT2_becomes3 (A := A1) (t := A1 3) (fun j _ => rfl) okk.2.2.2.1 ?_
    refine ⟨Or.inl rfl, ?_⟩
    have hm := mf_coo2 (A := va_up A1 2 (A1 3)) (F := F) (X := X) 0
    rw [vu_vu, vu_at] at hm
    refine qT (M' := mem (va_up A1 2 (upd (A1 3) 4 0)) F X) ?_ rfl rfl hm
    have es : n - nI k = nI (nn - k) := by rw [hn]; exact nI_sub1 (by omega)
    generalize upd (A1 3) 4 0 = t1 at okc okvc rc hen ⊢
    refine pz_wp_ok (pz_Is_ok SX9_enough) [37] 100 ?_
    refine cT2_passes (A := va_up A1 2 t1) (W := 20) (B := B + 99 * (k : Int)) es (by omega) okc okvc ⟨by decide, by decide⟩ (by omega) rc (fun A2 hA2 e2 => ?_)
    have e2 : A2 2 = f_it (nn - k) t1 := e2
    have e23 : A2 3 = A1 3 := (hA2 3 (by simp)).trans (vu_ne _ _ (by omega))
    have ag : qag [2, 3, 4] A A2 := (hA.trans (qag.up (by simp))).trans (hA2.mono (by simp))
    rw [← e2] at hen
    refine ⟨qin _ hc hcn (by omega), ?_⟩
    rw [cc, qm_1 hcn]
    have ek : nI k + 1 = nI (k + 1) := nI_1 k
    refine ⟨fun g => ?_, fun g => ?_⟩
    · have g : ¬ A2 2 (82 + cn) = 0 := g
      rw [if_neg g] at hen
      refine cT3_pass (W := 20) (B := B + 99 * (k : Int)) (by rw [e23]; exact okk) (by rw [e23]; exact okvk) ⟨by decide, by decide⟩ (by omega) (by rw [e23]; exact rk) (fun A3 hA3 e3 => ?_)
      rw [e23] at e3
      have ih' := ih (k + 1) (by omega) A3 (ag.trans (hA3.mono (by simp))) (hnx A3 e3)
      rw [hen, ← ek] at ih'
      exact ih'
    · have g : A2 2 (82 + cn) = 0 := g
      rw [if_pos g] at hen
      refine cT3_pass (W := 20) (B := B + 99 * (k : Int)) (by rw [e23]; exact okk) (by rw [e23]; exact okvk) ⟨by decide, by decide⟩ (by omega) (by rw [e23]; exact rk) (fun A3 hA3 e3 => ?_)
      rw [e23] at e3
      have ih' := ih (k + 1) (by omega) A3 (ag.trans (hA3.mono (by simp))) (hnx A3 e3)
      rw [hen, e_or_n (by omega), ← ek] at ih'
      exact ih'
set_option maxRecDepth 8000 in
theorem cP_enough {c n : Int32} {B : Int} (hok : okS (A 0)) (hv : okV 20 B (A 0)) (hB : B + 20000 < 1073741824) (hr : rTxs X (A 0)) (h : ∀ A' : qA, qag [2, 3, 4] A A' → Q (some (.int (s_enough (A 0) c n))) (mem A' F X)) : pz_C yX9_enough KX9_enough [.ref 0, .int c, .int n] (mem A F X) Q := by
  refine pz_C_of rfl rfl rfl (Nat.le_of_ble_eq_true rfl) (pz_wp_ok (pz_Is_ok SX9_enough) [37] 100 ?_)
  unfold s_enough at h
  refine cP_isCell (fun g1 => ?_) (fun g1 => ?_)
  · refine br2 (by decide) ?_
    refine cP_within 0 40 rfl rfl (fun g2 => ?_) (fun g2 => ?_)
    · refine br1 (by decide) ?_
      rw [if_pos ⟨g1, g2⟩] at h
      obtain ⟨a1, a2, a3⟩ := qI (m := 36) g1 (by omega)
      obtain ⟨b1, b2, b3⟩ := qI (m := 41) g2 (by omega)
      refine cT3_becomes0 (t := A 0) (fun j _ => rfl) hok.2.2.2.1 ?_
      exact tP_enough (A := A) a1 a2 b1 (by omega) hok hv hB hr h (n.toNatClampNeg + 1) 0 (by omega) (va_up A 3 (A 0)) (qag.up (by simp)) rfl
    · refine br2 (fun z => z rfl) ?_
      rw [if_neg (fun z => g2 z.2)] at h
      exact h A (qag.refl _ A)
  · refine br1 (fun z => z rfl) ?_
    rw [if_neg (fun z => g1 z.1)] at h
    exact h A (qag.refl _ A)
set_option maxRecDepth 8000 in
theorem cP_fee (hok : okS (A 0)) (hr : rTxs X (A 0)) (h : ∀ A' : qA, qag [4] A A' → Q (some (.int (s_fee (A 0)))) (mem A' F X)) : pz_C yX9_fee KX9_fee [.ref 0] (mem A F X) Q := by
  refine pz_C_of rfl rfl rfl (Nat.le_of_ble_eq_true rfl) (pz_wp_ok (pz_Is_ok SX9_fee) [] 100 ?_)
  obtain ⟨n1, n2⟩ := hok.n
  obtain ⟨m1, m2, m3⟩ := hok.nt
  unfold s_fee at h
  refine cT0_allAte n2 n1 ?_
  refine cL_counting (t := A 0) m2 m1 hr (fun hc => ?_) (fun k i hc hk hi => ?_)
  · rw [hc] at h
    exact h A (qag.refl _ A)
  · rw [hc] at h
    dsimp only at h
    obtain ⟨o1, key, o2, o3, o4⟩ := okTx_m (m3 k hk)
    have hkey := (f_cnt_lt _ _ _ _ hc).2
    have hk0 : key = 1 := by
      have : nI key = nI 1 := o3.symm.trans hkey
      exact (nI_eq (by omega) (by omega)).mp this
    subst hk0
    refine cT0_allParts ?_
    refine cL_given (t := A 0) (nm := f_feen (A 0)) (k := k) (m := f_m (A 0) k) (key := 1) hi (by omega) rfl (by rw [o3]; rfl) o1 (fun v hv => ?_) (fun p => h _ (qag.up (by simp)))
    rcases hv with ⟨e, -⟩ | ⟨-, e | e⟩ | ⟨e, -⟩
    · omega
    · subst e; rfl
    · subst e; rfl
    · omega
set_option maxRecDepth 8000 in
theorem cP_fine {e : Int32} (hok : okS (A 0)) (hr : rTxs X (A 0)) (h : ∀ A' : qA, qag [4] A A' → Q (some (.int (s_fine (A 0) e))) (mem A' F X)) : pz_C yX9_fine KX9_fine [.ref 0, .int e] (mem A F X) Q := by
  refine pz_C_of rfl rfl rfl (Nat.le_of_ble_eq_true rfl) (pz_wp_ok (pz_Is_ok SX9_fine) [] 100 ?_)
  obtain ⟨n1, n2⟩ := hok.n
  obtain ⟨m1, m2, m3⟩ := hok.nt
  unfold s_fine at h
  refine cT0_hasEater n2 (by omega) (fun g1 => ?_) (fun g1 => ?_)
  · refine br1 (by decide) ?_
    rw [if_pos g1] at h
    obtain ⟨a1, a2, a3⟩ := qI (m := 8) g1 (by omega)
    refine ⟨qin _ a1 a2 (by omega), ?_⟩
    rw [qm_a a2]
    refine cL_counting (t := A 0) m2 m1 hr (fun hc => ?_) (fun k i hc hk hi => ?_)
    · rw [hc] at h
      exact h A (qag.refl _ A)
    · rw [hc] at h
      dsimp only at h
      obtain ⟨o1, key, o2, o3, o4⟩ := okTx_m (m3 k hk)
      have hkey := (f_cnt_lt _ _ _ _ hc).2
      have hk0 : key = 2 := by
        have : nI key = nI 2 := o3.symm.trans hkey
        exact (nI_eq (by omega) (by omega)).mp this
      subst hk0
      refine ⟨qin _ a1 a2 (by omega), ?_⟩
      rw [qm_l a2]
      refine cL_given (t := A 0) (nm := f_finen (A 0) e.toNatClampNeg) (k := k) (m := f_m (A 0) k) (key := 2) hi (by omega) rfl (by rw [o3]; rfl) o1 (fun v hv => ?_) (fun p => h _ (qag.up (by simp)))
      rcases hv with ⟨e, -⟩ | ⟨e, -⟩ | ⟨-, e | e⟩
      · omega
      · omega
      · subst e; rfl
      · subst e; rfl
  · refine br2 (fun z => z rfl) ?_
    rw [if_neg g1] at h
    exact h A (qag.refl _ A)
end POT
