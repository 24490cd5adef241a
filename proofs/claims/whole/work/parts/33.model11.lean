/-! the reference: minutes, deal, town -/
def f_mins : Nat → (Nat → Int32) → Int32 → Int32 × (Nat → Int32)
  | 0, t, a => (a, t)
  | d + 1, t, a => if t 2 < 9999 then f_mins d (f_pass t) (a + (f_fed t).1) else (a, t)
def s_minutes (t : Nat → Int32) (n : Int32) : Int32 × (Nat → Int32) := if qIn 1 60 n then f_mins n.toNatClampNeg t 0 else (BAD, t)
def f_deal1 (t : Nat → Int32) : Nat → Int32 := f_come (f_dr (f_dr t)) (f_n t) (f_rem (f_g (f_dr t 5)) 6) (f_rem (f_g (f_dr (f_dr t) 5)) 36)
def f_deal : Nat → (Nat → Int32) → Int32 → Int32 × (Nat → Int32)
  | 0, t, a => (a, t)
  | d + 1, t, a => if t 0 < 8 then f_deal d (f_deal1 t) (a + 1) else (a, t)
def s_deal (t : Nat → Int32) (n : Int32) : Int32 × (Nat → Int32) := if qIn 1 8 n then f_deal n.toNatClampNeg t 0 else (BAD, t)
def s_town (t : Nat → Int32) (w : Int32) : Int32 := if w = 0 then f_sp t 36 else if w = 1 then f_sa t (f_n t) else if w = 2 then f_wet t 36 else if w = 3 then f_pours t else if w = 4 then t 3 else if w = 5 then t 4 else BAD
theorem f_deal1_0 (t : Nat → Int32) {n : Nat} (hn : t 0 = nI n) (hb : n < 8) : f_deal1 t 0 = nI (n + 1) := by
  have e : f_n t = n := qcl n hn (by omega)
  unfold f_deal1 f_come
  rw [upd_ne _ _ (by omega), upd_ne _ _ (by omega), upd_ne _ _ (by omega), upd_at, f_dr_out _ (by omega), f_dr_out _ (by omega), hn]
  exact nI_1 n
section MOD
variable {A : qA} {F : qF} {X : qX} {Q : pz_Q} {M : pz_M}
theorem qIpos {n : Int32} {b : Int} (h : qIn 1 b n) (hb : b < 2147483648) : ∃ m : Nat, n = nI m ∧ 1 ≤ m ∧ (m : Int) ≤ b := by
  obtain ⟨m, h1, h2, h3⟩ := qIn_nat (x := n) (hi := b) ⟨by omega, h.2⟩
  refine ⟨m, h3, ?_, h1⟩
  have := h.1
  rw [h3, nIi h2] at this
  omega
theorem tM_minutes {n : Nat} (hn : n < 2147483648) {r : Int32 × (Nat → Int32)} (h : ∀ A' : qA, qag [20, 35, 36] A A' → A' 20 = r.2 → Q (some (.int r.1)) (mem A' F X)) : ∀ (d k : Nat), k + d = n → ∀ (A1 : qA) (a : Int32), qag [20, 35, 36] A A1 → okS (A1 20) → r = f_mins d (A1 20) a → pz_T z0 KX10_minutes Q 19 (0, 0) [some (.ref 69), some (.int (nI n)), some (.int a), some (.int (nI k))] [] (mem A1 F X) := by
  intro d
  induction d with
  | zero =>
    intro k hk A1 a hA hok hr
    have hk : k = n := by omega
    subst hk
    refine pz_wp_ok (pz_Is_ok SX10_minutes) [19] 100 ?_
    refine br1 (fun z => z (nI_le (Nat.le_refl _) (by omega))) ?_
    subst hr
    exact h A1 hA rfl
  | succ d ih =>
    intro k hk A1 a hA hok hr
    refine pz_wp_ok (pz_Is_ok SX10_minutes) [19] 100 ?_
    refine br2 (n_ge (by omega) (by omega) (by omega)) ?_
    refine ⟨qin 2 rfl (by omega) (by omega), ?_⟩
    rw [f_mins] at hr
    have e9 : ∀ x : Int32, (9999 : Int32) ≤ x ↔ ¬ x < 9999 := fun x => by rw [i_lt, i_le]; omega
    refine ⟨fun g => ?_, fun g => ?_⟩
    · have g : (9999 : Int32) ≤ A1 20 2 := g
      rw [if_neg ((e9 _).mp g)] at hr
      subst hr
      exact h A1 hA rfl
    · have g : ¬ (9999 : Int32) ≤ A1 20 2 := g
      rw [if_pos (Decidable.not_not.mp (fun z => g ((e9 _).mpr z)))] at hr
      refine cM_goesOn hok (fun A2 hB hB2 => ?_)
      have ek : nI k + 1 = nI (k + 1) := nI_1 k
      refine qT (ih (k + 1) (by omega) A2 (a + (f_fed (A1 20)).1) (hA.trans hB) (by rw [hB2]; exact okS_pass hok) (by rw [hB2]; exact hr)) ?_ rfl rfl
      rw [← ek]
      rfl
theorem cM_minutes {n : Int32} (hok : okS (A 20)) (h : ∀ A' : qA, qag [20, 35, 36] A A' → A' 20 = (s_minutes (A 20) n).2 → Q (some (.int (s_minutes (A 20) n).1)) (mem A' F X)) : pz_C yX10_minutes KX10_minutes [.ref 69, .int n] (mem A F X) Q := by
  refine pz_C_of rfl rfl rfl (Nat.le_of_ble_eq_true rfl) (pz_wp_ok (pz_Is_ok SX10_minutes) [19] 100 ?_)
  unfold s_minutes at h
  refine cM_isIn3 1 60 rfl rfl (fun g => ?_) (fun g => ?_)
  · refine br1 (by decide) ?_
    rw [if_pos g] at h
    obtain ⟨m, e, h1, h2⟩ := qIpos g (by omega)
    subst e
    rw [nI_clamp (by omega)] at h
    exact tM_minutes (by omega) h m 0 (by omega) A 0 (qag.refl _ A) hok rfl
  · refine br2 (fun z => z rfl) ?_
    rw [if_neg g] at h
    exact h A (qag.refl _ A) rfl
set_option maxRecDepth 8000 in
theorem tM_deal {n : Nat} (hn : n < 2147483648) {r : Int32 × (Nat → Int32)} (h : Q (some (.int r.1)) (mem (va_up A 20 r.2) F X)) : ∀ (d k : Nat), k + d = n → ∀ (t : Nat → Int32) (e : Nat), t 0 = nI e → e ≤ 8 → r = f_deal d t (nI k) → ∀ x3 : Option Value, pz_T z0 KX10_deal Q 17 (0, 0) [some (.ref 69), some (.int (nI n)), some (.int (nI k)), x3] [] (mem (va_up A 20 t) F X) := by
  intro d
  induction d with
  | zero =>
    intro k hk t e he he2 hr x3
    have hk : k = n := by omega
    subst hk
    refine pz_wp_ok (pz_Is_ok SX10_deal) [17] 100 ?_
    refine br1 (fun z => z (nI_le (Nat.le_refl _) (by omega))) ?_
    subst hr
    exact h
  | succ d ih =>
    intro k hk t e he he2 hr x3
    refine pz_wp_ok (pz_Is_ok SX10_deal) [17] 100 ?_
    refine br2 (n_ge (by omega) (by omega) (by omega)) ?_
    refine ⟨qin 0 rfl (by omega) (by omega), ?_⟩
    rw [f_deal] at hr
    have e9 : ∀ x : Int32, (8 : Int32) ≤ x ↔ ¬ x < 8 := fun x => by rw [i_lt, i_le]; omega
    refine ⟨fun g => ?_, fun g => ?_⟩
    · have g : (8 : Int32) ≤ t 0 := g
      rw [if_neg ((e9 _).mp g)] at hr
      subst hr
      exact h
    · have g : ¬ (8 : Int32) ≤ t 0 := g
      have g' : t 0 < 8 := Decidable.not_not.mp (fun z => g ((e9 _).mpr z))
      rw [if_pos g'] at hr
      have he3 : e < 8 := by
        rw [he, i_lt, nIi (by omega)] at g'
        have : (8 : Int32).toInt = 8 := rfl
        omega
      have en : f_n t = e := qcl e he (by omega)
      refine cM_drawn' (fun z hz => ?_)
      rw [vu_at] at hz ⊢
      rw [vu_vu]
      have ed : upd t 5 z = f_dr t := by rw [hz]; rfl
      have ez : z = f_dr t 5 := by rw [hz]; exact (upd_at _ _ _).symm
      rw [ed]
      refine ⟨by decide, ?_⟩
      refine cM_drawn' (fun y hy => ?_)
      rw [vu_at] at hy ⊢
      rw [vu_vu]
      have ed2 : upd (f_dr t) 5 y = f_dr (f_dr t) := by rw [hy]; rfl
      have ey : y = f_dr (f_dr t) 5 := by rw [hy]; exact (upd_at _ _ _).symm
      rw [ed2]
      have e0 : f_dr (f_dr t) 0 = nI e := by rw [f_dr_out _ (by omega), f_dr_out _ (by omega)]; exact he
      have hd : f_come (f_dr (f_dr t)) e (f_rem (f_g z) 6) (f_rem (f_g y) 36) = f_deal1 t := by rw [ez, ey]; unfold f_deal1; rw [en]
      have hd0 := f_deal1_0 t he he3
      clear ed ed2 hz hy ez ey
      generalize f_dr (f_dr t) = t2 at e0 hd ⊢
      generalize f_deal1 t = t3 at hd hd0 hr
      refine ⟨by decide, ?_⟩
      refine cM_comes (n := e) (by rw [vu_at]; exact e0) he3 ?_
      rw [vu_at, vu_vu]
      have ek : nI k + 1 = nI (k + 1) := nI_1 k
      have hd : f_come t2 e (f_g z - f_g z / 6 * 6) (f_g y - f_g y / 36 * 36) = t3 := hd
      rw [hd]
      rw [ek] at hr
      refine qT (ih (k + 1) (by omega) t3 (e + 1) hd0 (by omega) hr (some (.int (f_rem (f_g z) 6)))) ?_ rfl rfl
      rw [← ek]
      rfl
theorem cM_deal {n : Int32} (hok : okS (A 20)) (h : Q (some (.int (s_deal (A 20) n).1)) (mem (va_up A 20 (s_deal (A 20) n).2) F X)) : pz_C yX10_deal KX10_deal [.ref 69, .int n] (mem A F X) Q := by
  refine pz_C_of rfl rfl rfl (Nat.le_of_ble_eq_true rfl) (pz_wp_ok (pz_Is_ok SX10_deal) [17] 100 ?_)
  unfold s_deal at h
  obtain ⟨n1, n2⟩ := hok.n
  refine cM_isIn3 1 8 rfl rfl (fun g => ?_) (fun g => ?_)
  · refine br1 (by decide) ?_
    rw [if_pos g] at h
    obtain ⟨m, e, h1, h2⟩ := qIpos g (by omega)
    subst e
    rw [nI_clamp (by omega)] at h
    have hh := tM_deal (n := m) (by omega) h m 0 (by omega) (A 20) (f_n (A 20)) n2 n1 rfl none
    rw [vu_s] at hh
    exact hh
  · refine br2 (fun z => z rfl) ?_
    rw [if_neg g] at h
    rw [vu_s] at h
    exact h
def ttab : List (Int32 × Nat) := [(0, 40), (1, 45), (2, 50), (3, 55), (4, 60), (5, 67)]
set_option maxRecDepth 8000 in
theorem cM_town {w : Int32} (hok : okS (A 20)) (h : ∀ A' : qA, qag [35, 36] A A' → Q (some (.int (s_town (A 20) w))) (mem A' F X)) : pz_C yX10_town KX10_town [.ref 69, .int w] (mem A F X) Q := by
  refine pz_C_of rfl rfl rfl (Nat.le_of_ble_eq_true rfl) (pz_wp_ok (pz_Is_ok SX10_town) [1] 100 ?_)
  refine pz_T_sw (cs := ttab) (d := 74) SX10_town.2.1 ?_
  unfold s_town at h
  obtain ⟨n1, n2⟩ := hok.n
  by_cases g1 : w = 0
  · subst g1
    rw [if_pos rfl] at h
    rw [show pz_tgt 0 ttab 74 = 40 by decide]
    refine pz_wp_ok (pz_Is_ok SX10_town) [] 100 ?_
    exact cM_allParts (h A (qag.refl _ A))
  rw [if_neg g1] at h
  by_cases g2 : w = 1
  · subst g2
    rw [if_pos rfl] at h
    rw [show pz_tgt 1 ttab 74 = 45 by decide]
    refine pz_wp_ok (pz_Is_ok SX10_town) [] 100 ?_
    exact cM_allAte n2 n1 (h A (qag.refl _ A))
  rw [if_neg g2] at h
  by_cases g3 : w = 2
  · subst g3
    rw [if_pos rfl] at h
    rw [show pz_tgt 2 ttab 74 = 50 by decide]
    refine pz_wp_ok (pz_Is_ok SX10_town) [] 100 ?_
    exact cM_manyWet (h A (qag.refl _ A))
  rw [if_neg g3] at h
  by_cases g4 : w = 3
  · subst g4
    rw [if_pos rfl] at h
    rw [show pz_tgt 3 ttab 74 = 55 by decide]
    refine pz_wp_ok (pz_Is_ok SX10_town) [] 100 ?_
    exact cM_pours hok h
  rw [if_neg g4] at h
  by_cases g5 : w = 4
  · subst g5
    rw [if_pos rfl] at h
    rw [show pz_tgt 4 ttab 74 = 60 by decide]
    refine pz_wp_ok (pz_Is_ok SX10_town) [] 100 ?_
    exact ⟨qin 3 rfl (by omega) (by omega), h A (qag.refl _ A)⟩
  rw [if_neg g5] at h
  by_cases g6 : w = 5
  · subst g6
    rw [if_pos rfl] at h
    rw [show pz_tgt 5 ttab 74 = 67 by decide]
    refine pz_wp_ok (pz_Is_ok SX10_town) [] 100 ?_
    exact ⟨qin 4 rfl (by omega) (by omega), h A (qag.refl _ A)⟩
  rw [if_neg g6] at h
  have e : pz_tgt w ttab 74 = 74 := by
    unfold ttab
    simp [pz_tgt, g1, g2, g3, g4, g5, g6]
  rw [e]
  refine pz_wp_ok (pz_Is_ok SX10_town) [] 100 ?_
  exact h A (qag.refl _ A)
end MOD
