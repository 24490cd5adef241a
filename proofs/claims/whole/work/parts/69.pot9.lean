/-! the pot's calls: say, deal, minutes, town -/
theorem f_wd_n {t : Nat → Int32} {w : Int32} {a b : Nat} (ha : w = nI a) (hb : t 6 = nI b) (h1 : a < 10) (h2 : b < 10) : f_wd t w = nI ((a + 10 - b) % 10) := by
  unfold f_wd f_rem
  have e : w - t 6 + 10 = nI (a + 10 - b) := by
    rw [ha, hb]
    apply (i_eq _ _).mpr
    have e1 : (nI a - nI b).toInt = (a : Int) - b := by rw [i_sub (by rw [nIi (by omega), nIi (by omega)]; omega) (by rw [nIi (by omega), nIi (by omega)]; omega), nIi (by omega), nIi (by omega)]
    rw [i_add (by rw [e1, show (10 : Int32).toInt = 10 from rfl]; omega) (by rw [e1, show (10 : Int32).toInt = 10 from rfl]; omega), e1, nIi (by omega), show (10 : Int32).toInt = 10 from rfl]
    omega
  rw [e]
  exact pk_rem (a := a + 10 - b) (d := 10) (by omega) (by omega) (by omega)
theorem i_rem10 {b k : Nat} (h : b + k < 1000) : nI b + nI k - (nI b + nI k) / 10 * 10 = nI ((b + k) % 10) := by
  rw [nI_add]
  exact pk_rem (a := b + k) (d := 10) (by omega) (by omega) (by omega)
def f_dl : Nat → (Nat → Int32) → Nat → Int32
  | 0, t => t
  | k + 1, t => f_deal1 (f_dl k t)
theorem f_dl_0 {t : Nat → Int32} {e : Nat} (he : t 0 = nI e) : ∀ k, e + k ≤ 8 → f_dl k t 0 = nI (e + k)
  | 0, _ => he
  | k + 1, h => by
    rw [f_dl, f_deal1_0 _ (f_dl_0 he k (by omega)) (by omega)]
    rfl
theorem f_dl_s (t : Nat → Int32) : ∀ k, f_dl k (f_deal1 t) = f_dl (k + 1) t
  | 0 => rfl
  | k + 1 => by rw [f_dl, f_dl_s t k]; rfl
theorem f_deal_eq : ∀ (d : Nat) (t : Nat → Int32) (a e : Nat), t 0 = nI e → e ≤ 8 → f_deal d t (nI a) = (nI (a + min d (8 - e)), f_dl (min d (8 - e)) t)
  | 0, t, a, e, he, h8 => by rw [f_deal, Nat.zero_min]; rfl
  | d + 1, t, a, e, he, h8 => by
    rw [f_deal]
    by_cases h : e = 8
    · subst h
      rw [if_neg (by rw [he]; decide), show min (d + 1) (8 - 8) = 0 by omega]
      rfl
    · have hlt : t 0 < 8 := by rw [he, i_lt, nIi (by omega), show (8 : Int32).toInt = 8 from rfl]; omega
      rw [if_pos hlt, nI_1, f_deal_eq d (f_deal1 t) (a + 1) (e + 1) (f_deal1_0 t he (by omega)) (by omega), f_dl_s, show min d (8 - (e + 1)) + 1 = min (d + 1) (8 - e) by omega, show a + 1 + min d (8 - (e + 1)) = a + min (d + 1) (8 - e) by omega]
theorem f_sa_cg {t t' : Nat → Int32} : ∀ n, (∀ k, k < n → t' (118 + 3 * k + 2) = t (118 + 3 * k + 2)) → f_sa t' n = f_sa t n
  | 0, _ => rfl
  | n + 1, h => by rw [f_sa, f_sa, f_sa_cg n (fun k hk => h k (by omega)), h n (by omega)]
theorem f_sa_dine (t : Nat → Int32) {k c : Nat} (hc : c < 36) : ∀ n, f_sa (f_dine t k c) n = f_sa t n + (if k < n then f_ate t k c else 0)
  | 0 => by rw [f_sa, f_sa, if_neg (by omega)]; rfl
  | n + 1 => by
    rw [f_sa, f_sa, f_sa_dine t hc n]
    have e : f_dine t k c (118 + 3 * n + 2) = t (118 + 3 * n + 2) + (if k = n then f_ate t k c else 0) := by
      have e1 : f_dine t k c (118 + 3 * n + 2) = f_eaten t k c (118 + 3 * n + 2) := by
        unfold f_dine f_goes
        split
        · rw [upd_ne _ _ (by omega)]
        · rfl
      rw [e1]
      unfold f_eaten
      by_cases h : k = n
      · subst h
        rw [if_pos rfl, upd_at, upd_ne _ _ (by omega)]
      · rw [if_neg h, upd_ne _ _ (by omega), upd_ne _ _ (by omega), Int32.add_zero]
    rw [e]
    by_cases h1 : k < n
    · rw [if_pos h1, if_neg (by omega), if_pos (by omega), Int32.add_zero, Int32.add_assoc, Int32.add_assoc, Int32.add_comm (f_ate t k c)]
    · rw [if_neg h1, Int32.add_zero]
      by_cases h2 : k = n
      · rw [if_pos h2, if_pos (by omega), Int32.add_assoc]
      · rw [if_neg h2, if_neg (by omega), Int32.add_zero, Int32.add_zero]
theorem f_sa_dns (t : Nat → Int32) (h : okS t) {n : Nat} : ∀ {k : Nat}, k ≤ n → n ≤ 8 → f_sa (f_dns t k).2 n = f_sa t n + (f_dns t k).1
  | 0, _, _ => by rw [f_dns]; exact (Int32.add_zero _).symm
  | k + 1, hk, hn => by
    have ih := f_sa_dns t h (k := k) (n := n) (by omega) hn
    have hc := ((f_dns_ok t h (k := k) (by omega)).1.cell (k := k) (by omega)).1
    rw [f_dns]
    dsimp only
    rw [f_sa_dine _ hc, ih, if_pos (by omega), Int32.add_assoc]
theorem f_sa_pass {t : Nat → Int32} (h : okS t) : f_sa (f_pass t) (f_n t) = f_sa t (f_n t) + (f_fed t).1 := by
  have hn := h.n.1
  have h1 := okS_flows (okS_pour h) (n := 36) (by omega)
  have e1 : f_sa (f_pass t) (f_n t) = f_sa (f_fed t).2 (f_n t) := f_sa_cg _ (fun k hk => by
    unfold f_pass f_tick
    rw [upd_ne _ _ (by omega), f_mice_out _ (by omega) (by omega)])
  have e2 : f_sa (f_flows (f_pour t) 36) (f_n t) = f_sa t (f_n t) := f_sa_cg _ (fun k hk => by rw [f_flows_out _ (by omega) (by omega), f_pour_out t h.pot.1 (by omega)])
  rw [e1]
  unfold f_fed
  rw [f_sa_dns _ h1 (Nat.le_refl _) hn, e2]
theorem f_sa_it {t : Nat → Int32} (h : okS t) : ∀ r, f_sa (f_it (r + 1) t) (f_n t) = f_sa (f_it r t) (f_n t) + (f_fed (f_it r t)).1 := fun r => by
  have e : f_n t = f_n (f_it r t) := (f_n_it h r).symm
  rw [e, f_it, f_sa_pass (okS_it h r)]
theorem f_it_s (t : Nat → Int32) : ∀ r, f_it r (f_pass t) = f_it (r + 1) t
  | 0 => rfl
  | r + 1 => by rw [f_it, f_it_s t r]; rfl
theorem f_pass_2 {t : Nat → Int32} (h : okS t) : f_pass t 2 = t 2 + 1 := by
  unfold f_pass f_tick
  rw [upd_at, f_mice_out _ (by omega) (by omega), (f_fed_ok h).2 2 (by omega)]
theorem f_mins_eq : ∀ (d : Nat) (t : Nat → Int32) (a : Int32) (m : Nat), okS t → t 2 = nI m → m ≤ 9999 → f_mins d t a = (a + (f_sa (f_it (min d (9999 - m)) t) (f_n t) - f_sa t (f_n t)), f_it (min d (9999 - m)) t)
  | 0, t, a, m, h, hm, hb => by
    rw [f_mins, Nat.zero_min, f_it, Int32.sub_self, Int32.add_zero]
  | d + 1, t, a, m, h, hm, hb => by
    rw [f_mins]
    by_cases g : m = 9999
    · subst g
      rw [if_neg (by rw [hm]; decide), show min (d + 1) (9999 - 9999) = 0 by omega, f_it, Int32.sub_self, Int32.add_zero]
    · have hlt : t 2 < 9999 := by rw [hm, i_lt, nIi (by omega), show (9999 : Int32).toInt = 9999 from rfl]; omega
      have e2 : f_pass t 2 = nI (m + 1) := by rw [f_pass_2 h, hm]; exact nI_1 m
      rw [if_pos hlt, f_mins_eq d (f_pass t) _ (m + 1) (okS_pass h) e2 (by omega), f_it_s, show min d (9999 - (m + 1)) + 1 = min (d + 1) (9999 - m) by omega]
      have en : f_n (f_pass t) = f_n t := f_n_it h 1
      rw [en, f_sa_pass h]
      congr 1
      rw [Int32.sub_eq_add_neg, Int32.sub_eq_add_neg, Int32.neg_add, Int32.add_assoc, Int32.sub_eq_add_neg]
      congr 1
      generalize f_sa (f_it (min (d + 1) (9999 - m)) t) (f_n t) = p
      generalize f_sa t (f_n t) = q
      generalize (f_fed t).1 = r
      rw [← Int32.add_assoc, Int32.add_comm r p, Int32.add_assoc]
      congr 1
      rw [Int32.add_comm (-q) (-r), ← Int32.add_assoc, Int32.add_right_neg, Int32.zero_add]
section POT
variable {A A1 : qA} {F : qF} {X : qX} {Q : pz_Q} {M : pz_M}
set_option maxRecDepth 8000 in
theorem cP_say {w : Int32} (hok : okS (A 0)) (h6 : qIn 0 9 (A 0 6)) (h7 : qIn 0 99 (A 0 7)) (h : Q (some (.int (s_say (A 0) w).1)) (mem (va_up A 0 (s_say (A 0) w).2) F X)) : pz_C yX9_say KX9_say [.ref 0, .int w] (mem A F X) Q := by
  refine pz_C_of rfl rfl rfl (Nat.le_of_ble_eq_true rfl) (pz_wp_ok (pz_Is_ok SX9_say) [] 100 ?_)
  unfold s_say at h
  refine cP_within 0 9 rfl rfl (fun g1 => ?_) (fun g1 => ?_)
  · refine br1 (by decide) ?_
    rw [if_pos g1] at h
    refine ⟨fun g2 => ?_, fun g2 => ?_⟩
    · have g2 : ¬ A 0 4 = 0 := g2
      rw [if_neg g2] at h
      obtain ⟨a, a1, a2, a3⟩ := qIn_nat g1
      obtain ⟨b, b1, b2, b3⟩ := qIn_nat h6
      rw [f_wd_n a3 b3 (by omega) (by omega)] at h
      have r1 : A 0 6 + 1 - (A 0 6 + 1) / 10 * 10 = nI ((b + 1) % 10) := by rw [b3]; exact i_rem10 (k := 1) (by omega)
      have r9 : A 0 6 + 9 - (A 0 6 + 9) / 10 * 10 = nI ((b + 9) % 10) := by rw [b3]; exact i_rem10 (k := 9) (by omega)
      refine ⟨qin 0 rfl (by omega) (by omega), ?_⟩
      refine ⟨fun g3 => ?_, fun g3 => ?_⟩
      · have g3 : ¬ w = A 0 6 := g3
        have n1 : ¬ a = b := fun z => g3 (by rw [a3, b3, z])
        rw [if_neg (fun z => by have := (nI_eq (b := 0) (by omega) (by omega)).mp z; omega)] at h
        refine ⟨qin 0 rfl (by omega) (by omega), ?_⟩
        refine ⟨by decide, ?_⟩
        refine ⟨fun g4 => ?_, fun g4 => ?_⟩
        · have g4 : ¬ w = A 0 6 + 1 - (A 0 6 + 1) / 10 * 10 := g4
          rw [r1] at g4
          have n2 : ¬ a = (b + 1) % 10 := fun z => g4 (by rw [a3, z])
          rw [if_neg (fun z => by have := (nI_eq (b := 1) (by omega) (by omega)).mp z; omega)] at h
          refine ⟨qin 0 rfl (by omega) (by omega), ?_⟩
          refine ⟨by decide, ?_⟩
          refine ⟨fun g5 => ?_, fun g5 => ?_⟩
          · have g5 : ¬ w = A 0 6 + 9 - (A 0 6 + 9) / 10 * 10 := g5
            rw [r9] at g5
            have n3 : ¬ a = (b + 9) % 10 := fun z => g5 (by rw [a3, z])
            rw [if_neg (fun z => by have := (nI_eq (b := 9) (by omega) (by omega)).mp z; omega), vu_s] at h
            exact h
          · have g5 : w = A 0 6 + 9 - (A 0 6 + 9) / 10 * 10 := g5
            rw [r9, a3] at g5
            have g5 := (nI_eq (by omega) (by omega)).mp g5
            rw [if_pos (show nI ((a + 10 - b) % 10) = (9 : Int32) by rw [show (a + 10 - b) % 10 = 9 by omega]; rfl)] at h
            refine ⟨qin 1 rfl (by decide) (by decide), ?_⟩
            refine ⟨qin 1 rfl (by omega) (by omega), ?_⟩
            refine ⟨qin 1 rfl (by omega) (by omega), ?_⟩
            have e5 : (A 0 7 + 5).toInt = (A 0 7).toInt + 5 := i_add (x := A 0 7) (y := 5) (by rw [show (5 : Int32).toInt = 5 from rfl]; omega) (by rw [show (5 : Int32).toInt = 5 from rfl]; omega)
            dsimp only at h
            rw [← min_fw (by rw [e5]; omega)] at h
            have hm := mr0 (A := A) (F := F) (X := X) (c := 1) (by omega) (if A 0 7 + 5 < 99 then A 0 7 + 5 else 99)
            rw [← hm] at h
            exact h
        · have g4 : w = A 0 6 + 1 - (A 0 6 + 1) / 10 * 10 := g4
          rw [r1, a3] at g4
          have g4 := (nI_eq (by omega) (by omega)).mp g4
          rw [if_pos (show nI ((a + 10 - b) % 10) = (1 : Int32) by rw [show (a + 10 - b) % 10 = 1 by omega]; rfl)] at h
          refine ⟨qin 2 rfl (by decide) (by decide), ?_⟩
          refine ⟨qin 2 rfl (by omega) (by omega), ?_⟩
          refine ⟨qin 2 rfl (by omega) (by omega), ?_⟩
          obtain ⟨n8, n8b, e8⟩ := hok.2.2.2.2.1
          have e5 : (A 0 8 + 1).toInt = (n8 : Int) + 1 := by
            rw [e8, nI_1, nIi (by omega)]
            omega
          dsimp only at h
          rw [← min_fw (by rw [e5]; omega)] at h
          have hm := mr0 (A := A) (F := F) (X := X) (c := 2) (by omega) (if A 0 8 + 1 < 9 then A 0 8 + 1 else 9)
          rw [← hm] at h
          exact h
      · have g3 : w = A 0 6 := g3
        rw [a3, b3] at g3
        have g3 := (nI_eq (by omega) (by omega)).mp g3
        rw [if_pos (by rw [g3, show (b + 10 - b) % 10 = 0 by omega]; rfl)] at h
        refine ⟨Or.inl rfl, ?_⟩
        dsimp only at h
        rw [← mf_coo0] at h
        exact h
    · have g2 : A 0 4 = 0 := g2
      rw [if_pos g2, vu_s] at h
      exact h
  · refine br2 (fun z => z rfl) ?_
    rw [if_neg g1, vu_s] at h
    exact h
set_option maxRecDepth 8000 in
theorem tP_deal {e c : Nat} {t0 : Nat → Int32} {x1 : Int32} (he : t0 0 = nI e) (hc : e + c ≤ 8) (h : Q (some (.int (nI c))) (mem (va_up A 0 (f_dl c t0)) F X)) : ∀ (d k : Nat), k + d = c → ∀ x4 : Option Value, pz_T z0 KX9_deal Q 30 (0, 0) [some (.ref 0), some (.int x1), some (.int (nI c)), some (.int (nI k)), x4] [] (mem (va_up A 0 (f_dl k t0)) F X) := by
  intro d
  induction d with
  | zero =>
    intro k hk x4
    have hk : k = c := by omega
    subst hk
    generalize f_dl k t0 = tk at h ⊢
    refine pz_wp_ok (pz_Is_ok SX9_deal) [30] 100 ?_
    refine br1 (fun z => z (nI_le (Nat.le_refl _) (by omega))) ?_
    exact h
  | succ d ih =>
    intro k hk x4
    have ih' := ih (k + 1) (by omega)
    have e0 := f_dl_0 he k (by omega)
    have hd : f_dl (k + 1) t0 = f_deal1 (f_dl k t0) := rfl
    rw [hd] at ih'
    clear hd
    generalize f_dl k t0 = t at ih' e0 ⊢
    have en : f_n t = e + k := qcl _ e0 (by omega)
    refine pz_wp_ok (pz_Is_ok SX9_deal) [30] 100 ?_
    refine br2 (n_ge (by omega) (by omega) (by omega)) ?_
    refine cT0_draw (fun z hz => ?_)
    rw [vu_at] at hz ⊢
    rw [vu_vu]
    have ed : upd t 5 z = f_dr t := by rw [hz]; rfl
    have ez : z = f_dr t 5 := by rw [hz]; exact (upd_at _ _ _).symm
    rw [ed]
    refine ⟨by decide, ?_⟩
    refine cT0_draw (fun y hy => ?_)
    rw [vu_at] at hy ⊢
    rw [vu_vu]
    have ed2 : upd (f_dr t) 5 y = f_dr (f_dr t) := by rw [hy]; rfl
    have ey : y = f_dr (f_dr t) 5 := by rw [hy]; exact (upd_at _ _ _).symm
    rw [ed2]
    have e1 : f_dr (f_dr t) 0 = nI (e + k) := by rw [f_dr_out _ (by omega), f_dr_out _ (by omega)]; exact e0
    have hd : f_come (f_dr (f_dr t)) (e + k) (f_rem (f_g z) 6) (f_rem (f_g y) 36) = f_deal1 t := by rw [ez, ey]; unfold f_deal1; rw [en]
    clear ed ed2 hz hy ez ey
    generalize f_dr (f_dr t) = t2 at e1 hd ⊢
    generalize f_deal1 t = t3 at hd ih'
    refine ⟨by decide, ?_⟩
    refine cT0_comes (n := e + k) (by rw [vu_at]; exact e1) (by omega) ?_
    have hd' : f_come (va_up A 0 t2 0) (e + k) (f_g z - f_g z / 6 * 6) (f_g y - f_g y / 36 * 36) = t3 := by rw [vu_at]; exact hd
    rw [hd', vu_vu]
    have ek : nI k + 1 = nI (k + 1) := nI_1 k
    refine qT (ih' (some (.int (f_g z - f_g z / 6 * 6)))) ?_ rfl rfl
    rw [← ek]
    rfl
set_option maxRecDepth 8000 in
theorem cP_deal {n : Int32} (hok : okS (A 0)) (h : Q (some (.int (s_deal (A 0) n).1)) (mem (va_up A 0 (s_deal (A 0) n).2) F X)) : pz_C yX9_deal KX9_deal [.ref 0, .int n] (mem A F X) Q := by
  refine pz_C_of rfl rfl rfl (Nat.le_of_ble_eq_true rfl) (pz_wp_ok (pz_Is_ok SX9_deal) [30] 100 ?_)
  obtain ⟨n1, n2⟩ := hok.n
  unfold s_deal at h
  refine cP_within 1 8 rfl rfl (fun g => ?_) (fun g => ?_)
  · refine br1 (by decide) ?_
    rw [if_pos g] at h
    obtain ⟨m, e, m1, m2⟩ := qIpos g (by omega)
    have em := qcl m e (by omega)
    rw [em, show (0 : Int32) = nI 0 from rfl, f_deal_eq m (A 0) 0 (f_n (A 0)) n2 n1] at h
    dsimp only at h
    rw [Nat.zero_add] at h
    have e8 : (8 : Int32) - A 0 0 = nI (8 - f_n (A 0)) := by rw [n2]; exact nI_sub1 (a := 8) n1
    have emn : (if (8 : Int32) - A 0 0 < n then (8 : Int32) - A 0 0 else n) = nI (min m (8 - f_n (A 0))) := by
      rw [e8, e]
      by_cases z : nI (8 - f_n (A 0)) < nI m
      · rw [if_pos z]
        rw [i_lt, nIi (by omega), nIi (by omega)] at z
        congr 1
        omega
      · rw [if_neg z]
        rw [i_lt, nIi (by omega), nIi (by omega)] at z
        congr 1
        omega
    have := tP_deal (A := A) (F := F) (X := X) (Q := Q) (e := f_n (A 0)) (c := min m (8 - f_n (A 0))) (t0 := A 0) (x1 := n) n2 (by omega) h (min m (8 - f_n (A 0))) 0 (by omega) none
    rw [f_dl, vu_s, ← emn] at this
    exact this
  · refine br2 (fun z => z rfl) ?_
    rw [if_neg g, vu_s] at h
    exact h
set_option maxRecDepth 8000 in
theorem cP_minutes {n : Int32} {W B : Int} (hok : okS (A 0)) (hv : okV W B (A 0)) (hW : 0 ≤ W ∧ W ≤ 25) (hB : B + 99 * 60 < 1073741824) (hr : rTxs X (A 0)) (h2 : qIn 0 9999 (A 0 2)) (h : ∀ A' : qA, qag [4, 0] A A' → A' 0 = (s_minutes (A 0) n).2 → Q (some (.int (s_minutes (A 0) n).1)) (mem A' F X)) : pz_C yX9_minutes KX9_minutes [.ref 0, .int n] (mem A F X) Q := by
  refine pz_C_of rfl rfl rfl (Nat.le_of_ble_eq_true rfl) (pz_wp_ok (pz_Is_ok SX9_minutes) [] 100 ?_)
  obtain ⟨n1, n2⟩ := hok.n
  unfold s_minutes at h
  refine cP_within 1 60 rfl rfl (fun g => ?_) (fun g => ?_)
  · refine br1 (by decide) ?_
    rw [if_pos g] at h
    obtain ⟨m, e, m1, m2⟩ := qIpos g (by omega)
    have em := qcl m e (by omega)
    obtain ⟨mi, mi1, mi2, mi3⟩ := qIn_nat h2
    rw [em, f_mins_eq m (A 0) 0 mi hok mi3 (by omega), Int32.zero_add] at h
    dsimp only at h
    have e8 : (9999 : Int32) - A 0 2 = nI (9999 - mi) := by rw [mi3]; exact nI_sub1 (a := 9999) (by omega)
    have emn : (if (9999 : Int32) - A 0 2 < n then (9999 : Int32) - A 0 2 else n) = nI (min m (9999 - mi)) := by
      rw [e8, e]
      by_cases z : nI (9999 - mi) < nI m
      · rw [if_pos z]
        rw [i_lt, nIi (by omega), nIi (by omega)] at z
        congr 1
        omega
      · rw [if_neg z]
        rw [i_lt, nIi (by omega), nIi (by omega)] at z
        congr 1
        omega
    refine cT0_allAte n2 n1 ?_
    refine cT0_passes (W := W) (B := B) (n := min m (9999 - mi)) emn (by omega) hok hv hW (by omega) hr (fun A2 hA2 e2 => ?_)
    have n2' : A2 0 0 = nI (f_n (A 0)) := by rw [e2, f_it_out hok _ (by omega)]; exact n2
    refine cT0_allAte n2' n1 ?_
    have h' := h A2 hA2 e2
    rw [← e2] at h'
    exact h'
  · refine br2 (fun z => z rfl) ?_
    rw [if_neg g] at h
    exact h A (qag.refl _ A) rfl
theorem tT0_wet (h : Q (some (.int (f_wet (A 0) 36))) (mem A F X)) : ∀ (d c : Nat), c + d = 36 → pz_T z0 KX7_wetCells Q 4 (0, 0) [some (.ref 4), some (.int (f_wet (A 0) c)), some (.int (nI c))] [] (mem A F X) := by
  intro d
  induction d with
  | zero =>
    intro c hc
    have hc : c = 36 := by omega
    subst hc
    refine pz_wp_ok (pz_Is_ok SX7_wetCells) [4] 100 ?_
    refine br1 (fun z => z (nI_le (Nat.le_refl _) (by omega))) ?_
    exact h
  | succ d ih =>
    intro c hc
    refine pz_wp_ok (pz_Is_ok SX7_wetCells) [4] 100 ?_
    refine br2 (n_ge (b := 36) (by omega) (by omega) (by omega)) ?_
    refine ⟨qin c rfl (by omega) (by omega), ?_⟩
    have cc := qcl (x := nI c) c rfl (by omega)
    rw [cc, qm_1 (by omega)]
    refine ⟨fun g => ?_, fun g => ?_⟩
    · have g : A 0 (82 + c) ≤ 0 := g
      refine qT (ih (c + 1) (by omega)) ?_ rfl rfl
      rw [← nI_1 c, f_wet, if_pos g, Int32.add_zero]
      rfl
    · have g : ¬ A 0 (82 + c) ≤ 0 := g
      refine qT (ih (c + 1) (by omega)) ?_ rfl rfl
      rw [← nI_1 c, f_wet, if_neg g]
      rfl
theorem cT0_wet (h : Q (some (.int (f_wet (A 0) 36))) (mem A F X)) : pz_C yX7_wetCells KX7_wetCells [.ref 4] (mem A F X) Q := by
  refine pz_C_of rfl rfl rfl (Nat.le_of_ble_eq_true rfl) (pz_wp_ok (pz_Is_ok SX7_wetCells) [4] 100 ?_)
  exact tT0_wet h 36 0 rfl
set_option maxRecDepth 8000 in
theorem cP_town {w : Int32} (hok : okS (A 0)) (hb : qIn 0 99 (A 0 7)) (hr : rTxs X (A 0)) (h : ∀ A' : qA, qag [4] A A' → Q (some (.int (s_town (A 0) w))) (mem A' F X)) : pz_C yX9_town KX9_town [.ref 0, .int w] (mem A F X) Q := by
  refine pz_C_of rfl rfl rfl (Nat.le_of_ble_eq_true rfl) (pz_wp_ok (pz_Is_ok SX9_town) [] 100 ?_)
  obtain ⟨n1, n2⟩ := hok.n
  unfold s_town at h
  refine ⟨fun g => ?_, fun g0 => ⟨fun g => ?_, fun g1 => ⟨fun g => ?_, fun g2 => ⟨fun g => ?_, fun g3 => ⟨fun g => ?_, fun g4 => ⟨fun g => ?_, fun g5 => ?_⟩⟩⟩⟩⟩⟩
  · rw [if_pos g] at h
    exact cT0_allParts (h A (qag.refl _ A))
  · rw [if_neg g0, if_pos g] at h
    exact cT0_allAte n2 n1 (h A (qag.refl _ A))
  · rw [if_neg g0, if_neg g1, if_pos g] at h
    exact cT0_wet (h A (qag.refl _ A))
  · rw [if_neg g0, if_neg g1, if_neg g2, if_pos g] at h
    exact cT0_pours hok hb hr h
  · rw [if_neg g0, if_neg g1, if_neg g2, if_neg g3, if_pos g] at h
    exact h A (qag.refl _ A)
  · rw [if_neg g0, if_neg g1, if_neg g2, if_neg g3, if_neg g4, if_pos g] at h
    have h := h A (qag.refl _ A)
    refine ⟨fun z => ?_, fun z => ?_⟩
    · have z : A 0 4 = 0 := z
      rw [z] at h
      exact h
    · have z : ¬ A 0 4 = 0 := z
      have z : A 0 4 = 1 := hok.2.2.2.1.elim (fun q => absurd q z) id
      rw [z] at h
      exact h
  · rw [if_neg g0, if_neg g1, if_neg g2, if_neg g3, if_neg g4, if_neg g5] at h
    exact h A (qag.refl _ A)
end POT
