/-! the towns: pours, pass, passes -/
theorem mm_fw (g : Int32) : (if (0 : Int32) < (if g < 99 then g else 99) then (if g < 99 then g else 99) else 0) = f_w g 99 := by
  have z0' : (0 : Int32).toInt = 0 := rfl
  have z99 : (99 : Int32).toInt = 99 := rfl
  unfold f_w
  by_cases h1 : g < 99
  · rw [if_pos h1]
    rw [i_lt, z99] at h1
    have n2 : ¬ (99 : Int32) < g := by rw [i_lt, z99]; omega
    rw [if_neg n2]
    by_cases h2 : 0 < g
    · rw [if_pos h2]
      rw [i_lt, z0'] at h2
      rw [if_neg (by rw [i_lt, z0']; omega)]
    · rw [if_neg h2]
      by_cases h3 : g < 0
      · rw [if_pos h3]
      · rw [if_neg h3]
        rw [i_lt, z0'] at h2 h3
        exact (i_eq _ _).mpr (by rw [z0']; omega)
  · rw [if_neg h1, if_pos (by decide)]
    rw [i_lt, z99] at h1
    rw [if_neg (by rw [i_lt, z0']; omega)]
    by_cases h2 : (99 : Int32) < g
    · rw [if_pos h2]
    · rw [if_neg h2]
      rw [i_lt, z99] at h2
      exact (i_eq _ _).mpr (by rw [z99]; omega)
theorem f_w_same {g : Int32} (h : qIn 0 99 g) : f_w g 99 = g := by
  unfold f_w
  rw [if_neg (by rw [i_lt, show (0 : Int32).toInt = 0 from rfl]; have := h.1; omega), if_neg (by rw [i_lt, show (99 : Int32).toInt = 99 from rfl]; have := h.2; omega)]
theorem f_m_cg {t t' : Nat → Int32} {k : Nat} (h : ∀ j, 142 ≤ j → t' j = t j) : f_m t' k = f_m t k := by unfold f_m; rw [h _ (by omega)]
theorem rTxs_cg {X : qX} {t t' : Nat → Int32} (h1 : t' 1 = t 1) (h : ∀ j, 142 ≤ j → t' j = t j) (hr : rTxs X t) : rTxs X t' := by
  intro k hk
  have e : f_nt t' = f_nt t := by unfold f_nt; rw [h1]
  rw [e] at hk
  obtain ⟨i, r1, r2, r3, r4, r5, r6⟩ := hr k hk
  refine ⟨i, r1, r2, by rw [h _ (by omega)]; exact r3, by rw [h _ (by omega)]; exact r4, by rw [h _ (by omega)]; exact r5, fun j hj => ?_⟩
  rw [f_m_cg h] at hj
  rw [h _ (by omega), h _ (by omega), h _ (by omega)]
  exact r6 j hj
theorem f_pour_0 {t : Nat → Int32} (h : ¬ t 4 = 1) : f_pour t = t := by
  unfold f_pour
  rw [if_neg h, Int32.add_zero, upd_s]
theorem f_bn_nmx {t : Nat → Int32} {v : Int32} (hv : alw 0 v) : f_bn t v.toNatClampNeg = if nmx 0 v = 0 then t 7 else if nmx 0 v = 1 then t 2 else t (82 + f_pot t) := by
  rcases hv with ⟨-, e | e | e⟩ | ⟨e, -⟩ | ⟨e, -⟩
  · subst e; rfl
  · subst e; rfl
  · subst e; rfl
  · omega
  · omega
section POT
variable {A A1 : qA} {F : qF} {X : qX} {Q : pz_Q} {M : pz_M}
set_option maxRecDepth 8000 in
theorem tT0_pours53 {g r : Int32} (hg : r = f_w g 99) {x1 x2 : Option Value} (hx : x1 = some .null ∨ ∃ q, x1 = some (.ref q)) (h : Q (some (.int r)) (mem A F X)) : pz_T z0 KX7_pours Q 53 (0, 0) [some (.ref 4), x1, x2] [.int g] (mem A F X) := by
  rcases hx with e | ⟨q, e⟩
  · subst e
    refine pz_wp_ok (pz_Is_ok SX7_pours) [] 100 ?_
    rw [← mm_fw] at hg
    subst hg
    exact h
  · subst e
    refine pz_wp_ok (pz_Is_ok SX7_pours) [] 100 ?_
    rw [← mm_fw] at hg
    subst hg
    exact h
set_option maxRecDepth 8000 in
theorem cT0_pours (hok : okS (A 0)) (hb : qIn 0 99 (A 0 7)) (hr : rTxs X (A 0)) (h : ∀ A' : qA, qag [4] A A' → Q (some (.int (f_pours (A 0)))) (mem A' F X)) : pz_C yX7_pours KX7_pours [.ref 4] (mem A F X) Q := by
  refine pz_C_of rfl rfl rfl (Nat.le_of_ble_eq_true rfl) (pz_wp_ok (pz_Is_ok SX7_pours) [53] 100 ?_)
  obtain ⟨n1, n2, n3⟩ := hok.nt
  obtain ⟨p1, p2⟩ := hok.pot
  have cp := qcl _ p2 (by omega)
  unfold f_pours at h
  refine cL_counting (t := A 0) n2 n1 hr (fun hc => ?_) (fun k i hc hk hi => ?_)
  · rw [hc] at h
    refine ⟨qin 1 rfl (by omega) (by omega), ?_⟩
    exact tT0_pours53 (g := A 0 7) (r := A 0 7) (f_w_same hb).symm (Or.inl rfl) (h A (qag.refl _ A))
  · rw [hc] at h
    dsimp only at h
    obtain ⟨o1, key, o2, o3, o4⟩ := okTx_m (n3 k hk)
    have hkey := (f_cnt_lt _ _ _ _ hc).2
    have hk0 : key = 0 := by
      have : nI key = nI 0 := o3.symm.trans hkey
      exact (nI_eq (by omega) (by omega)).mp this
    subst hk0
    refine ⟨qin 1 rfl (by omega) (by omega), ?_⟩
    refine ⟨qin _ p2 p1 (by omega), ?_⟩
    have ep : qm 36 82 1 (A 0) (A 0 3).toNatClampNeg = A 0 (82 + f_pot (A 0)) := by rw [cp, qm_1 p1]
    rw [ep]
    refine cL_given (t := A 0) (nm := f_bn (A 0)) (k := k) (m := f_m (A 0) k) (key := 0) hi (by omega) rfl (by rw [o3]; rfl) o1 (fun v hv => f_bn_nmx hv) (fun p => ?_)
    exact tT0_pours53 (A := va_up A 4 p) rfl (Or.inr ⟨xr i, rfl⟩) (h _ (qag.up (by simp)))
theorem cT0_mice' (hw : ∀ c, c < 36 → qIn 0 25 (A 0 (46 + c))) (h : ∀ t1 : Nat → Int32, t1 = f_mice (A 0) → Q none (mem (va_up A 0 t1) F X)) : pz_C yX7_miceEat KX7_miceEat [.ref 4] (mem A F X) Q := cT0_mice hw (h _ rfl)
set_option maxRecDepth 8000 in
theorem tT0_pass67 {t1 : Nat → Int32} (h : Q none (mem (va_up A 0 (f_tick t1)) F X)) {x1 : Option Value} : pz_T z0 KX7_pass Q 67 (0, 0) [some (.ref 4), x1] [] (mem (va_up A 0 t1) F X) := by
  refine pz_wp_ok (pz_Is_ok SX7_pass) [] 100 ?_
  unfold f_tick at h
  have hm := mf_min0 (A := va_up A 0 t1) (F := F) (X := X) (t1 2 + 1)
  rw [vu_vu, vu_at] at hm
  rw [← hm] at h
  exact h
theorem tT0_pass63 {A0 : qA} {t0 : Nat → Int32} (hw : ∀ c, c < 36 → qIn 0 25 (t0 (46 + c))) (h : ∀ A' : qA, qag [4, 0] A0 A' → A' 0 = f_tick (f_mice t0) → Q none (mem A' F X)) {A : qA} (hA : qag [4, 0] A0 A) (hA2 : A 0 = t0) {x1 : Option Value} : pz_T z0 KX7_pass Q 63 (0, 0) [some (.ref 4), x1] [] (mem A F X) := by
  refine pz_wp_ok (pz_Is_ok SX7_pass) [67] 100 ?_
  refine cT0_mice' (by rw [hA2]; exact hw) (fun t1 ht1 => ?_)
  rw [hA2] at ht1
  refine tT0_pass67 (h _ (hA.trans (qag.up (by simp))) ?_)
  rw [vu_at, ht1]
theorem tT0_pass44 {A0 : qA} {t0 : Nat → Int32} {W B : Int} (h0 : okS t0) (hv : okV W B t0) (hW : W ≤ 25) {n : Nat} (hn : n = f_n t0) (h : ∀ A' : qA, qag [4, 0] A0 A' → A' 0 = f_tick (f_mice (f_dns t0 n).2) → Q none (mem A' F X)) : ∀ (d k : Nat), k + d = n → ∀ A : qA, qag [4, 0] A0 A → A 0 = (f_dns t0 k).2 → pz_T z0 KX7_pass Q 44 (0, 0) [some (.ref 4), some (.int (nI k))] [] (mem A F X) := by
  have hn8 : n ≤ 8 := by rw [hn]; exact h0.n.1
  have hN : ∀ k, k ≤ 8 → (f_dns t0 k).2 0 = nI n := fun k hk => by rw [(f_dns_ok t0 h0 hk).2 0 (by omega), hn]; exact h0.n.2
  intro d
  induction d with
  | zero =>
    intro k hk A hA hA2
    have hk : k = n := by omega
    subst hk
    refine pz_wp_ok (pz_Is_ok SX7_pass) [63] 100 ?_
    refine br1 (fun z => z ?_) ?_
    · show A 0 0 ≤ nI k
      rw [hA2, hN k hn8]; exact nI_le (by omega) (by omega)
    · refine tT0_pass63 (fun c hc => ?_) h hA hA2
      have := ((okV_dns hv h0 hn8).1 c hc).2.1
      exact ⟨this.1, Int.le_trans this.2 hW⟩
  | succ d ih =>
    intro k hk A hA hA2
    have hok := (f_dns_ok t0 h0 (k := k) (by omega)).1
    have hcell := hok.cell (k := k) (by omega)
    have hvk := okV_dns hv h0 (k := k) (by omega)
    have hpk := (hvk.part hcell.1).1
    rw [← hA2] at hok hcell hpk
    refine pz_wp_ok (pz_Is_ok SX7_pass) [44] 100 ?_
    refine br2 (fun z => ?_) ?_
    · have z : A 0 0 ≤ nI k := z
      rw [hA2, hN k (by omega)] at z
      exact n_ge (by omega) (by omega) (by omega) z
    · refine cT0_feasts rfl (by omega) hcell.2 hcell.1 hpk ?_
      have ek : nI k + 1 = nI (k + 1) := nI_1 k
      have ih' := ih (k + 1) (by omega) (va_up A 0 (f_dine (A 0) k (f_cell (A 0) k))) (hA.trans (qag.up (by simp))) (by rw [vu_at, hA2]; rfl)
      refine qT ih' ?_ rfl rfl
      rw [← ek]
      rfl
theorem tT0_pass25 {A0 : qA} {t1 : Nat → Int32} {W B : Int} (h1 : okS t1) (hv : okV W B t1) (hW : W ≤ 25) (hB : B < 1073741824) (h : ∀ A' : qA, qag [4, 0] A0 A' → A' 0 = f_tick (f_mice (f_dns (f_flows t1 36) (f_n t1)).2) → Q none (mem A' F X)) : ∀ (d c : Nat), c + d = 36 → ∀ A : qA, qag [4, 0] A0 A → A 0 = f_flows t1 c → pz_T z0 KX7_pass Q 25 (0, 0) [some (.ref 4), some (.int (nI c))] [] (mem A F X) := by
  intro d
  induction d with
  | zero =>
    intro c hc A hA hA2
    have hc : c = 36 := by omega
    subst hc
    refine pz_wp_ok (pz_Is_ok SX7_pass) [44] 100 ?_
    refine br1 (fun z => z (by decide)) ?_
    have hok := okS_flows h1 (n := 36) (by omega)
    have hvf := okV_flows hv hB (n := 36) (by omega)
    have en : f_n t1 = f_n (f_flows t1 36) := by unfold f_n; rw [f_flows_out t1 (by omega) (by omega)]
    generalize f_flows t1 36 = t2 at h hok en hA2 hvf
    exact tT0_pass44 (t0 := t2) hok hvf hW en h (f_n t1) 0 (by omega) A hA hA2
  | succ d ih =>
    intro c hc A hA hA2
    have hok := okS_flows h1 (n := c) (by omega)
    have hvf := okV_flows hv hB (n := c) (by omega)
    rw [← hA2] at hok hvf
    refine pz_wp_ok (pz_Is_ok SX7_pass) [25] 100 ?_
    refine br2 (n_ge (b := 36) (by omega) (by omega) (by omega)) ?_
    refine cT0_flows rfl (by omega) hok.2.2.2.2.1 (fun q hq => ?_) ?_
    · have := (hvf.lev hW hB hq).2.2
      rw [i_lt, show (2147483647 : Int32).toInt = 2147483647 from rfl]
      omega
    · have ek : nI c + 1 = nI (c + 1) := nI_1 c
      have ih' := ih (c + 1) (by omega) (va_up A 0 (f_flow (A 0) c)) (hA.trans (qag.up (by simp))) (by rw [vu_at, hA2]; rfl)
      refine qT ih' ?_ rfl rfl
      rw [← ek]
      rfl
set_option maxRecDepth 8000 in
theorem cT0_pass {W B : Int} (hok : okS (A 0)) (hv : okV W B (A 0)) (hW : 0 ≤ W ∧ W ≤ 25) (hB : B + 99 < 1073741824) (hr : rTxs X (A 0)) (h : ∀ A' : qA, qag [4, 0] A A' → A' 0 = f_pass (A 0) → Q none (mem A' F X)) : pz_C yX7_pass KX7_pass [.ref 4] (mem A F X) Q := by
  refine pz_C_of rfl rfl rfl (Nat.le_of_ble_eq_true rfl) (pz_wp_ok (pz_Is_ok SX7_pass) [25] 100 ?_)
  obtain ⟨p1, p2⟩ := hok.pot
  have cp := qcl _ p2 (by omega)
  have hpo := okS_pour hok
  have hvo := okV_pour hv hok hB
  have en : f_n (A 0) = f_n (f_pour (A 0)) := by unfold f_n; rw [f_pour_out _ p1 (by omega)]
  have h' : ∀ A' : qA, qag [4, 0] A A' → A' 0 = f_tick (f_mice (f_dns (f_flows (f_pour (A 0)) 36) (f_n (f_pour (A 0)))).2) → Q none (mem A' F X) := by
    rw [← en]; exact h
  refine ⟨fun g => ?_, fun g => ?_⟩
  · have g : A 0 4 = 0 := g
    exact tT0_pass25 hpo hvo hW.2 hB h' 36 0 rfl A (qag.refl _ A) (f_pour_0 (by rw [g]; decide)).symm
  · have g : ¬ A 0 4 = 0 := g
    have g : A 0 4 = 1 := hok.2.2.2.1.elim (fun z => absurd z g) id
    refine ⟨qin _ p2 p1 (by omega), ?_⟩
    have ep : qm 36 82 1 (A 0) (A 0 3).toNatClampNeg = A 0 (82 + f_pot (A 0)) := by rw [cp, qm_1 p1]
    rw [ep]
    refine cT0_pours hok hv.2.2.1 hr (fun A1 hA1 => ?_)
    have eb : A1 0 = A 0 := hA1 0 (by simp)
    refine ⟨qin _ p2 p1 (by omega), ?_⟩
    rw [cp]
    have hm := mp0 (A := A1) (F := F) (X := X) p1 (A 0 (82 + f_pot (A 0)) + f_pours (A 0))
    rw [eb] at hm
    refine qT (tT0_pass25 hpo hvo hW.2 hB h' 36 0 rfl (va_up A1 0 (f_pour (A 0))) ((hA1.mono (by simp)).trans (qag.up (by simp))) (vu_at _ _ _)) rfl rfl ?_
    have ef : f_pour (A 0) = upd (A 0) (82 + f_pot (A 0)) (A 0 (82 + f_pot (A 0)) + f_pours (A 0)) := by
      have : f_pour (A 0) = upd (A 0) (82 + f_pot (A 0)) (A 0 (82 + f_pot (A 0)) + if A 0 4 = 1 then f_pours (A 0) else 0) := rfl
      rw [this, if_pos g]
    rw [ef, ← hm, ← eb]
theorem tT0_passes {W B : Int} {n : Nat} (hn : n < 10000000) (hok : okS (A 0)) (hv : okV W B (A 0)) (hW : 0 ≤ W ∧ W ≤ 25) (hB : B + 99 * (n : Int) < 1073741824) (hr : rTxs X (A 0)) (h : ∀ A' : qA, qag [4, 0] A A' → A' 0 = f_it n (A 0) → Q none (mem A' F X)) : ∀ (d k : Nat), k + d = n → ∀ A1 : qA, qag [4, 0] A A1 → A1 0 = f_it k (A 0) → pz_T z0 KX7_passes Q 2 (0, 0) [some (.ref 4), some (.int (nI n)), some (.int (nI k))] [] (mem A1 F X) := by
  intro d
  induction d with
  | zero =>
    intro k hk A1 hA hA2
    have hk : k = n := by omega
    subst hk
    refine pz_wp_ok (pz_Is_ok SX7_passes) [2] 100 ?_
    refine br1 (fun z => z (nI_le (Nat.le_refl _) (by omega))) ?_
    exact h A1 hA hA2
  | succ d ih =>
    intro k hk A1 hA hA2
    refine pz_wp_ok (pz_Is_ok SX7_passes) [2] 100 ?_
    refine br2 (n_ge (by omega) (by omega) (by omega)) ?_
    refine cT0_pass (W := W) (B := B + 99 * (k : Int)) (by rw [hA2]; exact okS_it hok k) (by rw [hA2]; exact okV_it hv hok hW k (by omega)) hW (by omega) (by rw [hA2]; exact rTxs_cg (f_it_out hok k (by omega)) (fun j hj => f_it_out hok k (by omega)) hr) (fun A2 hB' hB2 => ?_)
    have ek : nI k + 1 = nI (k + 1) := nI_1 k
    refine qT (ih (k + 1) (by omega) A2 (hA.trans hB') (by rw [hB2, hA2]; rfl)) ?_ rfl rfl
    rw [← ek]
    rfl
theorem cT0_passes {W B : Int} {n : Nat} {x : Int32} (hx : x = nI n) (hn : n < 10000000) (hok : okS (A 0)) (hv : okV W B (A 0)) (hW : 0 ≤ W ∧ W ≤ 25) (hB : B + 99 * (n : Int) < 1073741824) (hr : rTxs X (A 0)) (h : ∀ A' : qA, qag [4, 0] A A' → A' 0 = f_it n (A 0) → Q none (mem A' F X)) : pz_C yX7_passes KX7_passes [.ref 4, .int x] (mem A F X) Q := by
  subst hx
  refine pz_C_of rfl rfl rfl (Nat.le_of_ble_eq_true rfl) (pz_wp_ok (pz_Is_ok SX7_passes) [2] 100 ?_)
  exact tT0_passes hn hok hv hW hB hr h n 0 (by omega) A (qag.refl _ A) rfl
set_option maxRecDepth 8000 in
theorem tT2_pours53 {g r : Int32} (hg : r = f_w g 99) {x1 x2 : Option Value} (hx : x1 = some .null ∨ ∃ q, x1 = some (.ref q)) (h : Q (some (.int r)) (mem A F X)) : pz_T z0 KX7_pours Q 53 (0, 0) [some (.ref 20), x1, x2] [.int g] (mem A F X) := by
  rcases hx with e | ⟨q, e⟩
  · subst e
    refine pz_wp_ok (pz_Is_ok SX7_pours) [] 100 ?_
    rw [← mm_fw] at hg
    subst hg
    exact h
  · subst e
    refine pz_wp_ok (pz_Is_ok SX7_pours) [] 100 ?_
    rw [← mm_fw] at hg
    subst hg
    exact h
set_option maxRecDepth 8000 in
theorem cT2_pours (hok : okS (A 2)) (hb : qIn 0 99 (A 2 7)) (hr : rTxs X (A 2)) (h : ∀ A' : qA, qag [4] A A' → Q (some (.int (f_pours (A 2)))) (mem A' F X)) : pz_C yX7_pours KX7_pours [.ref 20] (mem A F X) Q := by
  refine pz_C_of rfl rfl rfl (Nat.le_of_ble_eq_true rfl) (pz_wp_ok (pz_Is_ok SX7_pours) [53] 100 ?_)
  obtain ⟨n1, n2, n3⟩ := hok.nt
  obtain ⟨p1, p2⟩ := hok.pot
  have cp := qcl _ p2 (by omega)
  unfold f_pours at h
  refine cL_counting (t := A 2) n2 n1 hr (fun hc => ?_) (fun k i hc hk hi => ?_)
  · rw [hc] at h
    refine ⟨qin 1 rfl (by omega) (by omega), ?_⟩
    exact tT2_pours53 (g := A 2 7) (r := A 2 7) (f_w_same hb).symm (Or.inl rfl) (h A (qag.refl _ A))
  · rw [hc] at h
    dsimp only at h
    obtain ⟨o1, key, o2, o3, o4⟩ := okTx_m (n3 k hk)
    have hkey := (f_cnt_lt _ _ _ _ hc).2
    have hk0 : key = 0 := by
      have : nI key = nI 0 := o3.symm.trans hkey
      exact (nI_eq (by omega) (by omega)).mp this
    subst hk0
    refine ⟨qin 1 rfl (by omega) (by omega), ?_⟩
    refine ⟨qin _ p2 p1 (by omega), ?_⟩
    have ep : qm 36 82 1 (A 2) (A 2 3).toNatClampNeg = A 2 (82 + f_pot (A 2)) := by rw [cp, qm_1 p1]
    rw [ep]
    refine cL_given (t := A 2) (nm := f_bn (A 2)) (k := k) (m := f_m (A 2) k) (key := 0) hi (by omega) rfl (by rw [o3]; rfl) o1 (fun v hv => f_bn_nmx hv) (fun p => ?_)
    exact tT2_pours53 (A := va_up A 4 p) rfl (Or.inr ⟨xr i, rfl⟩) (h _ (qag.up (by simp)))
theorem cT2_mice' (hw : ∀ c, c < 36 → qIn 0 25 (A 2 (46 + c))) (h : ∀ t1 : Nat → Int32, t1 = f_mice (A 2) → Q none (mem (va_up A 2 t1) F X)) : pz_C yX7_miceEat KX7_miceEat [.ref 20] (mem A F X) Q := cT2_mice hw (h _ rfl)
set_option maxRecDepth 8000 in
theorem tT2_pass67 {t1 : Nat → Int32} (h : Q none (mem (va_up A 2 (f_tick t1)) F X)) {x1 : Option Value} : pz_T z0 KX7_pass Q 67 (0, 0) [some (.ref 20), x1] [] (mem (va_up A 2 t1) F X) := by
  refine pz_wp_ok (pz_Is_ok SX7_pass) [] 100 ?_
  unfold f_tick at h
  have hm := mf_min2 (A := va_up A 2 t1) (F := F) (X := X) (t1 2 + 1)
  rw [vu_vu, vu_at] at hm
  rw [← hm] at h
  exact h
theorem tT2_pass63 {A0 : qA} {t0 : Nat → Int32} (hw : ∀ c, c < 36 → qIn 0 25 (t0 (46 + c))) (h : ∀ A' : qA, qag [4, 2] A0 A' → A' 2 = f_tick (f_mice t0) → Q none (mem A' F X)) {A : qA} (hA : qag [4, 2] A0 A) (hA2 : A 2 = t0) {x1 : Option Value} : pz_T z0 KX7_pass Q 63 (0, 0) [some (.ref 20), x1] [] (mem A F X) := by
  refine pz_wp_ok (pz_Is_ok SX7_pass) [67] 100 ?_
  refine cT2_mice' (by rw [hA2]; exact hw) (fun t1 ht1 => ?_)
  rw [hA2] at ht1
  refine tT2_pass67 (h _ (hA.trans (qag.up (by simp))) ?_)
  rw [vu_at, ht1]
theorem tT2_pass44 {A0 : qA} {t0 : Nat → Int32} {W B : Int} (h0 : okS t0) (hv : okV W B t0) (hW : W ≤ 25) {n : Nat} (hn : n = f_n t0) (h : ∀ A' : qA, qag [4, 2] A0 A' → A' 2 = f_tick (f_mice (f_dns t0 n).2) → Q none (mem A' F X)) : ∀ (d k : Nat), k + d = n → ∀ A : qA, qag [4, 2] A0 A → A 2 = (f_dns t0 k).2 → pz_T z0 KX7_pass Q 44 (0, 0) [some (.ref 20), some (.int (nI k))] [] (mem A F X) := by
  have hn8 : n ≤ 8 := by rw [hn]; exact h0.n.1
  have hN : ∀ k, k ≤ 8 → (f_dns t0 k).2 0 = nI n := fun k hk => by rw [(f_dns_ok t0 h0 hk).2 0 (by omega), hn]; exact h0.n.2
  intro d
  induction d with
  | zero =>
    intro k hk A hA hA2
    have hk : k = n := by omega
    subst hk
    refine pz_wp_ok (pz_Is_ok SX7_pass) [63] 100 ?_
    refine br1 (fun z => z ?_) ?_
    · show A 2 0 ≤ nI k
      rw [hA2, hN k hn8]; exact nI_le (by omega) (by omega)
    · refine tT2_pass63 (fun c hc => ?_) h hA hA2
      have := ((okV_dns hv h0 hn8).1 c hc).2.1
      exact ⟨this.1, Int.le_trans this.2 hW⟩
  | succ d ih =>
    intro k hk A hA hA2
    have hok := (f_dns_ok t0 h0 (k := k) (by omega)).1
    have hcell := hok.cell (k := k) (by omega)
    have hvk := okV_dns hv h0 (k := k) (by omega)
    have hpk := (hvk.part hcell.1).1
    rw [← hA2] at hok hcell hpk
    refine pz_wp_ok (pz_Is_ok SX7_pass) [44] 100 ?_
    refine br2 (fun z => ?_) ?_
    · have z : A 2 0 ≤ nI k := z
      rw [hA2, hN k (by omega)] at z
      exact n_ge (by omega) (by omega) (by omega) z
    · refine cT2_feasts rfl (by omega) hcell.2 hcell.1 hpk ?_
      have ek : nI k + 1 = nI (k + 1) := nI_1 k
      have ih' := ih (k + 1) (by omega) (va_up A 2 (f_dine (A 2) k (f_cell (A 2) k))) (hA.trans (qag.up (by simp))) (by rw [vu_at, hA2]; rfl)
      refine qT ih' ?_ rfl rfl
      rw [← ek]
      rfl
theorem tT2_pass25 {A0 : qA} {t1 : Nat → Int32} {W B : Int} (h1 : okS t1) (hv : okV W B t1) (hW : W ≤ 25) (hB : B < 1073741824) (h : ∀ A' : qA, qag [4, 2] A0 A' → A' 2 = f_tick (f_mice (f_dns (f_flows t1 36) (f_n t1)).2) → Q none (mem A' F X)) : ∀ (d c : Nat), c + d = 36 → ∀ A : qA, qag [4, 2] A0 A → A 2 = f_flows t1 c → pz_T z0 KX7_pass Q 25 (0, 0) [some (.ref 20), some (.int (nI c))] [] (mem A F X) := by
  intro d
  induction d with
  | zero =>
    intro c hc A hA hA2
    have hc : c = 36 := by omega
    subst hc
    refine pz_wp_ok (pz_Is_ok SX7_pass) [44] 100 ?_
    refine br1 (fun z => z (by decide)) ?_
    have hok := okS_flows h1 (n := 36) (by omega)
    have hvf := okV_flows hv hB (n := 36) (by omega)
    have en : f_n t1 = f_n (f_flows t1 36) := by unfold f_n; rw [f_flows_out t1 (by omega) (by omega)]
    generalize f_flows t1 36 = t2 at h hok en hA2 hvf
    exact tT2_pass44 (t0 := t2) hok hvf hW en h (f_n t1) 0 (by omega) A hA hA2
  | succ d ih =>
    intro c hc A hA hA2
    have hok := okS_flows h1 (n := c) (by omega)
    have hvf := okV_flows hv hB (n := c) (by omega)
    rw [← hA2] at hok hvf
    refine pz_wp_ok (pz_Is_ok SX7_pass) [25] 100 ?_
    refine br2 (n_ge (b := 36) (by omega) (by omega) (by omega)) ?_
    refine cT2_flows rfl (by omega) hok.2.2.2.2.1 (fun q hq => ?_) ?_
    · have := (hvf.lev hW hB hq).2.2
      rw [i_lt, show (2147483647 : Int32).toInt = 2147483647 from rfl]
      omega
    · have ek : nI c + 1 = nI (c + 1) := nI_1 c
      have ih' := ih (c + 1) (by omega) (va_up A 2 (f_flow (A 2) c)) (hA.trans (qag.up (by simp))) (by rw [vu_at, hA2]; rfl)
      refine qT ih' ?_ rfl rfl
      rw [← ek]
      rfl
set_option maxRecDepth 8000 in
theorem cT2_pass {W B : Int} (hok : okS (A 2)) (hv : okV W B (A 2)) (hW : 0 ≤ W ∧ W ≤ 25) (hB : B + 99 < 1073741824) (hr : rTxs X (A 2)) (h : ∀ A' : qA, qag [4, 2] A A' → A' 2 = f_pass (A 2) → Q none (mem A' F X)) : pz_C yX7_pass KX7_pass [.ref 20] (mem A F X) Q := by
  refine pz_C_of rfl rfl rfl (Nat.le_of_ble_eq_true rfl) (pz_wp_ok (pz_Is_ok SX7_pass) [25] 100 ?_)
  obtain ⟨p1, p2⟩ := hok.pot
  have cp := qcl _ p2 (by omega)
  have hpo := okS_pour hok
  have hvo := okV_pour hv hok hB
  have en : f_n (A 2) = f_n (f_pour (A 2)) := by unfold f_n; rw [f_pour_out _ p1 (by omega)]
  have h' : ∀ A' : qA, qag [4, 2] A A' → A' 2 = f_tick (f_mice (f_dns (f_flows (f_pour (A 2)) 36) (f_n (f_pour (A 2)))).2) → Q none (mem A' F X) := by
    rw [← en]; exact h
  refine ⟨fun g => ?_, fun g => ?_⟩
  · have g : A 2 4 = 0 := g
    exact tT2_pass25 hpo hvo hW.2 hB h' 36 0 rfl A (qag.refl _ A) (f_pour_0 (by rw [g]; decide)).symm
  · have g : ¬ A 2 4 = 0 := g
    have g : A 2 4 = 1 := hok.2.2.2.1.elim (fun z => absurd z g) id
    refine ⟨qin _ p2 p1 (by omega), ?_⟩
    have ep : qm 36 82 1 (A 2) (A 2 3).toNatClampNeg = A 2 (82 + f_pot (A 2)) := by rw [cp, qm_1 p1]
    rw [ep]
    refine cT2_pours hok hv.2.2.1 hr (fun A1 hA1 => ?_)
    have eb : A1 2 = A 2 := hA1 2 (by simp)
    refine ⟨qin _ p2 p1 (by omega), ?_⟩
    rw [cp]
    have hm := mp2 (A := A1) (F := F) (X := X) p1 (A 2 (82 + f_pot (A 2)) + f_pours (A 2))
    rw [eb] at hm
    refine qT (tT2_pass25 hpo hvo hW.2 hB h' 36 0 rfl (va_up A1 2 (f_pour (A 2))) ((hA1.mono (by simp)).trans (qag.up (by simp))) (vu_at _ _ _)) rfl rfl ?_
    have ef : f_pour (A 2) = upd (A 2) (82 + f_pot (A 2)) (A 2 (82 + f_pot (A 2)) + f_pours (A 2)) := by
      have : f_pour (A 2) = upd (A 2) (82 + f_pot (A 2)) (A 2 (82 + f_pot (A 2)) + if A 2 4 = 1 then f_pours (A 2) else 0) := rfl
      rw [this, if_pos g]
    rw [ef, ← hm, ← eb]
theorem tT2_passes {W B : Int} {n : Nat} (hn : n < 10000000) (hok : okS (A 2)) (hv : okV W B (A 2)) (hW : 0 ≤ W ∧ W ≤ 25) (hB : B + 99 * (n : Int) < 1073741824) (hr : rTxs X (A 2)) (h : ∀ A' : qA, qag [4, 2] A A' → A' 2 = f_it n (A 2) → Q none (mem A' F X)) : ∀ (d k : Nat), k + d = n → ∀ A1 : qA, qag [4, 2] A A1 → A1 2 = f_it k (A 2) → pz_T z0 KX7_passes Q 2 (0, 0) [some (.ref 20), some (.int (nI n)), some (.int (nI k))] [] (mem A1 F X) := by
  intro d
  induction d with
  | zero =>
    intro k hk A1 hA hA2
    have hk : k = n := by omega
    subst hk
    refine pz_wp_ok (pz_Is_ok SX7_passes) [2] 100 ?_
    refine br1 (fun z => z (nI_le (Nat.le_refl _) (by omega))) ?_
    exact h A1 hA hA2
  | succ d ih =>
    intro k hk A1 hA hA2
    refine pz_wp_ok (pz_Is_ok SX7_passes) [2] 100 ?_
    refine br2 (n_ge (by omega) (by omega) (by omega)) ?_
    refine cT2_pass (W := W) (B := B + 99 * (k : Int)) (by rw [hA2]; exact okS_it hok k) (by rw [hA2]; exact okV_it hv hok hW k (by omega)) hW (by omega) (by rw [hA2]; exact rTxs_cg (f_it_out hok k (by omega)) (fun j hj => f_it_out hok k (by omega)) hr) (fun A2 hB' hB2 => ?_)
    have ek : nI k + 1 = nI (k + 1) := nI_1 k
    refine qT (ih (k + 1) (by omega) A2 (hA.trans hB') (by rw [hB2, hA2]; rfl)) ?_ rfl rfl
    rw [← ek]
    rfl
theorem cT2_passes {W B : Int} {n : Nat} {x : Int32} (hx : x = nI n) (hn : n < 10000000) (hok : okS (A 2)) (hv : okV W B (A 2)) (hW : 0 ≤ W ∧ W ≤ 25) (hB : B + 99 * (n : Int) < 1073741824) (hr : rTxs X (A 2)) (h : ∀ A' : qA, qag [4, 2] A A' → A' 2 = f_it n (A 2) → Q none (mem A' F X)) : pz_C yX7_passes KX7_passes [.ref 20, .int x] (mem A F X) Q := by
  subst hx
  refine pz_C_of rfl rfl rfl (Nat.le_of_ble_eq_true rfl) (pz_wp_ok (pz_Is_ok SX7_passes) [2] 100 ?_)
  exact tT2_passes hn hok hv hW hB hr h n 0 (by omega) A (qag.refl _ A) rfl
set_option maxRecDepth 8000 in
theorem tT3_pours53 {g r : Int32} (hg : r = f_w g 99) {x1 x2 : Option Value} (hx : x1 = some .null ∨ ∃ q, x1 = some (.ref q)) (h : Q (some (.int r)) (mem A F X)) : pz_T z0 KX7_pours Q 53 (0, 0) [some (.ref 28), x1, x2] [.int g] (mem A F X) := by
  rcases hx with e | ⟨q, e⟩
  · subst e
    refine pz_wp_ok (pz_Is_ok SX7_pours) [] 100 ?_
    rw [← mm_fw] at hg
    subst hg
    exact h
  · subst e
    refine pz_wp_ok (pz_Is_ok SX7_pours) [] 100 ?_
    rw [← mm_fw] at hg
    subst hg
    exact h
set_option maxRecDepth 8000 in
theorem cT3_pours (hok : okS (A 3)) (hb : qIn 0 99 (A 3 7)) (hr : rTxs X (A 3)) (h : ∀ A' : qA, qag [4] A A' → Q (some (.int (f_pours (A 3)))) (mem A' F X)) : pz_C yX7_pours KX7_pours [.ref 28] (mem A F X) Q := by
  refine pz_C_of rfl rfl rfl (Nat.le_of_ble_eq_true rfl) (pz_wp_ok (pz_Is_ok SX7_pours) [53] 100 ?_)
  obtain ⟨n1, n2, n3⟩ := hok.nt
  obtain ⟨p1, p2⟩ := hok.pot
  have cp := qcl _ p2 (by omega)
  unfold f_pours at h
  refine cL_counting (t := A 3) n2 n1 hr (fun hc => ?_) (fun k i hc hk hi => ?_)
  · rw [hc] at h
    refine ⟨qin 1 rfl (by omega) (by omega), ?_⟩
    exact tT3_pours53 (g := A 3 7) (r := A 3 7) (f_w_same hb).symm (Or.inl rfl) (h A (qag.refl _ A))
  · rw [hc] at h
    dsimp only at h
    obtain ⟨o1, key, o2, o3, o4⟩ := okTx_m (n3 k hk)
    have hkey := (f_cnt_lt _ _ _ _ hc).2
    have hk0 : key = 0 := by
      have : nI key = nI 0 := o3.symm.trans hkey
      exact (nI_eq (by omega) (by omega)).mp this
    subst hk0
    refine ⟨qin 1 rfl (by omega) (by omega), ?_⟩
    refine ⟨qin _ p2 p1 (by omega), ?_⟩
    have ep : qm 36 82 1 (A 3) (A 3 3).toNatClampNeg = A 3 (82 + f_pot (A 3)) := by rw [cp, qm_1 p1]
    rw [ep]
    refine cL_given (t := A 3) (nm := f_bn (A 3)) (k := k) (m := f_m (A 3) k) (key := 0) hi (by omega) rfl (by rw [o3]; rfl) o1 (fun v hv => f_bn_nmx hv) (fun p => ?_)
    exact tT3_pours53 (A := va_up A 4 p) rfl (Or.inr ⟨xr i, rfl⟩) (h _ (qag.up (by simp)))
theorem cT3_mice' (hw : ∀ c, c < 36 → qIn 0 25 (A 3 (46 + c))) (h : ∀ t1 : Nat → Int32, t1 = f_mice (A 3) → Q none (mem (va_up A 3 t1) F X)) : pz_C yX7_miceEat KX7_miceEat [.ref 28] (mem A F X) Q := cT3_mice hw (h _ rfl)
set_option maxRecDepth 8000 in
theorem tT3_pass67 {t1 : Nat → Int32} (h : Q none (mem (va_up A 3 (f_tick t1)) F X)) {x1 : Option Value} : pz_T z0 KX7_pass Q 67 (0, 0) [some (.ref 28), x1] [] (mem (va_up A 3 t1) F X) := by
  refine pz_wp_ok (pz_Is_ok SX7_pass) [] 100 ?_
  unfold f_tick at h
  have hm := mf_min3 (A := va_up A 3 t1) (F := F) (X := X) (t1 2 + 1)
  rw [vu_vu, vu_at] at hm
  rw [← hm] at h
  exact h
theorem tT3_pass63 {A0 : qA} {t0 : Nat → Int32} (hw : ∀ c, c < 36 → qIn 0 25 (t0 (46 + c))) (h : ∀ A' : qA, qag [4, 3] A0 A' → A' 3 = f_tick (f_mice t0) → Q none (mem A' F X)) {A : qA} (hA : qag [4, 3] A0 A) (hA2 : A 3 = t0) {x1 : Option Value} : pz_T z0 KX7_pass Q 63 (0, 0) [some (.ref 28), x1] [] (mem A F X) := by
  refine pz_wp_ok (pz_Is_ok SX7_pass) [67] 100 ?_
  refine cT3_mice' (by rw [hA2]; exact hw) (fun t1 ht1 => ?_)
  rw [hA2] at ht1
  refine tT3_pass67 (h _ (hA.trans (qag.up (by simp))) ?_)
  rw [vu_at, ht1]
theorem tT3_pass44 {A0 : qA} {t0 : Nat → Int32} {W B : Int} (h0 : okS t0) (hv : okV W B t0) (hW : W ≤ 25) {n : Nat} (hn : n = f_n t0) (h : ∀ A' : qA, qag [4, 3] A0 A' → A' 3 = f_tick (f_mice (f_dns t0 n).2) → Q none (mem A' F X)) : ∀ (d k : Nat), k + d = n → ∀ A : qA, qag [4, 3] A0 A → A 3 = (f_dns t0 k).2 → pz_T z0 KX7_pass Q 44 (0, 0) [some (.ref 28), some (.int (nI k))] [] (mem A F X) := by
  have hn8 : n ≤ 8 := by rw [hn]; exact h0.n.1
  have hN : ∀ k, k ≤ 8 → (f_dns t0 k).2 0 = nI n := fun k hk => by rw [(f_dns_ok t0 h0 hk).2 0 (by omega), hn]; exact h0.n.2
  intro d
  induction d with
  | zero =>
    intro k hk A hA hA2
    have hk : k = n := by omega
    subst hk
    refine pz_wp_ok (pz_Is_ok SX7_pass) [63] 100 ?_
    refine br1 (fun z => z ?_) ?_
    · show A 3 0 ≤ nI k
      rw [hA2, hN k hn8]; exact nI_le (by omega) (by omega)
    · refine tT3_pass63 (fun c hc => ?_) h hA hA2
      have := ((okV_dns hv h0 hn8).1 c hc).2.1
      exact ⟨this.1, Int.le_trans this.2 hW⟩
  | succ d ih =>
    intro k hk A hA hA2
    have hok := (f_dns_ok t0 h0 (k := k) (by omega)).1
    have hcell := hok.cell (k := k) (by omega)
    have hvk := okV_dns hv h0 (k := k) (by omega)
    have hpk := (hvk.part hcell.1).1
    rw [← hA2] at hok hcell hpk
    refine pz_wp_ok (pz_Is_ok SX7_pass) [44] 100 ?_
    refine br2 (fun z => ?_) ?_
    · have z : A 3 0 ≤ nI k := z
      rw [hA2, hN k (by omega)] at z
      exact n_ge (by omega) (by omega) (by omega) z
    · refine cT3_feasts rfl (by omega) hcell.2 hcell.1 hpk ?_
      have ek : nI k + 1 = nI (k + 1) := nI_1 k
      have ih' := ih (k + 1) (by omega) (va_up A 3 (f_dine (A 3) k (f_cell (A 3) k))) (hA.trans (qag.up (by simp))) (by rw [vu_at, hA2]; rfl)
      refine qT ih' ?_ rfl rfl
      rw [← ek]
      rfl
theorem tT3_pass25 {A0 : qA} {t1 : Nat → Int32} {W B : Int} (h1 : okS t1) (hv : okV W B t1) (hW : W ≤ 25) (hB : B < 1073741824) (h : ∀ A' : qA, qag [4, 3] A0 A' → A' 3 = f_tick (f_mice (f_dns (f_flows t1 36) (f_n t1)).2) → Q none (mem A' F X)) : ∀ (d c : Nat), c + d = 36 → ∀ A : qA, qag [4, 3] A0 A → A 3 = f_flows t1 c → pz_T z0 KX7_pass Q 25 (0, 0) [some (.ref 28), some (.int (nI c))] [] (mem A F X) := by
  intro d
  induction d with
  | zero =>
    intro c hc A hA hA2
    have hc : c = 36 := by omega
    subst hc
    refine pz_wp_ok (pz_Is_ok SX7_pass) [44] 100 ?_
    refine br1 (fun z => z (by decide)) ?_
    have hok := okS_flows h1 (n := 36) (by omega)
    have hvf := okV_flows hv hB (n := 36) (by omega)
    have en : f_n t1 = f_n (f_flows t1 36) := by unfold f_n; rw [f_flows_out t1 (by omega) (by omega)]
    generalize f_flows t1 36 = t2 at h hok en hA2 hvf
    exact tT3_pass44 (t0 := t2) hok hvf hW en h (f_n t1) 0 (by omega) A hA hA2
  | succ d ih =>
    intro c hc A hA hA2
    have hok := okS_flows h1 (n := c) (by omega)
    have hvf := okV_flows hv hB (n := c) (by omega)
    rw [← hA2] at hok hvf
    refine pz_wp_ok (pz_Is_ok SX7_pass) [25] 100 ?_
    refine br2 (n_ge (b := 36) (by omega) (by omega) (by omega)) ?_
    refine cT3_flows rfl (by omega) hok.2.2.2.2.1 (fun q hq => ?_) ?_
    · have := (hvf.lev hW hB hq).2.2
      rw [i_lt, show (2147483647 : Int32).toInt = 2147483647 from rfl]
      omega
    · have ek : nI c + 1 = nI (c + 1) := nI_1 c
      have ih' := ih (c + 1) (by omega) (va_up A 3 (f_flow (A 3) c)) (hA.trans (qag.up (by simp))) (by rw [vu_at, hA2]; rfl)
      refine qT ih' ?_ rfl rfl
      rw [← ek]
      rfl
set_option maxRecDepth 8000 in
theorem cT3_pass {W B : Int} (hok : okS (A 3)) (hv : okV W B (A 3)) (hW : 0 ≤ W ∧ W ≤ 25) (hB : B + 99 < 1073741824) (hr : rTxs X (A 3)) (h : ∀ A' : qA, qag [4, 3] A A' → A' 3 = f_pass (A 3) → Q none (mem A' F X)) : pz_C yX7_pass KX7_pass [.ref 28] (mem A F X) Q := by
  refine pz_C_of rfl rfl rfl (Nat.le_of_ble_eq_true rfl) (pz_wp_ok (pz_Is_ok SX7_pass) [25] 100 ?_)
  obtain ⟨p1, p2⟩ := hok.pot
  have cp := qcl _ p2 (by omega)
  have hpo := okS_pour hok
  have hvo := okV_pour hv hok hB
  have en : f_n (A 3) = f_n (f_pour (A 3)) := by unfold f_n; rw [f_pour_out _ p1 (by omega)]
  have h' : ∀ A' : qA, qag [4, 3] A A' → A' 3 = f_tick (f_mice (f_dns (f_flows (f_pour (A 3)) 36) (f_n (f_pour (A 3)))).2) → Q none (mem A' F X) := by
    rw [← en]; exact h
  refine ⟨fun g => ?_, fun g => ?_⟩
  · have g : A 3 4 = 0 := g
    exact tT3_pass25 hpo hvo hW.2 hB h' 36 0 rfl A (qag.refl _ A) (f_pour_0 (by rw [g]; decide)).symm
  · have g : ¬ A 3 4 = 0 := g
    have g : A 3 4 = 1 := hok.2.2.2.1.elim (fun z => absurd z g) id
    refine ⟨qin _ p2 p1 (by omega), ?_⟩
    have ep : qm 36 82 1 (A 3) (A 3 3).toNatClampNeg = A 3 (82 + f_pot (A 3)) := by rw [cp, qm_1 p1]
    rw [ep]
    refine cT3_pours hok hv.2.2.1 hr (fun A1 hA1 => ?_)
    have eb : A1 3 = A 3 := hA1 3 (by simp)
    refine ⟨qin _ p2 p1 (by omega), ?_⟩
    rw [cp]
    have hm := mp3 (A := A1) (F := F) (X := X) p1 (A 3 (82 + f_pot (A 3)) + f_pours (A 3))
    rw [eb] at hm
    refine qT (tT3_pass25 hpo hvo hW.2 hB h' 36 0 rfl (va_up A1 3 (f_pour (A 3))) ((hA1.mono (by simp)).trans (qag.up (by simp))) (vu_at _ _ _)) rfl rfl ?_
    have ef : f_pour (A 3) = upd (A 3) (82 + f_pot (A 3)) (A 3 (82 + f_pot (A 3)) + f_pours (A 3)) := by
      have : f_pour (A 3) = upd (A 3) (82 + f_pot (A 3)) (A 3 (82 + f_pot (A 3)) + if A 3 4 = 1 then f_pours (A 3) else 0) := rfl
      rw [this, if_pos g]
    rw [ef, ← hm, ← eb]
theorem tT3_passes {W B : Int} {n : Nat} (hn : n < 10000000) (hok : okS (A 3)) (hv : okV W B (A 3)) (hW : 0 ≤ W ∧ W ≤ 25) (hB : B + 99 * (n : Int) < 1073741824) (hr : rTxs X (A 3)) (h : ∀ A' : qA, qag [4, 3] A A' → A' 3 = f_it n (A 3) → Q none (mem A' F X)) : ∀ (d k : Nat), k + d = n → ∀ A1 : qA, qag [4, 3] A A1 → A1 3 = f_it k (A 3) → pz_T z0 KX7_passes Q 2 (0, 0) [some (.ref 28), some (.int (nI n)), some (.int (nI k))] [] (mem A1 F X) := by
  intro d
  induction d with
  | zero =>
    intro k hk A1 hA hA2
    have hk : k = n := by omega
    subst hk
    refine pz_wp_ok (pz_Is_ok SX7_passes) [2] 100 ?_
    refine br1 (fun z => z (nI_le (Nat.le_refl _) (by omega))) ?_
    exact h A1 hA hA2
  | succ d ih =>
    intro k hk A1 hA hA2
    refine pz_wp_ok (pz_Is_ok SX7_passes) [2] 100 ?_
    refine br2 (n_ge (by omega) (by omega) (by omega)) ?_
    refine cT3_pass (W := W) (B := B + 99 * (k : Int)) (by rw [hA2]; exact okS_it hok k) (by rw [hA2]; exact okV_it hv hok hW k (by omega)) hW (by omega) (by rw [hA2]; exact rTxs_cg (f_it_out hok k (by omega)) (fun j hj => f_it_out hok k (by omega)) hr) (fun A2 hB' hB2 => ?_)
    have ek : nI k + 1 = nI (k + 1) := nI_1 k
    refine qT (ih (k + 1) (by omega) A2 (hA.trans hB') (by rw [hB2, hA2]; rfl)) ?_ rfl rfl
    rw [← ek]
    rfl
theorem cT3_passes {W B : Int} {n : Nat} {x : Int32} (hx : x = nI n) (hn : n < 10000000) (hok : okS (A 3)) (hv : okV W B (A 3)) (hW : 0 ≤ W ∧ W ≤ 25) (hB : B + 99 * (n : Int) < 1073741824) (hr : rTxs X (A 3)) (h : ∀ A' : qA, qag [4, 3] A A' → A' 3 = f_it n (A 3) → Q none (mem A' F X)) : pz_C yX7_passes KX7_passes [.ref 28, .int x] (mem A F X) Q := by
  subst hx
  refine pz_C_of rfl rfl rfl (Nat.le_of_ble_eq_true rfl) (pz_wp_ok (pz_Is_ok SX7_passes) [2] 100 ?_)
  exact tT3_passes hn hok hv hW hB hr h n 0 (by omega) A (qag.refl _ A) rfl
end POT
