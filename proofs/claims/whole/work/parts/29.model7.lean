theorem mem_20 (A : qA) (F : qF) (X : qX) (f : Nat → Int32) : pz_set (mem A F X) 70 (.inl (0, 3142, f)) = mem (va_up A 20 f) F X := rfl
theorem f_run_nm {t nm nm' : Nat → Int32} {b m : Nat} (h : ∀ k, k < m → ¬ t (b + 4 + 2 * k) = 0 → ¬ t (b + 4 + 2 * k) = 2 → nm (t (b + 4 + 2 * k + 1)).toNatClampNeg = nm' (t (b + 4 + 2 * k + 1)).toNatClampNeg) : ∀ k, k ≤ m → f_run t nm b k = f_run t nm' b k
  | 0, _ => rfl
  | k + 1, hk => by
    rw [f_run, f_run, f_run_nm h k (by omega)]
    cases f_run t nm' b k with
    | none => rfl
    | some st =>
      dsimp only
      unfold f_stp
      by_cases h2 : t (b + 4 + 2 * k) = 2
      · rw [if_pos h2, if_pos h2]
      · rw [if_neg h2, if_neg h2]
        by_cases h0 : t (b + 4 + 2 * k) = 0
        · rw [if_pos h0, if_pos h0]
        · rw [if_neg h0, if_neg h0, h k (by omega) h0 h2]
/-- what a text gives depends on the names that it may use alone -/
theorem f_val_nm {t nm nm' : Nat → Int32} {b m key : Nat} (ho : okText t b m) (ha : ∀ k, k < m → t (b + 4 + 2 * k) = 1 → alw key (t (b + 4 + 2 * k + 1))) (h : ∀ v : Int32, alw key v → nm v.toNatClampNeg = nm' v.toNatClampNeg) : f_val t nm b m = f_val t nm' b m := by
  unfold f_val
  rw [f_run_nm (fun k hk h0 h2 => ?_) m (Nat.le_refl m)]
  rcases ho.2.2.1 k hk with hs | ⟨hs, -⟩ | hs
  · exact absurd hs h0
  · exact h _ (ha k hk hs)
  · exact absurd hs h2
section MOD
variable {A : qA} {F : qF} {X : qX} {Q : pz_Q} {M : pz_M}
theorem okTx_m {t : Nat → Int32} {i : Nat} (h : okTx t (142 + 200 * i)) : okText t (142 + 200 * i) (f_m t i) ∧ ∃ key, key < 3 ∧ t (142 + 200 * i) = nI key ∧ ∀ k, k < f_m t i → t (142 + 200 * i + 4 + 2 * k) = 1 → alw key (t (142 + 200 * i + 4 + 2 * k + 1)) := by
  obtain ⟨m, key, o1, o2, o3, o4⟩ := h
  have e : f_m t i = m := qcl m o1.1 (by have := o1.2.1; omega)
  rw [e]
  exact ⟨o1, key, o2, o3, o4⟩
set_option maxRecDepth 8000 in
theorem cM_pours (hok : okS (A 20)) (h : ∀ A' : qA, qag [35, 36] A A' → Q (some (.int (f_pours (A 20)))) (mem A' F X)) : pz_C yX10_pours KX10_pours [.ref 69] (mem A F X) Q := by
  refine pz_C_of rfl rfl rfl (Nat.le_of_ble_eq_true rfl) (pz_wp_ok (pz_Is_ok SX10_pours) [] 100 ?_)
  obtain ⟨n1, n2, n3⟩ := hok.nt
  obtain ⟨p1, p2⟩ := hok.pot
  refine cM_counts n2 n1 ?_
  unfold f_pours at h
  cases hc : f_cnt (A 20) 0 (f_nt (A 20)) with
  | none =>
    rw [hc] at h
    refine br2 (by decide) ?_
    exact ⟨qin 7 rfl (by omega) (by omega), h A (qag.refl _ A)⟩
  | some i =>
    rw [hc] at h
    dsimp only at h
    obtain ⟨hi, hkey⟩ := f_cnt_lt _ _ _ _ hc
    refine br1 (fun z => z (nI_pos' (by omega))) ?_
    refine ⟨qin 7 rfl (by omega) (by omega), ?_⟩
    refine ⟨qin 98 rfl (by omega) (by omega), ?_⟩
    refine ⟨qin 2 rfl (by omega) (by omega), ?_⟩
    refine ⟨qin 116 rfl (by omega) (by omega), ?_⟩
    refine ⟨qin 3 rfl (by omega) (by omega), ?_⟩
    refine qC (cM_parts (A := va_up A 35 (upd (upd (A 35) 98 (A 20 7)) 116 (A 20 2))) (F := F) (X := X) (c := f_pot (A 20)) p2 p1 ?_) rfl rfl
    refine ⟨qin 112 rfl (by omega) (by omega), ?_⟩
    obtain ⟨o1, key, o2, o3, o4⟩ := okTx_m (n3 i hi)
    have hk0 : key = 0 := by
      have : nI key = nI 0 := o3.symm.trans hkey
      exact (nI_eq (by omega) (by omega)).mp this
    refine qC (cM_worked (A := va_up A 35 (upd (upd (upd (A 35) 98 (A 20 7)) 116 (A 20 2)) 112 (A 20 (82 + f_pot (A 20))))) (F := F) (X := X) (i := i) (m := f_m (A 20) i) rfl (by omega) o1 (fun p => ?_)) rfl rfl
    refine cM_within ?_
    have hv : f_val (A 20) (upd (upd (upd (A 35) 98 (A 20 7)) 116 (A 20 2)) 112 (A 20 (82 + f_pot (A 20)))) (142 + 200 * i) (f_m (A 20) i) = f_val (A 20) (f_bn (A 20)) (142 + 200 * i) (f_m (A 20) i) := by
      refine f_val_nm o1 o4 (fun v hv => ?_)
      subst hk0
      rcases hv with ⟨-, hv | hv | hv⟩ | ⟨hv, -⟩ | ⟨hv, -⟩
      · subst hv; rfl
      · subst hv; rfl
      · subst hv; rfl
      · omega
      · omega
    have h' := h (va_up (va_up A 35 (upd (upd (upd (A 35) 98 (A 20 7)) 116 (A 20 2)) 112 (A 20 (82 + f_pot (A 20))))) 36 p) ((qag.up (by simp)).trans (qag.up (by simp)))
    rw [← hv] at h'
    exact h'
theorem cM_drawn' (h : ∀ z : Int32, z = f_z (A 20 5) → Q (some (.int (f_g z))) (mem (va_up A 20 (upd (A 20) 5 z)) F X)) : pz_C yX10_drawn KX10_drawn [.ref 69] (mem A F X) Q := cM_drawn (h _ rfl)
set_option maxRecDepth 8000 in
theorem tM_goesOn4 {a : Int32} {t1 : Nat → Int32} (hA2 : A 20 = t1) (h : Q (some (.int a)) (mem (va_up A 20 (f_tick t1)) F X)) (x2 : Option Value) : pz_T z0 KX10_goesOn Q 129 (0, 0) [some (.ref 69), some (.int a), x2] [] (mem A F X) := by
  refine pz_wp_ok (pz_Is_ok SX10_goesOn) [] 100 ?_
  subst hA2
  exact ⟨qin 2 rfl (by omega) (by omega), qin 2 rfl (by omega) (by omega), h⟩
set_option maxRecDepth 8000 in
theorem tM_goesOn3 {a : Int32} {A0 : qA} {t0 : Nat → Int32} (h : ∀ A' : qA, qag [20, 35, 36] A0 A' → A' 20 = f_tick (f_mice t0) → Q (some (.int a)) (mem A' F X)) {A : qA} (hA : qag [20, 35, 36] A0 A) (hA2 : A 20 = t0) (x2 : Option Value) : pz_T z0 KX10_goesOn Q 82 (0, 0) [some (.ref 69), some (.int a), x2] [] (mem A F X) := by
  refine pz_wp_ok (pz_Is_ok SX10_goesOn) [129] 100 ?_
  refine cM_drawn' (fun z hz => ?_)
  rw [hA2] at hz
  have ed : upd (A 20) 5 z = f_dr t0 := by rw [hz, hA2]; rfl
  rw [ed]
  refine ⟨by decide, ?_⟩
  refine ⟨qin 9 rfl (by omega) (by omega), ?_⟩
  have e9 : f_dr t0 9 = t0 9 := f_dr_out _ (by omega)
  have hm1 : t0 9 ≤ f_rem (f_g z) 100 → f_mice t0 = f_dr t0 := fun g => by unfold f_mice; rw [← hz, if_pos g]
  have hm2 : ¬ t0 9 ≤ f_rem (f_g z) 100 → f_mice t0 = f_bite (f_dr (f_dr t0)) := fun g => by unfold f_mice; rw [← hz, if_neg g]
  clear hz ed
  generalize f_mice t0 = tm at h hm1 hm2
  generalize f_dr t0 = t1 at e9 hm1 hm2 ⊢
  refine ⟨fun g => ?_, fun g => ?_⟩
  · have g : t1 9 ≤ f_rem (f_g z) 100 := g
    rw [e9] at g
    have hm := hm1 g
    subst hm
    exact tM_goesOn4 (vu_at _ _ _) (h _ ((hA.trans (qag.up (by simp))).trans (qag.up (by simp))) (vu_at _ _ _)) _
  · have g : ¬ t1 9 ≤ f_rem (f_g z) 100 := g
    rw [e9] at g
    have hm := hm2 g
    refine cM_drawn' (fun z2 hz2 => ?_)
    rw [vu_at] at hz2
    have ed2 : upd (va_up A 20 t1 20) 5 z2 = f_dr t1 := by rw [hz2, vu_at]; rfl
    rw [ed2, vu_vu]
    have ez : z2 = f_dr t1 5 := by rw [hz2]; exact (upd_at _ _ _).symm
    clear hz2 ed2
    rw [ez]
    clear ez
    generalize f_dr t1 = t2 at hm ⊢
    refine ⟨by decide, ?_⟩
    have ea := f_at_lt t2
    have e1 : (46 : Int32) + (f_g (t2 5) - f_g (t2 5) / 36 * 36) = nI (f_at t2) := ea.2.2
    have c1 := qcl _ e1 (by omega)
    refine ⟨qin _ e1 (by omega) (by omega), ?_⟩
    refine cM_within ?_
    refine ⟨qin _ e1 (by omega) (by omega), ?_⟩
    rw [c1]
    have hb : upd (va_up A 20 t2 20) (f_at t2) (f_w (va_up A 20 t2 20 (f_at t2) - 1) 25) = f_bite t2 := by rw [vu_at]; rfl
    rw [hb]
    clear hb
    clear ea e1 c1
    generalize f_bite t2 = t3 at hm ⊢
    subst hm
    refine qT (tM_goesOn4 (A := va_up A 20 tm) (x2 := _) (vu_at _ _ _) (h _ ((hA.trans (qag.up (by simp))).trans (qag.up (by simp))) (vu_at _ _ _))) rfl rfl ?_
    exact (mem_20 _ _ _ _).trans (by rw [vu_vu])
theorem tM_goesOn2 {A0 : qA} {t0 : Nat → Int32} (h0 : okS t0) {n : Nat} (hn : n = f_n t0) (h : ∀ A' : qA, qag [20, 35, 36] A0 A' → A' 20 = f_tick (f_mice (f_dns t0 n).2) → Q (some (.int (f_dns t0 n).1)) (mem A' F X)) : ∀ (d k : Nat), k + d = n → ∀ A : qA, qag [20, 35, 36] A0 A → A 20 = (f_dns t0 k).2 → pz_T z0 KX10_goesOn Q 58 (0, 0) [some (.ref 69), some (.int (f_dns t0 k).1), some (.int (nI k))] [] (mem A F X) := by
  have hn8 : n ≤ 8 := by rw [hn]; exact h0.n.1
  have hN : ∀ k, k ≤ 8 → (f_dns t0 k).2 0 = nI n := fun k hk => by rw [(f_dns_ok t0 h0 hk).2 0 (by omega), hn]; exact h0.n.2
  intro d
  induction d with
  | zero =>
    intro k hk A hA hA2
    have hk : k = n := by omega
    subst hk
    refine pz_wp_ok (pz_Is_ok SX10_goesOn) [82] 100 ?_
    refine ⟨qin 0 rfl (by omega) (by omega), ?_⟩
    refine br1 (fun z => z ?_) ?_
    · show A 20 0 ≤ nI k
      rw [hA2, hN k hn8]; exact nI_le (by omega) (by omega)
    · exact tM_goesOn3 h hA hA2 _
  | succ d ih =>
    intro k hk A hA hA2
    have hok := (f_dns_ok t0 h0 (k := k) (by omega)).1
    have hcell := hok.cell (k := k) (by omega)
    rw [← hA2] at hok hcell
    refine pz_wp_ok (pz_Is_ok SX10_goesOn) [58] 100 ?_
    refine ⟨qin 0 rfl (by omega) (by omega), ?_⟩
    refine br2 (fun z => ?_) ?_
    · have z : A 20 0 ≤ nI k := z
      rw [hA2, hN k (by omega)] at z
      have := (nI_leI (by omega) (by omega)).mp z
      omega
    · refine cM_dines rfl (by omega) hcell.2 hcell.1 ?_
      have ek : nI k + 1 = nI (k + 1) := nI_1 k
      have ih' := ih (k + 1) (by omega) (va_up A 20 (f_dine (A 20) k (f_cell (A 20) k))) (hA.trans (qag.up (by simp))) (by rw [vu_at, hA2]; rfl)
      refine qT ih' ?_ rfl rfl
      rw [← ek, f_dns, hA2]
      rfl
theorem tM_goesOn1 {A0 : qA} {t1 : Nat → Int32} (h1 : okS t1) (h : ∀ A' : qA, qag [20, 35, 36] A0 A' → A' 20 = f_tick (f_mice (f_dns (f_flows t1 36) (f_n t1)).2) → Q (some (.int (f_dns (f_flows t1 36) (f_n t1)).1)) (mem A' F X)) : ∀ (d c : Nat), c + d = 36 → ∀ A : qA, qag [20, 35, 36] A0 A → A 20 = f_flows t1 c → ∀ x2 : Option Value, pz_T z0 KX10_goesOn Q 37 (0, 0) [some (.ref 69), some (.int (nI c)), x2] [] (mem A F X) := by
  intro d
  induction d with
  | zero =>
    intro c hc A hA hA2 x2
    have hc : c = 36 := by omega
    subst hc
    refine pz_wp_ok (pz_Is_ok SX10_goesOn) [58] 100 ?_
    refine br1 (fun z => z (by decide)) ?_
    have hok := okS_flows h1 (n := 36) (by omega)
    have en : f_n t1 = f_n (f_flows t1 36) := by unfold f_n; rw [f_flows_out t1 (by omega) (by omega)]
    generalize f_flows t1 36 = t2 at h hok en hA2
    exact tM_goesOn2 (t0 := t2) hok en h (f_n t1) 0 (by omega) A hA hA2
  | succ d ih =>
    intro c hc A hA hA2 x2
    have hok := okS_flows h1 (n := c) (by omega)
    rw [← hA2] at hok
    refine pz_wp_ok (pz_Is_ok SX10_goesOn) [37] 100 ?_
    refine br2 (fun z => ?_) ?_
    · have z : nI 36 ≤ nI c := z
      have := (nI_leI (by omega) (by omega)).mp z
      omega
    · refine cM_flows rfl (by omega) hok.thick ?_
      have ek : nI c + 1 = nI (c + 1) := nI_1 c
      have ih' := ih (c + 1) (by omega) (va_up A 20 (f_flow (A 20) c)) (hA.trans (qag.up (by simp))) (by rw [vu_at, hA2]; rfl) x2
      refine qT ih' ?_ rfl rfl
      rw [← ek]
      rfl
set_option maxRecDepth 8000 in
theorem cM_goesOn (hok : okS (A 20)) (h : ∀ A' : qA, qag [20, 35, 36] A A' → A' 20 = f_pass (A 20) → Q (some (.int (f_fed (A 20)).1)) (mem A' F X)) : pz_C yX10_goesOn KX10_goesOn [.ref 69] (mem A F X) Q := by
  refine pz_C_of rfl rfl rfl (Nat.le_of_ble_eq_true rfl) (pz_wp_ok (pz_Is_ok SX10_goesOn) [37] 100 ?_)
  obtain ⟨p1, p2⟩ := hok.pot
  have e1 : (82 : Int32) + A 20 3 = nI (82 + f_pot (A 20)) := by rw [p2]; exact nI_add 82 _
  have c1 := qcl _ e1 (by omega)
  have hpo := okS_pour hok
  have en : f_n (A 20) = f_n (f_pour (A 20)) := by unfold f_n; rw [f_pour_out _ p1 (by omega)]
  have h' : ∀ A' : qA, qag [20, 35, 36] A A' → A' 20 = f_tick (f_mice (f_dns (f_flows (f_pour (A 20)) 36) (f_n (f_pour (A 20)))).2) → Q (some (.int (f_dns (f_flows (f_pour (A 20)) 36) (f_n (f_pour (A 20)))).1)) (mem A' F X) := by
    rw [← en]; exact h
  refine ⟨qin 3 rfl (by omega) (by omega), ?_⟩
  refine ⟨qin _ e1 (by omega) (by omega), ?_⟩
  refine ⟨qin 4 rfl (by omega) (by omega), ?_⟩
  refine ⟨fun g => ?_, fun g => ?_⟩
  · have g : ¬ A 20 4 = 1 := g
    refine ⟨qin _ e1 (by omega) (by omega), ?_⟩
    refine qT (tM_goesOn1 hpo h' 36 0 rfl (va_up A 20 (f_pour (A 20))) (qag.up (by simp)) (vu_at _ _ _) none) rfl rfl ?_
    unfold f_pour
    rw [if_neg g, ← c1]
    rfl
  · have g : A 20 4 = 1 := g
    refine cM_pours hok (fun A1 hA1 => ?_)
    have e20 : A1 20 = A 20 := hA1 20 (by simp)
    refine ⟨qin _ e1 (by omega) (by omega), ?_⟩
    refine qT (tM_goesOn1 hpo h' 36 0 rfl (va_up A1 20 (f_pour (A 20))) ((hA1.mono (by simp)).trans (qag.up (by simp))) (vu_at _ _ _) none) rfl rfl ?_
    unfold f_pour
    rw [if_pos g, ← c1, ← e20]
    rfl
end MOD
