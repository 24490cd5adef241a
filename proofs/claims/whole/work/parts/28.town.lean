/-! a minute of the town, and what every town keeps to -/
def alw (key : Nat) (v : Int32) : Prop := (key = 0 ∧ (v = 98 ∨ v = 116 ∨ v = 112)) ∨ (key = 1 ∧ (v = 97 ∨ v = 112)) ∨ (key = 2 ∧ (v = 97 ∨ v = 99))
def okTx (t : Nat → Int32) (b : Nat) : Prop := ∃ m key : Nat, okText t b m ∧ key < 3 ∧ t b = nI key ∧ ∀ k, k < m → t (b + 4 + 2 * k) = 1 → alw key (t (b + 4 + 2 * k + 1))
def okTxs (t : Nat → Int32) : Prop := ∃ n, n ≤ 14 ∧ t 1 = nI n ∧ ∀ i, i < n → okTx t (142 + 200 * i)
/-- what keeps every step within its rows -/
def okS (t : Nat → Int32) : Prop := (∃ n, n ≤ 8 ∧ t 0 = nI n) ∧ okTxs t ∧ (∃ c, c < 36 ∧ t 3 = nI c) ∧ (t 4 = 0 ∨ t 4 = 1) ∧ (∃ n, n ≤ 9 ∧ t 8 = nI n) ∧ ∀ k, k < 8 → ∃ c, c < 36 ∧ t (118 + 3 * k + 1) = nI c
theorem f_run_congr {t t' nm : Nat → Int32} {b : Nat} (hb : 142 ≤ b) (h : ∀ j, 142 ≤ j → t' j = t j) : ∀ k, f_run t' nm b k = f_run t nm b k
  | 0 => rfl
  | k + 1 => by rw [f_run, f_run, f_run_congr hb h k, h _ (by omega), h _ (by omega)]
theorem okText_congr {t t' : Nat → Int32} {b m : Nat} (hb : 142 ≤ b) (h : ∀ j, 142 ≤ j → t' j = t j) (ho : okText t b m) : okText t' b m := by
  obtain ⟨o1, o2, o3, o4, o5⟩ := ho
  refine ⟨by rw [h _ (by omega)]; exact o1, o2, fun k hk => ?_, fun nm k hk => by rw [f_run_congr hb h]; exact o4 nm k hk, fun nm => by rw [f_run_congr hb h]; exact o5 nm⟩
  unfold okStep
  rw [h _ (by omega), h _ (by omega)]
  exact o3 k hk
theorem okTx_congr {t t' : Nat → Int32} {b : Nat} (hb : 142 ≤ b) (h : ∀ j, 142 ≤ j → t' j = t j) (ho : okTx t b) : okTx t' b := by
  obtain ⟨m, key, o1, o2, o3, o4⟩ := ho
  refine ⟨m, key, okText_congr hb h o1, o2, by rw [h _ (by omega)]; exact o3, fun k hk hw => ?_⟩
  rw [h _ (by omega)] at hw ⊢
  exact o4 k hk hw
theorem okTxs_congr {t t' : Nat → Int32} (h1 : t' 1 = t 1) (h : ∀ j, 142 ≤ j → t' j = t j) (ho : okTxs t) : okTxs t' := by
  obtain ⟨n, o1, o2, o3⟩ := ho
  exact ⟨n, o1, by rw [h1]; exact o2, fun i hi => okTx_congr (by omega) h (o3 i hi)⟩
theorem okS_congr {t t' : Nat → Int32} (h : ∀ j, (j = 0 ∨ j = 1 ∨ j = 3 ∨ j = 4 ∨ j = 8 ∨ 142 ≤ j) → t' j = t j) (hk : ∀ k, k < 8 → ∃ c, c < 36 ∧ t' (118 + 3 * k + 1) = nI c) (ho : okS t) : okS t' := by
  obtain ⟨o1, o2, o3, o4, o5, o6⟩ := ho
  refine ⟨by rw [h 0 (by omega)]; exact o1, okTxs_congr (h 1 (by omega)) (fun j hj => h j (by omega)) o2, by rw [h 3 (by omega)]; exact o3, by rw [h 4 (by omega)]; exact o4, by rw [h 8 (by omega)]; exact o5, hk⟩
theorem okS_congr' {t t' : Nat → Int32} (h : ∀ j, (j = 0 ∨ j = 1 ∨ j = 3 ∨ j = 4 ∨ j = 8 ∨ 118 ≤ j) → t' j = t j) (ho : okS t) : okS t' :=
  okS_congr (fun j hj => h j (by omega)) (fun k hk => by rw [h _ (by omega)]; exact ho.2.2.2.2.2 k hk) ho
def f_pot (t : Nat → Int32) : Nat := (t 3).toNatClampNeg
def f_n (t : Nat → Int32) : Nat := (t 0).toNatClampNeg
def f_nt (t : Nat → Int32) : Nat := (t 1).toNatClampNeg
def f_cell (t : Nat → Int32) (k : Nat) : Nat := (t (118 + 3 * k + 1)).toNatClampNeg
theorem okS.pot {t : Nat → Int32} (h : okS t) : f_pot t < 36 ∧ t 3 = nI (f_pot t) := by
  obtain ⟨c, hc, e⟩ := h.2.2.1
  have : f_pot t = c := qcl c e (by omega)
  rw [this]; exact ⟨hc, e⟩
theorem okS.n {t : Nat → Int32} (h : okS t) : f_n t ≤ 8 ∧ t 0 = nI (f_n t) := by
  obtain ⟨c, hc, e⟩ := h.1
  have : f_n t = c := qcl c e (by omega)
  rw [this]; exact ⟨hc, e⟩
theorem okS.nt {t : Nat → Int32} (h : okS t) : f_nt t ≤ 14 ∧ t 1 = nI (f_nt t) ∧ ∀ i, i < f_nt t → okTx t (142 + 200 * i) := by
  obtain ⟨c, hc, e, g⟩ := h.2.1
  have : f_nt t = c := qcl c e (by omega)
  rw [this]; exact ⟨hc, e, g⟩
theorem okS.cell {t : Nat → Int32} (h : okS t) {k : Nat} (hk : k < 8) : f_cell t k < 36 ∧ t (118 + 3 * k + 1) = nI (f_cell t k) := by
  obtain ⟨c, hc, e⟩ := h.2.2.2.2.2 k hk
  have : f_cell t k = c := qcl c e (by omega)
  rw [this]; exact ⟨hc, e⟩
theorem okS.thick {t : Nat → Int32} (h : okS t) : ¬ 1 + t 8 = 0 := by
  obtain ⟨n, hn, e⟩ := h.2.2.2.2.1
  rw [e, show (1 : Int32) + nI n = nI (1 + n) from nI_add 1 n]
  exact nI_ne0 (by omega) (by omega)
/-- the names of boil -/
def f_bn (t : Nat → Int32) : Nat → Int32 := fun j => if j = 98 then t 7 else if j = 116 then t 2 else t (82 + f_pot t)
def f_m (t : Nat → Int32) (i : Nat) : Nat := (t (142 + 200 * i + 2)).toNatClampNeg
def f_pours (t : Nat → Int32) : Int32 := match f_cnt t 0 (f_nt t) with
  | none => t 7
  | some i => f_w (f_val t (f_bn t) (142 + 200 * i) (f_m t i)) 99
def f_pour (t : Nat → Int32) : Nat → Int32 := upd t (82 + f_pot t) (t (82 + f_pot t) + if t 4 = 1 then f_pours t else 0)
def f_flows (t : Nat → Int32) : Nat → Nat → Int32
  | 0 => t
  | c + 1 => f_flow (f_flows t c) c
def f_dns (t : Nat → Int32) : Nat → Int32 × (Nat → Int32)
  | 0 => (0, t)
  | k + 1 => ((f_dns t k).1 + f_ate (f_dns t k).2 k (f_cell (f_dns t k).2 k), f_dine (f_dns t k).2 k (f_cell (f_dns t k).2 k))
def f_rem (x d : Int32) : Int32 := x - x / d * d
def f_dr (t : Nat → Int32) : Nat → Int32 := upd t 5 (f_z (t 5))
def f_at (t : Nat → Int32) : Nat := 46 + (f_rem (f_g (t 5)) 36).toNatClampNeg
def f_bite (t : Nat → Int32) : Nat → Int32 := upd t (f_at t) (f_w (t (f_at t) - 1) 25)
def f_mice (t : Nat → Int32) : Nat → Int32 := if t 9 ≤ f_rem (f_g (f_z (t 5))) 100 then f_dr t else f_bite (f_dr (f_dr t))
def f_tick (t : Nat → Int32) : Nat → Int32 := upd t 2 (t 2 + 1)
def f_fed (t : Nat → Int32) : Int32 × (Nat → Int32) := f_dns (f_flows (f_pour t) 36) (f_n t)
def f_pass (t : Nat → Int32) : Nat → Int32 := f_tick (f_mice (f_fed t).2)
/-- f_g: 24 bits -/
theorem f_g_nat (z : Int32) : ∃ j, j < 16777216 ∧ f_g z = nI j := by
  have e : (f_g z).toBitVec.toNat = z.toBitVec.toNat / 2 ^ 8 := pk_ushr z 8 8 (by decide)
  have h : z.toBitVec.toNat < 2 ^ 32 := z.toBitVec.isLt
  refine ⟨z.toBitVec.toNat / 2 ^ 8, by omega, ?_⟩
  apply Int32.toBitVec_inj.mp
  apply BitVec.eq_of_toNat_eq
  rw [e, pk_tn (by omega)]
theorem f_rem_g (z : Int32) {d : Nat} (hd : 0 < d) (hd2 : d < 2147483648) : ∃ j, j < d ∧ f_rem (f_g z) (nI d) = nI j := by
  obtain ⟨j, hj, e⟩ := f_g_nat z
  refine ⟨j % d, Nat.mod_lt _ hd, ?_⟩
  unfold f_rem
  rw [e]
  exact pk_rem (by omega) hd (by omega)
theorem f_at_lt (t : Nat → Int32) : 46 ≤ f_at t ∧ f_at t < 82 ∧ (46 : Int32) + f_rem (f_g (t 5)) 36 = nI (f_at t) := by
  obtain ⟨j, hj, e⟩ := f_rem_g (t 5) (d := 36) (by omega) (by omega)
  have e' : f_rem (f_g (t 5)) 36 = nI j := e
  unfold f_at
  rw [e', nI_clamp (by omega)]
  exact ⟨by omega, by omega, nI_add 46 j⟩
/-! what each step leaves as it was -/
theorem f_flow_out (t : Nat → Int32) {c : Nat} (hc : c < 36) {j : Nat} (hj : j < 82 ∨ 118 ≤ j) : f_flow t c j = t j := by
  have h := (f_low_some t hc).2
  unfold f_flow
  split
  · rfl
  · dsimp only
    rw [upd_ne _ _ (by omega), upd_ne _ _ (by omega)]
theorem f_flows_out (t : Nat → Int32) : ∀ {n : Nat}, n ≤ 36 → ∀ {j : Nat}, (j < 82 ∨ 118 ≤ j) → f_flows t n j = t j
  | 0, _, _, _ => rfl
  | n + 1, h, j, hj => by rw [f_flows, f_flow_out _ (by omega) hj, f_flows_out t (by omega) hj]
theorem f_pour_out (t : Nat → Int32) (h : f_pot t < 36) {j : Nat} (hj : j < 82 ∨ 118 ≤ j) : f_pour t j = t j := by
  unfold f_pour; rw [upd_ne _ _ (by omega)]
theorem f_dine_out (t : Nat → Int32) {k c : Nat} (hk : k < 8) (hc : c < 36) {j : Nat} (hj : j < 82 ∨ 142 ≤ j) : f_dine t k c j = t j := by
  unfold f_dine f_goes f_eaten
  split
  · rw [upd_ne _ _ (by omega), upd_ne _ _ (by omega), upd_ne _ _ (by omega)]
  · rw [upd_ne _ _ (by omega), upd_ne _ _ (by omega)]
theorem f_dine_cell (t : Nat → Int32) {k c : Nat} (hk : k < 8) (hc : c < 36) {i : Nat} (hi : i < 8) (h : ∃ d, d < 36 ∧ t (118 + 3 * i + 1) = nI d) : ∃ d, d < 36 ∧ f_dine t k c (118 + 3 * i + 1) = nI d := by
  have e : f_eaten t k c (118 + 3 * i + 1) = t (118 + 3 * i + 1) := by
    unfold f_eaten
    rw [upd_ne _ _ (by omega), upd_ne _ _ (by omega)]
  unfold f_dine f_goes
  split
  · by_cases hik : i = k
    · subst hik
      rw [upd_at]
      refine ⟨_, ?_, rfl⟩
      unfold f_to
      cases hm : f_mostN (f_eaten t i c) (f_wades (f_eaten t i c (118 + 3 * i + 0))) c 4 with
      | none => exact hc
      | some q => exact (f_pk_lt hc 4 q hm).1
    · rw [upd_ne _ _ (by omega), e]; exact h
  · rw [e]; exact h
theorem f_dr_out (t : Nat → Int32) {j : Nat} (hj : j ≠ 5) : f_dr t j = t j := upd_ne _ _ hj
theorem f_mice_out (t : Nat → Int32) {j : Nat} (hj : j ≠ 5) (hj2 : j < 46 ∨ 82 ≤ j) : f_mice t j = t j := by
  unfold f_mice
  split
  · exact f_dr_out t hj
  · unfold f_bite
    have := f_at_lt (f_dr (f_dr t))
    rw [upd_ne _ _ (by omega), f_dr_out _ hj, f_dr_out _ hj]
theorem f_dns_ok (t : Nat → Int32) (h : okS t) : ∀ {k : Nat}, k ≤ 8 → okS (f_dns t k).2 ∧ ∀ j, (j < 82 ∨ 142 ≤ j) → (f_dns t k).2 j = t j
  | 0, _ => ⟨h, fun _ _ => rfl⟩
  | k + 1, hk => by
    obtain ⟨ih1, ih2⟩ := f_dns_ok t h (k := k) (by omega)
    have hc := (ih1.cell (k := k) (by omega)).1
    refine ⟨okS_congr (fun j hj => f_dine_out _ (by omega) hc (by omega)) (fun i hi => f_dine_cell _ (by omega) hc hi (ih1.2.2.2.2.2 i hi)) ih1, fun j hj => ?_⟩
    rw [f_dns]
    dsimp only
    rw [f_dine_out _ (by omega) hc hj, ih2 j hj]
theorem okS_pour {t : Nat → Int32} (h : okS t) : okS (f_pour t) := okS_congr' (fun j hj => f_pour_out t h.pot.1 (by omega)) h
theorem okS_flows {t : Nat → Int32} (h : okS t) {n : Nat} (hn : n ≤ 36) : okS (f_flows t n) := okS_congr' (fun j hj => f_flows_out t hn (by omega)) h
theorem f_fed_ok {t : Nat → Int32} (h : okS t) : okS (f_fed t).2 ∧ ∀ j, (j < 82 ∨ 142 ≤ j) → (f_fed t).2 j = t j := by
  have h1 := okS_flows (okS_pour h) (n := 36) (by omega)
  obtain ⟨a, b⟩ := f_dns_ok (f_flows (f_pour t) 36) h1 (k := f_n t) h.n.1
  refine ⟨a, fun j hj => ?_⟩
  unfold f_fed
  rw [b j hj, f_flows_out _ (by omega) (by omega), f_pour_out t h.pot.1 (by omega)]
theorem f_pass_out {t : Nat → Int32} (h : okS t) {j : Nat} (hj : (j < 46 ∨ 142 ≤ j) ∧ j ≠ 2 ∧ j ≠ 5) : f_pass t j = t j := by
  unfold f_pass f_tick
  rw [upd_ne _ _ hj.2.1, f_mice_out _ hj.2.2 (by omega), (f_fed_ok h).2 j (by omega)]
theorem okS_pass {t : Nat → Int32} (h : okS t) : okS (f_pass t) := by
  refine okS_congr (t := (f_fed t).2) (fun j hj => ?_) (fun k hk => ?_) (f_fed_ok h).1
  · unfold f_pass f_tick
    rw [upd_ne _ _ (by omega), f_mice_out _ (by omega) (by omega)]
  · unfold f_pass f_tick
    rw [upd_ne _ _ (by omega), f_mice_out _ (by omega) (by omega)]
    exact (f_fed_ok h).1.2.2.2.2.2 k hk
