/-! the sheets' methods -/
theorem mm_fw20 (g : Int32) : (if (0 : Int32) < (if g < 20 then g else 20) then (if g < 20 then g else 20) else 0) = f_w g 20 := by
  have z0' : (0 : Int32).toInt = 0 := rfl
  have z99 : (20 : Int32).toInt = 20 := rfl
  unfold f_w
  by_cases h1 : g < 20
  · rw [if_pos h1]
    rw [i_lt, z99] at h1
    have n2 : ¬ (20 : Int32) < g := by rw [i_lt, z99]; omega
    rw [if_neg n2]
    by_cases h2 : 0 < g
    · rw [if_pos h2]
      rw [i_lt, z0'] at h2
      rw [if_neg (by rw [i_lt, z0']; omega)]
    · rw [if_neg h2]
      by_cases h3 : g < 0
      · rw [if_pos h3]
      · rw [if_neg h3]
        rw [i_lt, z0'] at h2 h3
        exact (i_eq _ _).mpr (by rw [z0']; omega)
  · rw [if_neg h1, if_pos (by decide)]
    rw [i_lt, z99] at h1
    rw [if_neg (by rw [i_lt, z0']; omega)]
    by_cases h2 : (20 : Int32) < g
    · rw [if_pos h2]
    · rw [if_neg h2]
      rw [i_lt, z99] at h2
      exact (i_eq _ _).mpr (by rw [z99]; omega)
def okRow (f : Nat → Int32) : Prop := ∀ j, j < 24 → f j = -1000000005 ∨ qIn (-99999) 99999 (f j)
theorem abs_off {r p : Int32} (hr : qIn (-99999) 99999 r) (hp : 0 ≤ p.toInt) (hp2 : p.toInt < 1073741824) : (if 0 ≤ p - r then p - r else 0 - (p - r)) = if r < p then p - r else r - p := by
  have e : (p - r).toInt = p.toInt - r.toInt := i_sub (by have := hr.1; have := hr.2; omega) (by have := hr.1; have := hr.2; omega)
  by_cases h : r < p
  · rw [if_pos h, if_pos (by rw [i_le, e, show (0 : Int32).toInt = 0 from rfl]; rw [i_lt] at h; omega)]
  · rw [if_neg h]
    rw [i_lt] at h
    by_cases h2 : 0 ≤ p - r
    · rw [if_pos h2]
      rw [i_le, e, show (0 : Int32).toInt = 0 from rfl] at h2
      have : p = r := (i_eq _ _).mpr (by omega)
      rw [this]
    · rw [if_neg h2, Int32.zero_sub, Int32.neg_sub]
section POT
variable {A A1 : qA} {F : qF} {X : qX} {Q : pz_Q} {M : pz_M}
theorem cS0_hasPlace {x : Int32} {n : Nat} (hn : F 14 = nI n) (hb : n < 2147483648) (h1 : qIn 0 ((n : Int) - 1) x → Q (some (.int 1)) (mem A F X)) (h0 : ¬ qIn 0 ((n : Int) - 1) x → Q (some (.int 0)) (mem A F X)) : pz_C yX4_hasPlace KX4_hasPlace [.ref 46, .int x] (mem A F X) Q := by
  refine pz_C_of rfl rfl rfl (Nat.le_of_ble_eq_true rfl) (pz_wp_ok (pz_Is_ok SX4_hasPlace) [] 100 ?_)
  refine cP_within 0 ((n : Int) - 1) rfl ?_ (fun g => ⟨Or.inr rfl, h1 g⟩) (fun g => ⟨Or.inl rfl, h0 g⟩)
  show (F 14 - 1).toInt = _
  rw [hn]
  exact n_sub1 hb
theorem cS0_isNumber {x : Int32} {n : Nat} (hx : x = nI n) (hb : n < 24) (h1 : ¬ A 10 n = -1000000005 → Q (some (.int 1)) (mem A F X)) (h0 : A 10 n = -1000000005 → Q (some (.int 0)) (mem A F X)) : pz_C yX4_isNumber KX4_isNumber [.ref 46, .int x] (mem A F X) Q := by
  refine pz_C_of rfl rfl rfl (Nat.le_of_ble_eq_true rfl) (pz_wp_ok (pz_Is_ok SX4_isNumber) [] 100 ?_)
  have cx := qcl _ hx (by omega)
  refine ⟨qin _ hx hb (by omega), ?_⟩
  rw [cx]
  exact ⟨fun g => ⟨Or.inl rfl, h0 g⟩, fun g => ⟨Or.inr rfl, h1 g⟩⟩
theorem cS1_hasPlace {x : Int32} {n : Nat} (hn : F 15 = nI n) (hb : n < 2147483648) (h1 : qIn 0 ((n : Int) - 1) x → Q (some (.int 1)) (mem A F X)) (h0 : ¬ qIn 0 ((n : Int) - 1) x → Q (some (.int 0)) (mem A F X)) : pz_C yX4_hasPlace KX4_hasPlace [.ref 48, .int x] (mem A F X) Q := by
  refine pz_C_of rfl rfl rfl (Nat.le_of_ble_eq_true rfl) (pz_wp_ok (pz_Is_ok SX4_hasPlace) [] 100 ?_)
  refine cP_within 0 ((n : Int) - 1) rfl ?_ (fun g => ⟨Or.inr rfl, h1 g⟩) (fun g => ⟨Or.inl rfl, h0 g⟩)
  show (F 15 - 1).toInt = _
  rw [hn]
  exact n_sub1 hb
theorem cS1_isNumber {x : Int32} {n : Nat} (hx : x = nI n) (hb : n < 24) (h1 : ¬ A 11 n = -1000000005 → Q (some (.int 1)) (mem A F X)) (h0 : A 11 n = -1000000005 → Q (some (.int 0)) (mem A F X)) : pz_C yX4_isNumber KX4_isNumber [.ref 48, .int x] (mem A F X) Q := by
  refine pz_C_of rfl rfl rfl (Nat.le_of_ble_eq_true rfl) (pz_wp_ok (pz_Is_ok SX4_isNumber) [] 100 ?_)
  have cx := qcl _ hx (by omega)
  refine ⟨qin _ hx hb (by omega), ?_⟩
  rw [cx]
  exact ⟨fun g => ⟨Or.inl rfl, h0 g⟩, fun g => ⟨Or.inr rfl, h1 g⟩⟩
theorem cS2_hasPlace {x : Int32} {n : Nat} (hn : F 16 = nI n) (hb : n < 2147483648) (h1 : qIn 0 ((n : Int) - 1) x → Q (some (.int 1)) (mem A F X)) (h0 : ¬ qIn 0 ((n : Int) - 1) x → Q (some (.int 0)) (mem A F X)) : pz_C yX4_hasPlace KX4_hasPlace [.ref 50, .int x] (mem A F X) Q := by
  refine pz_C_of rfl rfl rfl (Nat.le_of_ble_eq_true rfl) (pz_wp_ok (pz_Is_ok SX4_hasPlace) [] 100 ?_)
  refine cP_within 0 ((n : Int) - 1) rfl ?_ (fun g => ⟨Or.inr rfl, h1 g⟩) (fun g => ⟨Or.inl rfl, h0 g⟩)
  show (F 16 - 1).toInt = _
  rw [hn]
  exact n_sub1 hb
theorem cS2_isNumber {x : Int32} {n : Nat} (hx : x = nI n) (hb : n < 24) (h1 : ¬ A 12 n = -1000000005 → Q (some (.int 1)) (mem A F X)) (h0 : A 12 n = -1000000005 → Q (some (.int 0)) (mem A F X)) : pz_C yX4_isNumber KX4_isNumber [.ref 50, .int x] (mem A F X) Q := by
  refine pz_C_of rfl rfl rfl (Nat.le_of_ble_eq_true rfl) (pz_wp_ok (pz_Is_ok SX4_isNumber) [] 100 ?_)
  have cx := qcl _ hx (by omega)
  refine ⟨qin _ hx hb (by omega), ?_⟩
  rw [cx]
  exact ⟨fun g => ⟨Or.inl rfl, h0 g⟩, fun g => ⟨Or.inr rfl, h1 g⟩⟩
theorem cS3_hasPlace {x : Int32} {n : Nat} (hn : F 17 = nI n) (hb : n < 2147483648) (h1 : qIn 0 ((n : Int) - 1) x → Q (some (.int 1)) (mem A F X)) (h0 : ¬ qIn 0 ((n : Int) - 1) x → Q (some (.int 0)) (mem A F X)) : pz_C yX4_hasPlace KX4_hasPlace [.ref 52, .int x] (mem A F X) Q := by
  refine pz_C_of rfl rfl rfl (Nat.le_of_ble_eq_true rfl) (pz_wp_ok (pz_Is_ok SX4_hasPlace) [] 100 ?_)
  refine cP_within 0 ((n : Int) - 1) rfl ?_ (fun g => ⟨Or.inr rfl, h1 g⟩) (fun g => ⟨Or.inl rfl, h0 g⟩)
  show (F 17 - 1).toInt = _
  rw [hn]
  exact n_sub1 hb
theorem cS3_isNumber {x : Int32} {n : Nat} (hx : x = nI n) (hb : n < 24) (h1 : ¬ A 13 n = -1000000005 → Q (some (.int 1)) (mem A F X)) (h0 : A 13 n = -1000000005 → Q (some (.int 0)) (mem A F X)) : pz_C yX4_isNumber KX4_isNumber [.ref 52, .int x] (mem A F X) Q := by
  refine pz_C_of rfl rfl rfl (Nat.le_of_ble_eq_true rfl) (pz_wp_ok (pz_Is_ok SX4_isNumber) [] 100 ?_)
  have cx := qcl _ hx (by omega)
  refine ⟨qin _ hx hb (by omega), ?_⟩
  rw [cx]
  exact ⟨fun g => ⟨Or.inl rfl, h0 g⟩, fun g => ⟨Or.inr rfl, h1 g⟩⟩
theorem cS4_hasPlace {x : Int32} {n : Nat} (hn : F 45 = nI n) (hb : n < 2147483648) (h1 : qIn 0 ((n : Int) - 1) x → Q (some (.int 1)) (mem A F X)) (h0 : ¬ qIn 0 ((n : Int) - 1) x → Q (some (.int 0)) (mem A F X)) : pz_C yX4_hasPlace KX4_hasPlace [.ref 55, .int x] (mem A F X) Q := by
  refine pz_C_of rfl rfl rfl (Nat.le_of_ble_eq_true rfl) (pz_wp_ok (pz_Is_ok SX4_hasPlace) [] 100 ?_)
  refine cP_within 0 ((n : Int) - 1) rfl ?_ (fun g => ⟨Or.inr rfl, h1 g⟩) (fun g => ⟨Or.inl rfl, h0 g⟩)
  show (F 45 - 1).toInt = _
  rw [hn]
  exact n_sub1 hb
theorem cS4_isNumber {x : Int32} {n : Nat} (hx : x = nI n) (hb : n < 24) (h1 : ¬ A 14 n = -1000000005 → Q (some (.int 1)) (mem A F X)) (h0 : A 14 n = -1000000005 → Q (some (.int 0)) (mem A F X)) : pz_C yX4_isNumber KX4_isNumber [.ref 55, .int x] (mem A F X) Q := by
  refine pz_C_of rfl rfl rfl (Nat.le_of_ble_eq_true rfl) (pz_wp_ok (pz_Is_ok SX4_isNumber) [] 100 ?_)
  have cx := qcl _ hx (by omega)
  refine ⟨qin _ hx hb (by omega), ?_⟩
  rw [cx]
  exact ⟨fun g => ⟨Or.inl rfl, h0 g⟩, fun g => ⟨Or.inr rfl, h1 g⟩⟩
theorem cS5_hasPlace {x : Int32} {n : Nat} (hn : F 46 = nI n) (hb : n < 2147483648) (h1 : qIn 0 ((n : Int) - 1) x → Q (some (.int 1)) (mem A F X)) (h0 : ¬ qIn 0 ((n : Int) - 1) x → Q (some (.int 0)) (mem A F X)) : pz_C yX4_hasPlace KX4_hasPlace [.ref 58, .int x] (mem A F X) Q := by
  refine pz_C_of rfl rfl rfl (Nat.le_of_ble_eq_true rfl) (pz_wp_ok (pz_Is_ok SX4_hasPlace) [] 100 ?_)
  refine cP_within 0 ((n : Int) - 1) rfl ?_ (fun g => ⟨Or.inr rfl, h1 g⟩) (fun g => ⟨Or.inl rfl, h0 g⟩)
  show (F 46 - 1).toInt = _
  rw [hn]
  exact n_sub1 hb
theorem cS5_isNumber {x : Int32} {n : Nat} (hx : x = nI n) (hb : n < 24) (h1 : ¬ A 15 n = -1000000005 → Q (some (.int 1)) (mem A F X)) (h0 : A 15 n = -1000000005 → Q (some (.int 0)) (mem A F X)) : pz_C yX4_isNumber KX4_isNumber [.ref 58, .int x] (mem A F X) Q := by
  refine pz_C_of rfl rfl rfl (Nat.le_of_ble_eq_true rfl) (pz_wp_ok (pz_Is_ok SX4_isNumber) [] 100 ?_)
  have cx := qcl _ hx (by omega)
  refine ⟨qin _ hx hb (by omega), ?_⟩
  rw [cx]
  exact ⟨fun g => ⟨Or.inl rfl, h0 g⟩, fun g => ⟨Or.inr rfl, h1 g⟩⟩
theorem cS6_hasPlace {x : Int32} {n : Nat} (hn : F 47 = nI n) (hb : n < 2147483648) (h1 : qIn 0 ((n : Int) - 1) x → Q (some (.int 1)) (mem A F X)) (h0 : ¬ qIn 0 ((n : Int) - 1) x → Q (some (.int 0)) (mem A F X)) : pz_C yX4_hasPlace KX4_hasPlace [.ref 61, .int x] (mem A F X) Q := by
  refine pz_C_of rfl rfl rfl (Nat.le_of_ble_eq_true rfl) (pz_wp_ok (pz_Is_ok SX4_hasPlace) [] 100 ?_)
  refine cP_within 0 ((n : Int) - 1) rfl ?_ (fun g => ⟨Or.inr rfl, h1 g⟩) (fun g => ⟨Or.inl rfl, h0 g⟩)
  show (F 47 - 1).toInt = _
  rw [hn]
  exact n_sub1 hb
theorem cS6_isNumber {x : Int32} {n : Nat} (hx : x = nI n) (hb : n < 24) (h1 : ¬ A 16 n = -1000000005 → Q (some (.int 1)) (mem A F X)) (h0 : A 16 n = -1000000005 → Q (some (.int 0)) (mem A F X)) : pz_C yX4_isNumber KX4_isNumber [.ref 61, .int x] (mem A F X) Q := by
  refine pz_C_of rfl rfl rfl (Nat.le_of_ble_eq_true rfl) (pz_wp_ok (pz_Is_ok SX4_isNumber) [] 100 ?_)
  have cx := qcl _ hx (by omega)
  refine ⟨qin _ hx hb (by omega), ?_⟩
  rw [cx]
  exact ⟨fun g => ⟨Or.inl rfl, h0 g⟩, fun g => ⟨Or.inr rfl, h1 g⟩⟩
theorem cS7_hasPlace {x : Int32} {n : Nat} (hn : F 48 = nI n) (hb : n < 2147483648) (h1 : qIn 0 ((n : Int) - 1) x → Q (some (.int 1)) (mem A F X)) (h0 : ¬ qIn 0 ((n : Int) - 1) x → Q (some (.int 0)) (mem A F X)) : pz_C yX4_hasPlace KX4_hasPlace [.ref 64, .int x] (mem A F X) Q := by
  refine pz_C_of rfl rfl rfl (Nat.le_of_ble_eq_true rfl) (pz_wp_ok (pz_Is_ok SX4_hasPlace) [] 100 ?_)
  refine cP_within 0 ((n : Int) - 1) rfl ?_ (fun g => ⟨Or.inr rfl, h1 g⟩) (fun g => ⟨Or.inl rfl, h0 g⟩)
  show (F 48 - 1).toInt = _
  rw [hn]
  exact n_sub1 hb
theorem cS7_isNumber {x : Int32} {n : Nat} (hx : x = nI n) (hb : n < 24) (h1 : ¬ A 17 n = -1000000005 → Q (some (.int 1)) (mem A F X)) (h0 : A 17 n = -1000000005 → Q (some (.int 0)) (mem A F X)) : pz_C yX4_isNumber KX4_isNumber [.ref 64, .int x] (mem A F X) Q := by
  refine pz_C_of rfl rfl rfl (Nat.le_of_ble_eq_true rfl) (pz_wp_ok (pz_Is_ok SX4_isNumber) [] 100 ?_)
  have cx := qcl _ hx (by omega)
  refine ⟨qin _ hx hb (by omega), ?_⟩
  rw [cx]
  exact ⟨fun g => ⟨Or.inl rfl, h0 g⟩, fun g => ⟨Or.inr rfl, h1 g⟩⟩
theorem cS8_hasPlace {x : Int32} {n : Nat} (hn : F 49 = nI n) (hb : n < 2147483648) (h1 : qIn 0 ((n : Int) - 1) x → Q (some (.int 1)) (mem A F X)) (h0 : ¬ qIn 0 ((n : Int) - 1) x → Q (some (.int 0)) (mem A F X)) : pz_C yX4_hasPlace KX4_hasPlace [.ref 67, .int x] (mem A F X) Q := by
  refine pz_C_of rfl rfl rfl (Nat.le_of_ble_eq_true rfl) (pz_wp_ok (pz_Is_ok SX4_hasPlace) [] 100 ?_)
  refine cP_within 0 ((n : Int) - 1) rfl ?_ (fun g => ⟨Or.inr rfl, h1 g⟩) (fun g => ⟨Or.inl rfl, h0 g⟩)
  show (F 49 - 1).toInt = _
  rw [hn]
  exact n_sub1 hb
theorem cS8_isNumber {x : Int32} {n : Nat} (hx : x = nI n) (hb : n < 24) (h1 : ¬ A 18 n = -1000000005 → Q (some (.int 1)) (mem A F X)) (h0 : A 18 n = -1000000005 → Q (some (.int 0)) (mem A F X)) : pz_C yX4_isNumber KX4_isNumber [.ref 67, .int x] (mem A F X) Q := by
  refine pz_C_of rfl rfl rfl (Nat.le_of_ble_eq_true rfl) (pz_wp_ok (pz_Is_ok SX4_isNumber) [] 100 ?_)
  have cx := qcl _ hx (by omega)
  refine ⟨qin _ hx hb (by omega), ?_⟩
  rw [cx]
  exact ⟨fun g => ⟨Or.inl rfl, h0 g⟩, fun g => ⟨Or.inr rfl, h1 g⟩⟩
theorem cS0_isMissing (h1 : F 10 = -1 → Q (some (.int 1)) (mem A F X)) (h0 : ¬ F 10 = -1 → Q (some (.int 0)) (mem A F X)) : pz_C yX4_isMissing KX4_isMissing [.ref 46] (mem A F X) Q := by
  refine pz_C_of rfl rfl rfl (Nat.le_of_ble_eq_true rfl) (pz_wp_ok (pz_Is_ok SX4_isMissing) [] 100 ?_)
  exact ⟨fun g => ⟨Or.inl rfl, h0 g⟩, fun g => ⟨Or.inr rfl, h1 g⟩⟩
theorem cS0_hasPlaces {p m : Int32} {n : Nat} (hn : F 14 = nI n) (hb : n ≤ 24) (h1 : 0 ≤ p.toInt ∧ 0 ≤ m.toInt ∧ p.toInt + m.toInt ≤ (n : Int) → Q (some (.int 1)) (mem A F X)) (h0 : ¬ (0 ≤ p.toInt ∧ 0 ≤ m.toInt ∧ p.toInt + m.toInt ≤ (n : Int)) → Q (some (.int 0)) (mem A F X)) : pz_C yX4_hasPlaces KX4_hasPlaces [.ref 46, .int p, .int m] (mem A F X) Q := by
  refine pz_C_of rfl rfl rfl (Nat.le_of_ble_eq_true rfl) (pz_wp_ok (pz_Is_ok SX4_hasPlaces) [] 100 ?_)
  refine cP_within 0 (n : Int) rfl (by show (F 14).toInt = _; rw [hn, nIi (by omega)]) (fun g => ?_) (fun g => ?_)
  · refine br2 (by decide) ?_
    have e : (F 14 - m).toInt = (n : Int) - m.toInt := by
      rw [hn, i_sub (by rw [nIi (by omega)]; have := g.1; have := g.2; omega) (by rw [nIi (by omega)]; have := g.1; have := g.2; omega), nIi (by omega)]
    refine cP_within 0 ((n : Int) - m.toInt) rfl e (fun g2 => ?_) (fun g2 => ?_)
    · refine br2 (by decide) ?_
      exact ⟨Or.inr rfl, h1 ⟨g2.1, g.1, by have := g2.2; omega⟩⟩
    · refine br1 (fun z => z rfl) ?_
      exact ⟨Or.inl rfl, h0 (fun z => g2 ⟨z.1, by have := z.2.2; omega⟩)⟩
  · refine br1 (fun z => z rfl) ?_
    exact ⟨Or.inl rfl, h0 (fun z => g ⟨z.2.1, by have := z.2.2; have := z.1; omega⟩)⟩
set_option maxRecDepth 8000 in
theorem tS0_becomes {x1 x2 : Int32} (h : Q none (mem (va_up A 10 (qcp 24 (fun _ => 0) (A 10))) F X)) : ∀ (d k : Nat), k + d = 24 → pz_T z0 KX4_becomes Q 12 (0, 0) [some (.ref 46), some (.int x1), some (.int x2), some (.int (nI k))] [] (mem (va_up A 10 (qcp k (fun _ => 0) (A 10))) F X) := by
  intro d
  induction d with
  | zero =>
    intro k hk
    have hk : k = 24 := by omega
    subst hk
    refine pz_wp_ok (pz_Is_ok SX4_becomes) [12] 100 ?_
    refine br1 (fun z => z (nI_le (Nat.le_refl _) (by omega))) ?_
    exact h
  | succ d ih =>
    intro k hk
    refine pz_wp_ok (pz_Is_ok SX4_becomes) [12] 100 ?_
    refine br2 (n_ge (b := 24) (by omega) (by omega) (by omega)) ?_
    refine ⟨qin k rfl (by omega) (by omega), ?_⟩
    have ck := qcl (x := nI k) k rfl (by omega)
    rw [ck]
    have hh := ih (k + 1) (by omega)
    rw [← qcp_s, ← vu_vu A 10 (qcp k (fun _ => 0) (A 10))] at hh
    refine qT hh (by rw [← nI_1 k]; rfl) rfl ?_
    rfl
set_option maxRecDepth 8000 in
theorem cS0_becomes {so n : Int32} (h : Q none (mem (va_up A 10 (qcp 24 (fun _ => 0) (A 10))) (upd (upd F 10 so) 14 n) X)) : pz_C yX4_becomes KX4_becomes [.ref 46, .int so, .int n] (mem A F X) Q := by
  refine pz_C_of rfl rfl rfl (Nat.le_of_ble_eq_true rfl) (pz_wp_ok (pz_Is_ok SX4_becomes) [12] 100 ?_)
  have hh := tS0_becomes (F := upd (upd F 10 so) 14 n) (x1 := so) (x2 := n) h 24 0 (by omega)
  rw [qcp_0, vu_s] at hh
  exact hh
set_option maxRecDepth 8000 in
theorem tS0_differs {n : Nat} (hn : F 14 = nI n) (hb : n ≤ 24) (hr : okRow (A 10)) (hp : ∀ c, c < 36 → 0 ≤ (A 2 (82 + c)).toInt ∧ (A 2 (82 + c)).toInt < 1073741824) (h : Q (some (.int (f_dif (A 10) (A 2) n))) (mem A F X)) : ∀ (d k : Nat), k + d = n → pz_T z0 KX4_differsFrom Q 4 (0, 0) [some (.ref 46), some (.ref 23), some (.int (f_dif (A 10) (A 2) k)), some (.int (nI k))] [] (mem A F X) := by
  intro d
  induction d with
  | zero =>
    intro k hk
    have hk : k = n := by omega
    subst hk
    refine pz_wp_ok (pz_Is_ok SX4_differsFrom) [4] 100 ?_
    refine br1 (fun z => z ?_) h
    show F 14 ≤ nI k
    rw [hn]
    exact nI_le (Nat.le_refl _) (by omega)
  | succ d ih =>
    intro k hk
    have ck := qcl (x := nI k) k rfl (by omega)
    have ih' := ih (k + 1) (by omega)
    rw [f_dif] at ih'
    refine pz_wp_ok (pz_Is_ok SX4_differsFrom) [4] 100 ?_
    refine br2 (fun z => ?_) ?_
    · have z : F 14 ≤ nI k := z
      rw [hn] at z
      exact n_ge (by omega) (by omega) (by omega) z
    generalize f_dif (A 10) (A 2) k = sm at ih' ⊢
    refine cS0_isNumber rfl (show k < 24 by omega) (fun g => ?_) (fun g => ?_)
    · rw [if_neg g] at ih'
      refine br2 (by decide) ?_
      refine ⟨qin k rfl (by omega) (by omega), ?_⟩
      refine ⟨qin k rfl (by omega) (by omega), ?_⟩
      rw [ck, qm_1 (show k < 36 by omega)]
      obtain ⟨p1, p2⟩ := hp k (by omega)
      rw [← abs_off ((hr k (by omega)).elim (fun z => absurd z g) id) p1 p2] at ih'
      exact qT ih' (by rw [← nI_1 k]; rfl) rfl rfl
    · rw [if_pos g, Int32.add_zero] at ih'
      refine br1 (fun z => z rfl) ?_
      exact qT ih' (by rw [← nI_1 k]; rfl) rfl rfl
theorem cS0_differs {n : Nat} (hn : F 14 = nI n) (hb : n ≤ 24) (hr : okRow (A 10)) (hp : ∀ c, c < 36 → 0 ≤ (A 2 (82 + c)).toInt ∧ (A 2 (82 + c)).toInt < 1073741824) (h : Q (some (.int (f_dif (A 10) (A 2) n))) (mem A F X)) : pz_C yX4_differsFrom KX4_differsFrom [.ref 46, .ref 23] (mem A F X) Q := by
  refine pz_C_of rfl rfl rfl (Nat.le_of_ble_eq_true rfl) (pz_wp_ok (pz_Is_ok SX4_differsFrom) [4] 100 ?_)
  exact tS0_differs hn hb hr hp h n 0 (by omega)
set_option maxRecDepth 8000 in
theorem tS0_unlike {n : Nat} (hn : F 14 = nI n) (hb : n ≤ 24) {r : Int32} (h : Q (some (.int r)) (mem A F X)) : ∀ (d k : Nat), k + d = n → r = f_rd (A 10) (A 0) d k → pz_T z0 KX4_firstUnlike Q 2 (0, 0) [some (.ref 46), some (.ref 7), some (.int (nI k))] [] (mem A F X) := by
  intro d
  induction d with
  | zero =>
    intro k hk e
    refine pz_wp_ok (pz_Is_ok SX4_firstUnlike) [2] 100 ?_
    rw [f_rd] at e
    subst e
    refine br1 (fun z => z ?_) h
    show F 14 ≤ nI k
    rw [hn]
    exact nI_le (by omega) (by omega)
  | succ d ih =>
    intro k hk e
    have ck := qcl (x := nI k) k rfl (by omega)
    rw [f_rd] at e
    refine pz_wp_ok (pz_Is_ok SX4_firstUnlike) [2] 100 ?_
    refine br2 (fun z => ?_) ?_
    · have z : F 14 ≤ nI k := z
      rw [hn] at z
      exact n_ge (by omega) (by omega) (by omega) z
    refine cS0_isNumber rfl (show k < 24 by omega) (fun g => ?_) (fun g => ?_)
    · refine br2 (by decide) ?_
      refine ⟨qin k rfl (by omega) (by omega), ?_⟩
      refine ⟨qin k rfl (by omega) (by omega), ?_⟩
      rw [ck, qm_1 (show k < 36 by omega)]
      refine ⟨fun g2 => ?_, fun g2 => ?_⟩
      · have g2 : A 0 (82 + k) = A 10 k := g2
        rw [if_neg (fun z => z.2 g2.symm)] at e
        exact qT (ih (k + 1) (by omega) e) (by rw [← nI_1 k]; rfl) rfl rfl
      · have g2 : ¬ A 0 (82 + k) = A 10 k := g2
        rw [if_pos ⟨g, fun z => g2 z.symm⟩] at e
        subst e
        exact h
    · rw [if_neg (fun z => z.1 g)] at e
      refine br1 (fun z => z rfl) ?_
      exact qT (ih (k + 1) (by omega) e) (by rw [← nI_1 k]; rfl) rfl rfl
theorem cS0_unlike {n : Nat} (hn : F 14 = nI n) (hb : n ≤ 24) (h : Q (some (.int (f_rd (A 10) (A 0) n 0))) (mem A F X)) : pz_C yX4_firstUnlike KX4_firstUnlike [.ref 46, .ref 7] (mem A F X) Q := by
  refine pz_C_of rfl rfl rfl (Nat.le_of_ble_eq_true rfl) (pz_wp_ok (pz_Is_ok SX4_firstUnlike) [2] 100 ?_)
  exact tS0_unlike hn hb h n 0 (by omega) rfl
set_option maxRecDepth 8000 in
theorem tS0_pours {n : Nat} {t0 row : Nat → Int32} (hn : F 14 = nI n) (hb : n ≤ 24) (hrow : A 10 = row) (h : Q (some (.int (f_pr row t0 n).1)) (mem (va_up A 0 (f_pr row t0 n).2) F X)) : ∀ (d k : Nat), k + d = n → ∀ x4 : Option Value, pz_T z0 KX4_poursInto Q 4 (0, 0) [some (.ref 46), some (.ref 5), some (.int (f_pr row t0 k).1), some (.int (nI k)), x4] [] (mem (va_up A 0 (f_pr row t0 k).2) F X) := by
  intro d
  induction d with
  | zero =>
    intro k hk x4
    have hk : k = n := by omega
    subst hk
    generalize f_pr row t0 k = r at h ⊢
    refine pz_wp_ok (pz_Is_ok SX4_poursInto) [4] 100 ?_
    refine br1 (fun z => z ?_) h
    show F 14 ≤ nI k
    rw [hn]
    exact nI_le (Nat.le_refl _) (by omega)
  | succ d ih =>
    intro k hk x4
    have ck := qcl (x := nI k) k rfl (by omega)
    have ih' := ih (k + 1) (by omega)
    rw [f_pr] at ih'
    have hk24 : k < 24 := by omega
    have hk36 : k < 36 := by omega
    have ek : nI k + 1 = nI (k + 1) := nI_1 k
    rw [← ek] at ih'
    dsimp only at ih'
    generalize (f_pr row t0 k).1 = cnt at ih' ⊢
    generalize (f_pr row t0 k).2 = t at ih' ⊢
    have fin : ∀ v : Int32, v = f_is row t k → pz_T z0 KX4_poursInto Q 46 (0, 0) [some (.ref 46), some (.ref 5), some (.int cnt), some (.int (nI k)), some (.int v)] [] (mem (va_up A 0 t) F X) := fun v hv => by
      rw [← hv] at ih'
      refine pz_wp_ok (pz_Is_ok SX4_poursInto) [4] 100 ?_
      refine ⟨qin k rfl hk36 (by omega), ?_⟩
      have eh : qm 36 10 1 (va_up A 0 t 0) (nI k).toNatClampNeg = t (10 + k) := by rw [ck, vu_at, qm_1 hk36]
      rw [eh]
      refine ⟨fun g => ?_, fun g => ?_⟩
      · have g : v = t (10 + k) := g
        rw [if_pos g, Int32.add_zero, g, upd_s] at ih'
        rw [g]
        exact ih' (some (.int (t (10 + k))))
      · have g : ¬ v = t (10 + k) := g
        rw [if_neg g] at ih'
        refine ⟨qin k rfl hk36 (by omega), ?_⟩
        rw [ck]
        have hm := mh0 (A := va_up A 0 t) (F := F) (X := X) hk36 v
        rw [vu_vu, vu_at] at hm
        exact qT (ih' (some (.int v))) rfl rfl hm
    refine pz_wp_ok (pz_Is_ok SX4_poursInto) [4, 46] 100 ?_
    refine br2 (fun z => ?_) ?_
    · have z : F 14 ≤ nI k := z
      rw [hn] at z
      exact n_ge (by omega) (by omega) (by omega) z
    have er : va_up A 0 t 10 k = row k := by rw [vu_ne _ _ (by omega), hrow]
    refine cS0_isNumber rfl hk24 (fun g => ?_) (fun g => ?_)
    · rw [er] at g
      refine br2 (by decide) ?_
      refine ⟨qin 0 rfl (by decide) (by decide), ?_⟩
      refine ⟨qin k rfl hk24 (by omega), ?_⟩
      rw [ck, er]
      refine fin _ ?_
      unfold f_is
      rw [if_neg g]
      exact mm_fw20 (row k)
    · rw [er] at g
      refine br1 (fun z => z rfl) ?_
      refine ⟨qin k rfl hk36 (by omega), ?_⟩
      have eh : qm 36 10 1 (va_up A 0 t 0) (nI k).toNatClampNeg = t (10 + k) := by rw [ck, vu_at, qm_1 hk36]
      rw [eh]
      refine fin _ ?_
      unfold f_is
      rw [if_pos g]
theorem cS0_pours {n : Nat} (hn : F 14 = nI n) (hb : n ≤ 24) (h : Q (some (.int (f_pr (A 10) (A 0) n).1)) (mem (va_up A 0 (f_pr (A 10) (A 0) n).2) F X)) : pz_C yX4_poursInto KX4_poursInto [.ref 46, .ref 5] (mem A F X) Q := by
  refine pz_C_of rfl rfl rfl (Nat.le_of_ble_eq_true rfl) (pz_wp_ok (pz_Is_ok SX4_poursInto) [4] 100 ?_)
  have hh := tS0_pours (t0 := A 0) (row := A 10) hn hb rfl h n 0 (by omega) none
  rw [f_pr, vu_s] at hh
  exact hh
theorem cS1_isMissing (h1 : F 11 = -1 → Q (some (.int 1)) (mem A F X)) (h0 : ¬ F 11 = -1 → Q (some (.int 0)) (mem A F X)) : pz_C yX4_isMissing KX4_isMissing [.ref 48] (mem A F X) Q := by
  refine pz_C_of rfl rfl rfl (Nat.le_of_ble_eq_true rfl) (pz_wp_ok (pz_Is_ok SX4_isMissing) [] 100 ?_)
  exact ⟨fun g => ⟨Or.inl rfl, h0 g⟩, fun g => ⟨Or.inr rfl, h1 g⟩⟩
theorem cS1_hasPlaces {p m : Int32} {n : Nat} (hn : F 15 = nI n) (hb : n ≤ 24) (h1 : 0 ≤ p.toInt ∧ 0 ≤ m.toInt ∧ p.toInt + m.toInt ≤ (n : Int) → Q (some (.int 1)) (mem A F X)) (h0 : ¬ (0 ≤ p.toInt ∧ 0 ≤ m.toInt ∧ p.toInt + m.toInt ≤ (n : Int)) → Q (some (.int 0)) (mem A F X)) : pz_C yX4_hasPlaces KX4_hasPlaces [.ref 48, .int p, .int m] (mem A F X) Q := by
  refine pz_C_of rfl rfl rfl (Nat.le_of_ble_eq_true rfl) (pz_wp_ok (pz_Is_ok SX4_hasPlaces) [] 100 ?_)
  refine cP_within 0 (n : Int) rfl (by show (F 15).toInt = _; rw [hn, nIi (by omega)]) (fun g => ?_) (fun g => ?_)
  · refine br2 (by decide) ?_
    have e : (F 15 - m).toInt = (n : Int) - m.toInt := by
      rw [hn, i_sub (by rw [nIi (by omega)]; have := g.1; have := g.2; omega) (by rw [nIi (by omega)]; have := g.1; have := g.2; omega), nIi (by omega)]
    refine cP_within 0 ((n : Int) - m.toInt) rfl e (fun g2 => ?_) (fun g2 => ?_)
    · refine br2 (by decide) ?_
      exact ⟨Or.inr rfl, h1 ⟨g2.1, g.1, by have := g2.2; omega⟩⟩
    · refine br1 (fun z => z rfl) ?_
      exact ⟨Or.inl rfl, h0 (fun z => g2 ⟨z.1, by have := z.2.2; omega⟩)⟩
  · refine br1 (fun z => z rfl) ?_
    exact ⟨Or.inl rfl, h0 (fun z => g ⟨z.2.1, by have := z.2.2; have := z.1; omega⟩)⟩
set_option maxRecDepth 8000 in
theorem tS1_becomes {x1 x2 : Int32} (h : Q none (mem (va_up A 11 (qcp 24 (fun _ => 0) (A 11))) F X)) : ∀ (d k : Nat), k + d = 24 → pz_T z0 KX4_becomes Q 12 (0, 0) [some (.ref 48), some (.int x1), some (.int x2), some (.int (nI k))] [] (mem (va_up A 11 (qcp k (fun _ => 0) (A 11))) F X) := by
  intro d
  induction d with
  | zero =>
    intro k hk
    have hk : k = 24 := by omega
    subst hk
    refine pz_wp_ok (pz_Is_ok SX4_becomes) [12] 100 ?_
    refine br1 (fun z => z (nI_le (Nat.le_refl _) (by omega))) ?_
    exact h
  | succ d ih =>
    intro k hk
    refine pz_wp_ok (pz_Is_ok SX4_becomes) [12] 100 ?_
    refine br2 (n_ge (b := 24) (by omega) (by omega) (by omega)) ?_
    refine ⟨qin k rfl (by omega) (by omega), ?_⟩
    have ck := qcl (x := nI k) k rfl (by omega)
    rw [ck]
    have hh := ih (k + 1) (by omega)
    rw [← qcp_s, ← vu_vu A 11 (qcp k (fun _ => 0) (A 11))] at hh
    refine qT hh (by rw [← nI_1 k]; rfl) rfl ?_
    rfl
set_option maxRecDepth 8000 in
theorem cS1_becomes {so n : Int32} (h : Q none (mem (va_up A 11 (qcp 24 (fun _ => 0) (A 11))) (upd (upd F 11 so) 15 n) X)) : pz_C yX4_becomes KX4_becomes [.ref 48, .int so, .int n] (mem A F X) Q := by
  refine pz_C_of rfl rfl rfl (Nat.le_of_ble_eq_true rfl) (pz_wp_ok (pz_Is_ok SX4_becomes) [12] 100 ?_)
  have hh := tS1_becomes (F := upd (upd F 11 so) 15 n) (x1 := so) (x2 := n) h 24 0 (by omega)
  rw [qcp_0, vu_s] at hh
  exact hh
set_option maxRecDepth 8000 in
theorem tS1_differs {n : Nat} (hn : F 15 = nI n) (hb : n ≤ 24) (hr : okRow (A 11)) (hp : ∀ c, c < 36 → 0 ≤ (A 2 (82 + c)).toInt ∧ (A 2 (82 + c)).toInt < 1073741824) (h : Q (some (.int (f_dif (A 11) (A 2) n))) (mem A F X)) : ∀ (d k : Nat), k + d = n → pz_T z0 KX4_differsFrom Q 4 (0, 0) [some (.ref 48), some (.ref 23), some (.int (f_dif (A 11) (A 2) k)), some (.int (nI k))] [] (mem A F X) := by
  intro d
  induction d with
  | zero =>
    intro k hk
    have hk : k = n := by omega
    subst hk
    refine pz_wp_ok (pz_Is_ok SX4_differsFrom) [4] 100 ?_
    refine br1 (fun z => z ?_) h
    show F 15 ≤ nI k
    rw [hn]
    exact nI_le (Nat.le_refl _) (by omega)
  | succ d ih =>
    intro k hk
    have ck := qcl (x := nI k) k rfl (by omega)
    have ih' := ih (k + 1) (by omega)
    rw [f_dif] at ih'
    refine pz_wp_ok (pz_Is_ok SX4_differsFrom) [4] 100 ?_
    refine br2 (fun z => ?_) ?_
    · have z : F 15 ≤ nI k := z
      rw [hn] at z
      exact n_ge (by omega) (by omega) (by omega) z
    generalize f_dif (A 11) (A 2) k = sm at ih' ⊢
    refine cS1_isNumber rfl (show k < 24 by omega) (fun g => ?_) (fun g => ?_)
    · rw [if_neg g] at ih'
      refine br2 (by decide) ?_
      refine ⟨qin k rfl (by omega) (by omega), ?_⟩
      refine ⟨qin k rfl (by omega) (by omega), ?_⟩
      rw [ck, qm_1 (show k < 36 by omega)]
      obtain ⟨p1, p2⟩ := hp k (by omega)
      rw [← abs_off ((hr k (by omega)).elim (fun z => absurd z g) id) p1 p2] at ih'
      exact qT ih' (by rw [← nI_1 k]; rfl) rfl rfl
    · rw [if_pos g, Int32.add_zero] at ih'
      refine br1 (fun z => z rfl) ?_
      exact qT ih' (by rw [← nI_1 k]; rfl) rfl rfl
theorem cS1_differs {n : Nat} (hn : F 15 = nI n) (hb : n ≤ 24) (hr : okRow (A 11)) (hp : ∀ c, c < 36 → 0 ≤ (A 2 (82 + c)).toInt ∧ (A 2 (82 + c)).toInt < 1073741824) (h : Q (some (.int (f_dif (A 11) (A 2) n))) (mem A F X)) : pz_C yX4_differsFrom KX4_differsFrom [.ref 48, .ref 23] (mem A F X) Q := by
  refine pz_C_of rfl rfl rfl (Nat.le_of_ble_eq_true rfl) (pz_wp_ok (pz_Is_ok SX4_differsFrom) [4] 100 ?_)
  exact tS1_differs hn hb hr hp h n 0 (by omega)
set_option maxRecDepth 8000 in
theorem tS1_unlike {n : Nat} (hn : F 15 = nI n) (hb : n ≤ 24) {r : Int32} (h : Q (some (.int r)) (mem A F X)) : ∀ (d k : Nat), k + d = n → r = f_rd (A 11) (A 0) d k → pz_T z0 KX4_firstUnlike Q 2 (0, 0) [some (.ref 48), some (.ref 7), some (.int (nI k))] [] (mem A F X) := by
  intro d
  induction d with
  | zero =>
    intro k hk e
    refine pz_wp_ok (pz_Is_ok SX4_firstUnlike) [2] 100 ?_
    rw [f_rd] at e
    subst e
    refine br1 (fun z => z ?_) h
    show F 15 ≤ nI k
    rw [hn]
    exact nI_le (by omega) (by omega)
  | succ d ih =>
    intro k hk e
    have ck := qcl (x := nI k) k rfl (by omega)
    rw [f_rd] at e
    refine pz_wp_ok (pz_Is_ok SX4_firstUnlike) [2] 100 ?_
    refine br2 (fun z => ?_) ?_
    · have z : F 15 ≤ nI k := z
      rw [hn] at z
      exact n_ge (by omega) (by omega) (by omega) z
    refine cS1_isNumber rfl (show k < 24 by omega) (fun g => ?_) (fun g => ?_)
    · refine br2 (by decide) ?_
      refine ⟨qin k rfl (by omega) (by omega), ?_⟩
      refine ⟨qin k rfl (by omega) (by omega), ?_⟩
      rw [ck, qm_1 (show k < 36 by omega)]
      refine ⟨fun g2 => ?_, fun g2 => ?_⟩
      · have g2 : A 0 (82 + k) = A 11 k := g2
        rw [if_neg (fun z => z.2 g2.symm)] at e
        exact qT (ih (k + 1) (by omega) e) (by rw [← nI_1 k]; rfl) rfl rfl
      · have g2 : ¬ A 0 (82 + k) = A 11 k := g2
        rw [if_pos ⟨g, fun z => g2 z.symm⟩] at e
        subst e
        exact h
    · rw [if_neg (fun z => z.1 g)] at e
      refine br1 (fun z => z rfl) ?_
      exact qT (ih (k + 1) (by omega) e) (by rw [← nI_1 k]; rfl) rfl rfl
theorem cS1_unlike {n : Nat} (hn : F 15 = nI n) (hb : n ≤ 24) (h : Q (some (.int (f_rd (A 11) (A 0) n 0))) (mem A F X)) : pz_C yX4_firstUnlike KX4_firstUnlike [.ref 48, .ref 7] (mem A F X) Q := by
  refine pz_C_of rfl rfl rfl (Nat.le_of_ble_eq_true rfl) (pz_wp_ok (pz_Is_ok SX4_firstUnlike) [2] 100 ?_)
  exact tS1_unlike hn hb h n 0 (by omega) rfl
set_option maxRecDepth 8000 in
theorem tS1_pours {n : Nat} {t0 row : Nat → Int32} (hn : F 15 = nI n) (hb : n ≤ 24) (hrow : A 11 = row) (h : Q (some (.int (f_pr row t0 n).1)) (mem (va_up A 0 (f_pr row t0 n).2) F X)) : ∀ (d k : Nat), k + d = n → ∀ x4 : Option Value, pz_T z0 KX4_poursInto Q 4 (0, 0) [some (.ref 48), some (.ref 5), some (.int (f_pr row t0 k).1), some (.int (nI k)), x4] [] (mem (va_up A 0 (f_pr row t0 k).2) F X) := by
  intro d
  induction d with
  | zero =>
    intro k hk x4
    have hk : k = n := by omega
    subst hk
    generalize f_pr row t0 k = r at h ⊢
    refine pz_wp_ok (pz_Is_ok SX4_poursInto) [4] 100 ?_
    refine br1 (fun z => z ?_) h
    show F 15 ≤ nI k
    rw [hn]
    exact nI_le (Nat.le_refl _) (by omega)
  | succ d ih =>
    intro k hk x4
    have ck := qcl (x := nI k) k rfl (by omega)
    have ih' := ih (k + 1) (by omega)
    rw [f_pr] at ih'
    have hk24 : k < 24 := by omega
    have hk36 : k < 36 := by omega
    have ek : nI k + 1 = nI (k + 1) := nI_1 k
    rw [← ek] at ih'
    dsimp only at ih'
    generalize (f_pr row t0 k).1 = cnt at ih' ⊢
    generalize (f_pr row t0 k).2 = t at ih' ⊢
    have fin : ∀ v : Int32, v = f_is row t k → pz_T z0 KX4_poursInto Q 46 (0, 0) [some (.ref 48), some (.ref 5), some (.int cnt), some (.int (nI k)), some (.int v)] [] (mem (va_up A 0 t) F X) := fun v hv => by
      rw [← hv] at ih'
      refine pz_wp_ok (pz_Is_ok SX4_poursInto) [4] 100 ?_
      refine ⟨qin k rfl hk36 (by omega), ?_⟩
      have eh : qm 36 10 1 (va_up A 0 t 0) (nI k).toNatClampNeg = t (10 + k) := by rw [ck, vu_at, qm_1 hk36]
      rw [eh]
      refine ⟨fun g => ?_, fun g => ?_⟩
      · have g : v = t (10 + k) := g
        rw [if_pos g, Int32.add_zero, g, upd_s] at ih'
        rw [g]
        exact ih' (some (.int (t (10 + k))))
      · have g : ¬ v = t (10 + k) := g
        rw [if_neg g] at ih'
        refine ⟨qin k rfl hk36 (by omega), ?_⟩
        rw [ck]
        have hm := mh0 (A := va_up A 0 t) (F := F) (X := X) hk36 v
        rw [vu_vu, vu_at] at hm
        exact qT (ih' (some (.int v))) rfl rfl hm
    refine pz_wp_ok (pz_Is_ok SX4_poursInto) [4, 46] 100 ?_
    refine br2 (fun z => ?_) ?_
    · have z : F 15 ≤ nI k := z
      rw [hn] at z
      exact n_ge (by omega) (by omega) (by omega) z
    have er : va_up A 0 t 11 k = row k := by rw [vu_ne _ _ (by omega), hrow]
    refine cS1_isNumber rfl hk24 (fun g => ?_) (fun g => ?_)
    · rw [er] at g
      refine br2 (by decide) ?_
      refine ⟨qin 0 rfl (by decide) (by decide), ?_⟩
      refine ⟨qin k rfl hk24 (by omega), ?_⟩
      rw [ck, er]
      refine fin _ ?_
      unfold f_is
      rw [if_neg g]
      exact mm_fw20 (row k)
    · rw [er] at g
      refine br1 (fun z => z rfl) ?_
      refine ⟨qin k rfl hk36 (by omega), ?_⟩
      have eh : qm 36 10 1 (va_up A 0 t 0) (nI k).toNatClampNeg = t (10 + k) := by rw [ck, vu_at, qm_1 hk36]
      rw [eh]
      refine fin _ ?_
      unfold f_is
      rw [if_pos g]
theorem cS1_pours {n : Nat} (hn : F 15 = nI n) (hb : n ≤ 24) (h : Q (some (.int (f_pr (A 11) (A 0) n).1)) (mem (va_up A 0 (f_pr (A 11) (A 0) n).2) F X)) : pz_C yX4_poursInto KX4_poursInto [.ref 48, .ref 5] (mem A F X) Q := by
  refine pz_C_of rfl rfl rfl (Nat.le_of_ble_eq_true rfl) (pz_wp_ok (pz_Is_ok SX4_poursInto) [4] 100 ?_)
  have hh := tS1_pours (t0 := A 0) (row := A 11) hn hb rfl h n 0 (by omega) none
  rw [f_pr, vu_s] at hh
  exact hh
theorem cS2_isMissing (h1 : F 12 = -1 → Q (some (.int 1)) (mem A F X)) (h0 : ¬ F 12 = -1 → Q (some (.int 0)) (mem A F X)) : pz_C yX4_isMissing KX4_isMissing [.ref 50] (mem A F X) Q := by
  refine pz_C_of rfl rfl rfl (Nat.le_of_ble_eq_true rfl) (pz_wp_ok (pz_Is_ok SX4_isMissing) [] 100 ?_)
  exact ⟨fun g => ⟨Or.inl rfl, h0 g⟩, fun g => ⟨Or.inr rfl, h1 g⟩⟩
theorem cS2_hasPlaces {p m : Int32} {n : Nat} (hn : F 16 = nI n) (hb : n ≤ 24) (h1 : 0 ≤ p.toInt ∧ 0 ≤ m.toInt ∧ p.toInt + m.toInt ≤ (n : Int) → Q (some (.int 1)) (mem A F X)) (h0 : ¬ (0 ≤ p.toInt ∧ 0 ≤ m.toInt ∧ p.toInt + m.toInt ≤ (n : Int)) → Q (some (.int 0)) (mem A F X)) : pz_C yX4_hasPlaces KX4_hasPlaces [.ref 50, .int p, .int m] (mem A F X) Q := by
  refine pz_C_of rfl rfl rfl (Nat.le_of_ble_eq_true rfl) (pz_wp_ok (pz_Is_ok SX4_hasPlaces) [] 100 ?_)
  refine cP_within 0 (n : Int) rfl (by show (F 16).toInt = _; rw [hn, nIi (by omega)]) (fun g => ?_) (fun g => ?_)
  · refine br2 (by decide) ?_
    have e : (F 16 - m).toInt = (n : Int) - m.toInt := by
      rw [hn, i_sub (by rw [nIi (by omega)]; have := g.1; have := g.2; omega) (by rw [nIi (by omega)]; have := g.1; have := g.2; omega), nIi (by omega)]
    refine cP_within 0 ((n : Int) - m.toInt) rfl e (fun g2 => ?_) (fun g2 => ?_)
    · refine br2 (by decide) ?_
      exact ⟨Or.inr rfl, h1 ⟨g2.1, g.1, by have := g2.2; omega⟩⟩
    · refine br1 (fun z => z rfl) ?_
      exact ⟨Or.inl rfl, h0 (fun z => g2 ⟨z.1, by have := z.2.2; omega⟩)⟩
  · refine br1 (fun z => z rfl) ?_
    exact ⟨Or.inl rfl, h0 (fun z => g ⟨z.2.1, by have := z.2.2; have := z.1; omega⟩)⟩
set_option maxRecDepth 8000 in
theorem tS2_becomes {x1 x2 : Int32} (h : Q none (mem (va_up A 12 (qcp 24 (fun _ => 0) (A 12))) F X)) : ∀ (d k : Nat), k + d = 24 → pz_T z0 KX4_becomes Q 12 (0, 0) [some (.ref 50), some (.int x1), some (.int x2), some (.int (nI k))] [] (mem (va_up A 12 (qcp k (fun _ => 0) (A 12))) F X) := by
  intro d
  induction d with
  | zero =>
    intro k hk
    have hk : k = 24 := by omega
    subst hk
    refine pz_wp_ok (pz_Is_ok SX4_becomes) [12] 100 ?_
    refine br1 (fun z => z (nI_le (Nat.le_refl _) (by omega))) ?_
    exact h
  | succ d ih =>
    intro k hk
    refine pz_wp_ok (pz_Is_ok SX4_becomes) [12] 100 ?_
    refine br2 (n_ge (b := 24) (by omega) (by omega) (by omega)) ?_
    refine ⟨qin k rfl (by omega) (by omega), ?_⟩
    have ck := qcl (x := nI k) k rfl (by omega)
    rw [ck]
    have hh := ih (k + 1) (by omega)
    rw [← qcp_s, ← vu_vu A 12 (qcp k (fun _ => 0) (A 12))] at hh
    refine qT hh (by rw [← nI_1 k]; rfl) rfl ?_
    rfl
set_option maxRecDepth 8000 in
theorem cS2_becomes {so n : Int32} (h : Q none (mem (va_up A 12 (qcp 24 (fun _ => 0) (A 12))) (upd (upd F 12 so) 16 n) X)) : pz_C yX4_becomes KX4_becomes [.ref 50, .int so, .int n] (mem A F X) Q := by
  refine pz_C_of rfl rfl rfl (Nat.le_of_ble_eq_true rfl) (pz_wp_ok (pz_Is_ok SX4_becomes) [12] 100 ?_)
  have hh := tS2_becomes (F := upd (upd F 12 so) 16 n) (x1 := so) (x2 := n) h 24 0 (by omega)
  rw [qcp_0, vu_s] at hh
  exact hh
set_option maxRecDepth 8000 in
theorem tS2_differs {n : Nat} (hn : F 16 = nI n) (hb : n ≤ 24) (hr : okRow (A 12)) (hp : ∀ c, c < 36 → 0 ≤ (A 2 (82 + c)).toInt ∧ (A 2 (82 + c)).toInt < 1073741824) (h : Q (some (.int (f_dif (A 12) (A 2) n))) (mem A F X)) : ∀ (d k : Nat), k + d = n → pz_T z0 KX4_differsFrom Q 4 (0, 0) [some (.ref 50), some (.ref 23), some (.int (f_dif (A 12) (A 2) k)), some (.int (nI k))] [] (mem A F X) := by
  intro d
  induction d with
  | zero =>
    intro k hk
    have hk : k = n := by omega
    subst hk
    refine pz_wp_ok (pz_Is_ok SX4_differsFrom) [4] 100 ?_
    refine br1 (fun z => z ?_) h
    show F 16 ≤ nI k
    rw [hn]
    exact nI_le (Nat.le_refl _) (by omega)
  | succ d ih =>
    intro k hk
    have ck := qcl (x := nI k) k rfl (by omega)
    have ih' := ih (k + 1) (by omega)
    rw [f_dif] at ih'
    refine pz_wp_ok (pz_Is_ok SX4_differsFrom) [4] 100 ?_
    refine br2 (fun z => ?_) ?_
    · have z : F 16 ≤ nI k := z
      rw [hn] at z
      exact n_ge (by omega) (by omega) (by omega) z
    generalize f_dif (A 12) (A 2) k = sm at ih' ⊢
    refine cS2_isNumber rfl (show k < 24 by omega) (fun g => ?_) (fun g => ?_)
    · rw [if_neg g] at ih'
      refine br2 (by decide) ?_
      refine ⟨qin k rfl (by omega) (by omega), ?_⟩
      refine ⟨qin k rfl (by omega) (by omega), ?_⟩
      rw [ck, qm_1 (show k < 36 by omega)]
      obtain ⟨p1, p2⟩ := hp k (by omega)
      rw [← abs_off ((hr k (by omega)).elim (fun z => absurd z g) id) p1 p2] at ih'
      exact qT ih' (by rw [← nI_1 k]; rfl) rfl rfl
    · rw [if_pos g, Int32.add_zero] at ih'
      refine br1 (fun z => z rfl) ?_
      exact qT ih' (by rw [← nI_1 k]; rfl) rfl rfl
theorem cS2_differs {n : Nat} (hn : F 16 = nI n) (hb : n ≤ 24) (hr : okRow (A 12)) (hp : ∀ c, c < 36 → 0 ≤ (A 2 (82 + c)).toInt ∧ (A 2 (82 + c)).toInt < 1073741824) (h : Q (some (.int (f_dif (A 12) (A 2) n))) (mem A F X)) : pz_C yX4_differsFrom KX4_differsFrom [.ref 50, .ref 23] (mem A F X) Q := by
  refine pz_C_of rfl rfl rfl (Nat.le_of_ble_eq_true rfl) (pz_wp_ok (pz_Is_ok SX4_differsFrom) [4] 100 ?_)
  exact tS2_differs hn hb hr hp h n 0 (by omega)
set_option maxRecDepth 8000 in
theorem tS2_unlike {n : Nat} (hn : F 16 = nI n) (hb : n ≤ 24) {r : Int32} (h : Q (some (.int r)) (mem A F X)) : ∀ (d k : Nat), k + d = n → r = f_rd (A 12) (A 0) d k → pz_T z0 KX4_firstUnlike Q 2 (0, 0) [some (.ref 50), some (.ref 7), some (.int (nI k))] [] (mem A F X) := by
  intro d
  induction d with
  | zero =>
    intro k hk e
    refine pz_wp_ok (pz_Is_ok SX4_firstUnlike) [2] 100 ?_
    rw [f_rd] at e
    subst e
    refine br1 (fun z => z ?_) h
    show F 16 ≤ nI k
    rw [hn]
    exact nI_le (by omega) (by omega)
  | succ d ih =>
    intro k hk e
    have ck := qcl (x := nI k) k rfl (by omega)
    rw [f_rd] at e
    refine pz_wp_ok (pz_Is_ok SX4_firstUnlike) [2] 100 ?_
    refine br2 (fun z => ?_) ?_
    · have z : F 16 ≤ nI k := z
      rw [hn] at z
      exact n_ge (by omega) (by omega) (by omega) z
    refine cS2_isNumber rfl (show k < 24 by omega) (fun g => ?_) (fun g => ?_)
    · refine br2 (by decide) ?_
      refine ⟨qin k rfl (by omega) (by omega), ?_⟩
      refine ⟨qin k rfl (by omega) (by omega), ?_⟩
      rw [ck, qm_1 (show k < 36 by omega)]
      refine ⟨fun g2 => ?_, fun g2 => ?_⟩
      · have g2 : A 0 (82 + k) = A 12 k := g2
        rw [if_neg (fun z => z.2 g2.symm)] at e
        exact qT (ih (k + 1) (by omega) e) (by rw [← nI_1 k]; rfl) rfl rfl
      · have g2 : ¬ A 0 (82 + k) = A 12 k := g2
        rw [if_pos ⟨g, fun z => g2 z.symm⟩] at e
        subst e
        exact h
    · rw [if_neg (fun z => z.1 g)] at e
      refine br1 (fun z => z rfl) ?_
      exact qT (ih (k + 1) (by omega) e) (by rw [← nI_1 k]; rfl) rfl rfl
theorem cS2_unlike {n : Nat} (hn : F 16 = nI n) (hb : n ≤ 24) (h : Q (some (.int (f_rd (A 12) (A 0) n 0))) (mem A F X)) : pz_C yX4_firstUnlike KX4_firstUnlike [.ref 50, .ref 7] (mem A F X) Q := by
  refine pz_C_of rfl rfl rfl (Nat.le_of_ble_eq_true rfl) (pz_wp_ok (pz_Is_ok SX4_firstUnlike) [2] 100 ?_)
  exact tS2_unlike hn hb h n 0 (by omega) rfl
set_option maxRecDepth 8000 in
theorem tS2_pours {n : Nat} {t0 row : Nat → Int32} (hn : F 16 = nI n) (hb : n ≤ 24) (hrow : A 12 = row) (h : Q (some (.int (f_pr row t0 n).1)) (mem (va_up A 0 (f_pr row t0 n).2) F X)) : ∀ (d k : Nat), k + d = n → ∀ x4 : Option Value, pz_T z0 KX4_poursInto Q 4 (0, 0) [some (.ref 50), some (.ref 5), some (.int (f_pr row t0 k).1), some (.int (nI k)), x4] [] (mem (va_up A 0 (f_pr row t0 k).2) F X) := by
  intro d
  induction d with
  | zero =>
    intro k hk x4
    have hk : k = n := by omega
    subst hk
    generalize f_pr row t0 k = r at h ⊢
    refine pz_wp_ok (pz_Is_ok SX4_poursInto) [4] 100 ?_
    refine br1 (fun z => z ?_) h
    show F 16 ≤ nI k
    rw [hn]
    exact nI_le (Nat.le_refl _) (by omega)
  | succ d ih =>
    intro k hk x4
    have ck := qcl (x := nI k) k rfl (by omega)
    have ih' := ih (k + 1) (by omega)
    rw [f_pr] at ih'
    have hk24 : k < 24 := by omega
    have hk36 : k < 36 := by omega
    have ek : nI k + 1 = nI (k + 1) := nI_1 k
    rw [← ek] at ih'
    dsimp only at ih'
    generalize (f_pr row t0 k).1 = cnt at ih' ⊢
    generalize (f_pr row t0 k).2 = t at ih' ⊢
    have fin : ∀ v : Int32, v = f_is row t k → pz_T z0 KX4_poursInto Q 46 (0, 0) [some (.ref 50), some (.ref 5), some (.int cnt), some (.int (nI k)), some (.int v)] [] (mem (va_up A 0 t) F X) := fun v hv => by
      rw [← hv] at ih'
      refine pz_wp_ok (pz_Is_ok SX4_poursInto) [4] 100 ?_
      refine ⟨qin k rfl hk36 (by omega), ?_⟩
      have eh : qm 36 10 1 (va_up A 0 t 0) (nI k).toNatClampNeg = t (10 + k) := by rw [ck, vu_at, qm_1 hk36]
      rw [eh]
      refine ⟨fun g => ?_, fun g => ?_⟩
      · have g : v = t (10 + k) := g
        rw [if_pos g, Int32.add_zero, g, upd_s] at ih'
        rw [g]
        exact ih' (some (.int (t (10 + k))))
      · have g : ¬ v = t (10 + k) := g
        rw [if_neg g] at ih'
        refine ⟨qin k rfl hk36 (by omega), ?_⟩
        rw [ck]
        have hm := mh0 (A := va_up A 0 t) (F := F) (X := X) hk36 v
        rw [vu_vu, vu_at] at hm
        exact qT (ih' (some (.int v))) rfl rfl hm
    refine pz_wp_ok (pz_Is_ok SX4_poursInto) [4, 46] 100 ?_
    refine br2 (fun z => ?_) ?_
    · have z : F 16 ≤ nI k := z
      rw [hn] at z
      exact n_ge (by omega) (by omega) (by omega) z
    have er : va_up A 0 t 12 k = row k := by rw [vu_ne _ _ (by omega), hrow]
    refine cS2_isNumber rfl hk24 (fun g => ?_) (fun g => ?_)
    · rw [er] at g
      refine br2 (by decide) ?_
      refine ⟨qin 0 rfl (by decide) (by decide), ?_⟩
      refine ⟨qin k rfl hk24 (by omega), ?_⟩
      rw [ck, er]
      refine fin _ ?_
      unfold f_is
      rw [if_neg g]
      exact mm_fw20 (row k)
    · rw [er] at g
      refine br1 (fun z => z rfl) ?_
      refine ⟨qin k rfl hk36 (by omega), ?_⟩
      have eh : qm 36 10 1 (va_up A 0 t 0) (nI k).toNatClampNeg = t (10 + k) := by rw [ck, vu_at, qm_1 hk36]
      rw [eh]
      refine fin _ ?_
      unfold f_is
      rw [if_pos g]
theorem cS2_pours {n : Nat} (hn : F 16 = nI n) (hb : n ≤ 24) (h : Q (some (.int (f_pr (A 12) (A 0) n).1)) (mem (va_up A 0 (f_pr (A 12) (A 0) n).2) F X)) : pz_C yX4_poursInto KX4_poursInto [.ref 50, .ref 5] (mem A F X) Q := by
  refine pz_C_of rfl rfl rfl (Nat.le_of_ble_eq_true rfl) (pz_wp_ok (pz_Is_ok SX4_poursInto) [4] 100 ?_)
  have hh := tS2_pours (t0 := A 0) (row := A 12) hn hb rfl h n 0 (by omega) none
  rw [f_pr, vu_s] at hh
  exact hh
theorem cS3_isMissing (h1 : F 13 = -1 → Q (some (.int 1)) (mem A F X)) (h0 : ¬ F 13 = -1 → Q (some (.int 0)) (mem A F X)) : pz_C yX4_isMissing KX4_isMissing [.ref 52] (mem A F X) Q := by
  refine pz_C_of rfl rfl rfl (Nat.le_of_ble_eq_true rfl) (pz_wp_ok (pz_Is_ok SX4_isMissing) [] 100 ?_)
  exact ⟨fun g => ⟨Or.inl rfl, h0 g⟩, fun g => ⟨Or.inr rfl, h1 g⟩⟩
theorem cS3_hasPlaces {p m : Int32} {n : Nat} (hn : F 17 = nI n) (hb : n ≤ 24) (h1 : 0 ≤ p.toInt ∧ 0 ≤ m.toInt ∧ p.toInt + m.toInt ≤ (n : Int) → Q (some (.int 1)) (mem A F X)) (h0 : ¬ (0 ≤ p.toInt ∧ 0 ≤ m.toInt ∧ p.toInt + m.toInt ≤ (n : Int)) → Q (some (.int 0)) (mem A F X)) : pz_C yX4_hasPlaces KX4_hasPlaces [.ref 52, .int p, .int m] (mem A F X) Q := by
  refine pz_C_of rfl rfl rfl (Nat.le_of_ble_eq_true rfl) (pz_wp_ok (pz_Is_ok SX4_hasPlaces) [] 100 ?_)
  refine cP_within 0 (n : Int) rfl (by show (F 17).toInt = _; rw [hn, nIi (by omega)]) (fun g => ?_) (fun g => ?_)
  · refine br2 (by decide) ?_
    have e : (F 17 - m).toInt = (n : Int) - m.toInt := by
      rw [hn, i_sub (by rw [nIi (by omega)]; have := g.1; have := g.2; omega) (by rw [nIi (by omega)]; have := g.1; have := g.2; omega), nIi (by omega)]
    refine cP_within 0 ((n : Int) - m.toInt) rfl e (fun g2 => ?_) (fun g2 => ?_)
    · refine br2 (by decide) ?_
      exact ⟨Or.inr rfl, h1 ⟨g2.1, g.1, by have := g2.2; omega⟩⟩
    · refine br1 (fun z => z rfl) ?_
      exact ⟨Or.inl rfl, h0 (fun z => g2 ⟨z.1, by have := z.2.2; omega⟩)⟩
  · refine br1 (fun z => z rfl) ?_
    exact ⟨Or.inl rfl, h0 (fun z => g ⟨z.2.1, by have := z.2.2; have := z.1; omega⟩)⟩
set_option maxRecDepth 8000 in
theorem tS3_becomes {x1 x2 : Int32} (h : Q none (mem (va_up A 13 (qcp 24 (fun _ => 0) (A 13))) F X)) : ∀ (d k : Nat), k + d = 24 → pz_T z0 KX4_becomes Q 12 (0, 0) [some (.ref 52), some (.int x1), some (.int x2), some (.int (nI k))] [] (mem (va_up A 13 (qcp k (fun _ => 0) (A 13))) F X) := by
  intro d
  induction d with
  | zero =>
    intro k hk
    have hk : k = 24 := by omega
    subst hk
    refine pz_wp_ok (pz_Is_ok SX4_becomes) [12] 100 ?_
    refine br1 (fun z => z (nI_le (Nat.le_refl _) (by omega))) ?_
    exact h
  | succ d ih =>
    intro k hk
    refine pz_wp_ok (pz_Is_ok SX4_becomes) [12] 100 ?_
    refine br2 (n_ge (b := 24) (by omega) (by omega) (by omega)) ?_
    refine ⟨qin k rfl (by omega) (by omega), ?_⟩
    have ck := qcl (x := nI k) k rfl (by omega)
    rw [ck]
    have hh := ih (k + 1) (by omega)
    rw [← qcp_s, ← vu_vu A 13 (qcp k (fun _ => 0) (A 13))] at hh
    refine qT hh (by rw [← nI_1 k]; rfl) rfl ?_
    rfl
set_option maxRecDepth 8000 in
theorem cS3_becomes {so n : Int32} (h : Q none (mem (va_up A 13 (qcp 24 (fun _ => 0) (A 13))) (upd (upd F 13 so) 17 n) X)) : pz_C yX4_becomes KX4_becomes [.ref 52, .int so, .int n] (mem A F X) Q := by
  refine pz_C_of rfl rfl rfl (Nat.le_of_ble_eq_true rfl) (pz_wp_ok (pz_Is_ok SX4_becomes) [12] 100 ?_)
  have hh := tS3_becomes (F := upd (upd F 13 so) 17 n) (x1 := so) (x2 := n) h 24 0 (by omega)
  rw [qcp_0, vu_s] at hh
  exact hh
set_option maxRecDepth 8000 in
theorem tS3_differs {n : Nat} (hn : F 17 = nI n) (hb : n ≤ 24) (hr : okRow (A 13)) (hp : ∀ c, c < 36 → 0 ≤ (A 2 (82 + c)).toInt ∧ (A 2 (82 + c)).toInt < 1073741824) (h : Q (some (.int (f_dif (A 13) (A 2) n))) (mem A F X)) : ∀ (d k : Nat), k + d = n → pz_T z0 KX4_differsFrom Q 4 (0, 0) [some (.ref 52), some (.ref 23), some (.int (f_dif (A 13) (A 2) k)), some (.int (nI k))] [] (mem A F X) := by
  intro d
  induction d with
  | zero =>
    intro k hk
    have hk : k = n := by omega
    subst hk
    refine pz_wp_ok (pz_Is_ok SX4_differsFrom) [4] 100 ?_
    refine br1 (fun z => z ?_) h
    show F 17 ≤ nI k
    rw [hn]
    exact nI_le (Nat.le_refl _) (by omega)
  | succ d ih =>
    intro k hk
    have ck := qcl (x := nI k) k rfl (by omega)
    have ih' := ih (k + 1) (by omega)
    rw [f_dif] at ih'
    refine pz_wp_ok (pz_Is_ok SX4_differsFrom) [4] 100 ?_
    refine br2 (fun z => ?_) ?_
    · have z : F 17 ≤ nI k := z
      rw [hn] at z
      exact n_ge (by omega) (by omega) (by omega) z
    generalize f_dif (A 13) (A 2) k = sm at ih' ⊢
    refine cS3_isNumber rfl (show k < 24 by omega) (fun g => ?_) (fun g => ?_)
    · rw [if_neg g] at ih'
      refine br2 (by decide) ?_
      refine ⟨qin k rfl (by omega) (by omega), ?_⟩
      refine ⟨qin k rfl (by omega) (by omega), ?_⟩
      rw [ck, qm_1 (show k < 36 by omega)]
      obtain ⟨p1, p2⟩ := hp k (by omega)
      rw [← abs_off ((hr k (by omega)).elim (fun z => absurd z g) id) p1 p2] at ih'
      exact qT ih' (by rw [← nI_1 k]; rfl) rfl rfl
    · rw [if_pos g, Int32.add_zero] at ih'
      refine br1 (fun z => z rfl) ?_
      exact qT ih' (by rw [← nI_1 k]; rfl) rfl rfl
theorem cS3_differs {n : Nat} (hn : F 17 = nI n) (hb : n ≤ 24) (hr : okRow (A 13)) (hp : ∀ c, c < 36 → 0 ≤ (A 2 (82 + c)).toInt ∧ (A 2 (82 + c)).toInt < 1073741824) (h : Q (some (.int (f_dif (A 13) (A 2) n))) (mem A F X)) : pz_C yX4_differsFrom KX4_differsFrom [.ref 52, .ref 23] (mem A F X) Q := by
  refine pz_C_of rfl rfl rfl (Nat.le_of_ble_eq_true rfl) (pz_wp_ok (pz_Is_ok SX4_differsFrom) [4] 100 ?_)
  exact tS3_differs hn hb hr hp h n 0 (by omega)
set_option maxRecDepth 8000 in
theorem tS3_unlike {n : Nat} (hn : F 17 = nI n) (hb : n ≤ 24) {r : Int32} (h : Q (some (.int r)) (mem A F X)) : ∀ (d k : Nat), k + d = n → r = f_rd (A 13) (A 0) d k → pz_T z0 KX4_firstUnlike Q 2 (0, 0) [some (.ref 52), some (.ref 7), some (.int (nI k))] [] (mem A F X) := by
  intro d
  induction d with
  | zero =>
    intro k hk e
    refine pz_wp_ok (pz_Is_ok SX4_firstUnlike) [2] 100 ?_
    rw [f_rd] at e
    subst e
    refine br1 (fun z => z ?_) h
    show F 17 ≤ nI k
    rw [hn]
    exact nI_le (by omega) (by omega)
  | succ d ih =>
    intro k hk e
    have ck := qcl (x := nI k) k rfl (by omega)
    rw [f_rd] at e
    refine pz_wp_ok (pz_Is_ok SX4_firstUnlike) [2] 100 ?_
    refine br2 (fun z => ?_) ?_
    · have z : F 17 ≤ nI k := z
      rw [hn] at z
      exact n_ge (by omega) (by omega) (by omega) z
    refine cS3_isNumber rfl (show k < 24 by omega) (fun g => ?_) (fun g => ?_)
    · refine br2 (by decide) ?_
      refine ⟨qin k rfl (by omega) (by omega), ?_⟩
      refine ⟨qin k rfl (by omega) (by omega), ?_⟩
      rw [ck, qm_1 (show k < 36 by omega)]
      refine ⟨fun g2 => ?_, fun g2 => ?_⟩
      · have g2 : A 0 (82 + k) = A 13 k := g2
        rw [if_neg (fun z => z.2 g2.symm)] at e
        exact qT (ih (k + 1) (by omega) e) (by rw [← nI_1 k]; rfl) rfl rfl
      · have g2 : ¬ A 0 (82 + k) = A 13 k := g2
        rw [if_pos ⟨g, fun z => g2 z.symm⟩] at e
        subst e
        exact h
    · rw [if_neg (fun z => z.1 g)] at e
      refine br1 (fun z => z rfl) ?_
      exact qT (ih (k + 1) (by omega) e) (by rw [← nI_1 k]; rfl) rfl rfl
theorem cS3_unlike {n : Nat} (hn : F 17 = nI n) (hb : n ≤ 24) (h : Q (some (.int (f_rd (A 13) (A 0) n 0))) (mem A F X)) : pz_C yX4_firstUnlike KX4_firstUnlike [.ref 52, .ref 7] (mem A F X) Q := by
  refine pz_C_of rfl rfl rfl (Nat.le_of_ble_eq_true rfl) (pz_wp_ok (pz_Is_ok SX4_firstUnlike) [2] 100 ?_)
  exact tS3_unlike hn hb h n 0 (by omega) rfl
set_option maxRecDepth 8000 in
theorem tS3_pours {n : Nat} {t0 row : Nat → Int32} (hn : F 17 = nI n) (hb : n ≤ 24) (hrow : A 13 = row) (h : Q (some (.int (f_pr row t0 n).1)) (mem (va_up A 0 (f_pr row t0 n).2) F X)) : ∀ (d k : Nat), k + d = n → ∀ x4 : Option Value, pz_T z0 KX4_poursInto Q 4 (0, 0) [some (.ref 52), some (.ref 5), some (.int (f_pr row t0 k).1), some (.int (nI k)), x4] [] (mem (va_up A 0 (f_pr row t0 k).2) F X) := by
  intro d
  induction d with
  | zero =>
    intro k hk x4
    have hk : k = n := by omega
    subst hk
    generalize f_pr row t0 k = r at h ⊢
    refine pz_wp_ok (pz_Is_ok SX4_poursInto) [4] 100 ?_
    refine br1 (fun z => z ?_) h
    show F 17 ≤ nI k
    rw [hn]
    exact nI_le (Nat.le_refl _) (by omega)
  | succ d ih =>
    intro k hk x4
    have ck := qcl (x := nI k) k rfl (by omega)
    have ih' := ih (k + 1) (by omega)
    rw [f_pr] at ih'
    have hk24 : k < 24 := by omega
    have hk36 : k < 36 := by omega
    have ek : nI k + 1 = nI (k + 1) := nI_1 k
    rw [← ek] at ih'
    dsimp only at ih'
    generalize (f_pr row t0 k).1 = cnt at ih' ⊢
    generalize (f_pr row t0 k).2 = t at ih' ⊢
    have fin : ∀ v : Int32, v = f_is row t k → pz_T z0 KX4_poursInto Q 46 (0, 0) [some (.ref 52), some (.ref 5), some (.int cnt), some (.int (nI k)), some (.int v)] [] (mem (va_up A 0 t) F X) := fun v hv => by
      rw [← hv] at ih'
      refine pz_wp_ok (pz_Is_ok SX4_poursInto) [4] 100 ?_
      refine ⟨qin k rfl hk36 (by omega), ?_⟩
      have eh : qm 36 10 1 (va_up A 0 t 0) (nI k).toNatClampNeg = t (10 + k) := by rw [ck, vu_at, qm_1 hk36]
      rw [eh]
      refine ⟨fun g => ?_, fun g => ?_⟩
      · have g : v = t (10 + k) := g
        rw [if_pos g, Int32.add_zero, g, upd_s] at ih'
        rw [g]
        exact ih' (some (.int (t (10 + k))))
      · have g : ¬ v = t (10 + k) := g
        rw [if_neg g] at ih'
        refine ⟨qin k rfl hk36 (by omega), ?_⟩
        rw [ck]
        have hm := mh0 (A := va_up A 0 t) (F := F) (X := X) hk36 v
        rw [vu_vu, vu_at] at hm
        exact qT (ih' (some (.int v))) rfl rfl hm
    refine pz_wp_ok (pz_Is_ok SX4_poursInto) [4, 46] 100 ?_
    refine br2 (fun z => ?_) ?_
    · have z : F 17 ≤ nI k := z
      rw [hn] at z
      exact n_ge (by omega) (by omega) (by omega) z
    have er : va_up A 0 t 13 k = row k := by rw [vu_ne _ _ (by omega), hrow]
    refine cS3_isNumber rfl hk24 (fun g => ?_) (fun g => ?_)
    · rw [er] at g
      refine br2 (by decide) ?_
      refine ⟨qin 0 rfl (by decide) (by decide), ?_⟩
      refine ⟨qin k rfl hk24 (by omega), ?_⟩
      rw [ck, er]
      refine fin _ ?_
      unfold f_is
      rw [if_neg g]
      exact mm_fw20 (row k)
    · rw [er] at g
      refine br1 (fun z => z rfl) ?_
      refine ⟨qin k rfl hk36 (by omega), ?_⟩
      have eh : qm 36 10 1 (va_up A 0 t 0) (nI k).toNatClampNeg = t (10 + k) := by rw [ck, vu_at, qm_1 hk36]
      rw [eh]
      refine fin _ ?_
      unfold f_is
      rw [if_pos g]
theorem cS3_pours {n : Nat} (hn : F 17 = nI n) (hb : n ≤ 24) (h : Q (some (.int (f_pr (A 13) (A 0) n).1)) (mem (va_up A 0 (f_pr (A 13) (A 0) n).2) F X)) : pz_C yX4_poursInto KX4_poursInto [.ref 52, .ref 5] (mem A F X) Q := by
  refine pz_C_of rfl rfl rfl (Nat.le_of_ble_eq_true rfl) (pz_wp_ok (pz_Is_ok SX4_poursInto) [4] 100 ?_)
  have hh := tS3_pours (t0 := A 0) (row := A 13) hn hb rfl h n 0 (by omega) none
  rw [f_pr, vu_s] at hh
  exact hh
set_option maxRecDepth 8000 in
theorem cS4_of0 (h : Q none (mem (va_up A 14 (qcp 24 (A 10) (A 14))) (upd (upd F 40 (F 10)) 45 (F 14)) X)) : pz_C yX4_becomes_ KX4_becomes_ [.ref 55, .ref 46] (mem A F X) Q := by
  refine pz_C_of rfl rfl rfl (Nat.le_of_ble_eq_true rfl) (pz_wp_ok (pz_Is_ok SX4_becomes_) [] 100 ?_)
  refine ⟨⟨by decide, by decide, by decide, by decide, by decide⟩, ?_⟩
  have e : va_cpy (A 10) (A 14) 0 0 24 = qcp 24 (A 10) (A 14) := by
    funext i
    unfold va_cpy qcp
    by_cases hi : i < 24
    · rw [if_pos (by omega), if_pos hi, Nat.zero_add, Nat.sub_zero]
    · rw [if_neg (by omega), if_neg hi]
  rw [← e] at h
  exact h
set_option maxRecDepth 8000 in
theorem cS4_of1 (h : Q none (mem (va_up A 14 (qcp 24 (A 11) (A 14))) (upd (upd F 40 (F 11)) 45 (F 15)) X)) : pz_C yX4_becomes_ KX4_becomes_ [.ref 55, .ref 48] (mem A F X) Q := by
  refine pz_C_of rfl rfl rfl (Nat.le_of_ble_eq_true rfl) (pz_wp_ok (pz_Is_ok SX4_becomes_) [] 100 ?_)
  refine ⟨⟨by decide, by decide, by decide, by decide, by decide⟩, ?_⟩
  have e : va_cpy (A 11) (A 14) 0 0 24 = qcp 24 (A 11) (A 14) := by
    funext i
    unfold va_cpy qcp
    by_cases hi : i < 24
    · rw [if_pos (by omega), if_pos hi, Nat.zero_add, Nat.sub_zero]
    · rw [if_neg (by omega), if_neg hi]
  rw [← e] at h
  exact h
set_option maxRecDepth 8000 in
theorem cS4_of2 (h : Q none (mem (va_up A 14 (qcp 24 (A 12) (A 14))) (upd (upd F 40 (F 12)) 45 (F 16)) X)) : pz_C yX4_becomes_ KX4_becomes_ [.ref 55, .ref 50] (mem A F X) Q := by
  refine pz_C_of rfl rfl rfl (Nat.le_of_ble_eq_true rfl) (pz_wp_ok (pz_Is_ok SX4_becomes_) [] 100 ?_)
  refine ⟨⟨by decide, by decide, by decide, by decide, by decide⟩, ?_⟩
  have e : va_cpy (A 12) (A 14) 0 0 24 = qcp 24 (A 12) (A 14) := by
    funext i
    unfold va_cpy qcp
    by_cases hi : i < 24
    · rw [if_pos (by omega), if_pos hi, Nat.zero_add, Nat.sub_zero]
    · rw [if_neg (by omega), if_neg hi]
  rw [← e] at h
  exact h
set_option maxRecDepth 8000 in
theorem cS4_of3 (h : Q none (mem (va_up A 14 (qcp 24 (A 13) (A 14))) (upd (upd F 40 (F 13)) 45 (F 17)) X)) : pz_C yX4_becomes_ KX4_becomes_ [.ref 55, .ref 52] (mem A F X) Q := by
  refine pz_C_of rfl rfl rfl (Nat.le_of_ble_eq_true rfl) (pz_wp_ok (pz_Is_ok SX4_becomes_) [] 100 ?_)
  refine ⟨⟨by decide, by decide, by decide, by decide, by decide⟩, ?_⟩
  have e : va_cpy (A 13) (A 14) 0 0 24 = qcp 24 (A 13) (A 14) := by
    funext i
    unfold va_cpy qcp
    by_cases hi : i < 24
    · rw [if_pos (by omega), if_pos hi, Nat.zero_add, Nat.sub_zero]
    · rw [if_neg (by omega), if_neg hi]
  rw [← e] at h
  exact h
set_option maxRecDepth 8000 in
theorem cS5_of0 (h : Q none (mem (va_up A 15 (qcp 24 (A 10) (A 15))) (upd (upd F 41 (F 10)) 46 (F 14)) X)) : pz_C yX4_becomes_ KX4_becomes_ [.ref 58, .ref 46] (mem A F X) Q := by
  refine pz_C_of rfl rfl rfl (Nat.le_of_ble_eq_true rfl) (pz_wp_ok (pz_Is_ok SX4_becomes_) [] 100 ?_)
  refine ⟨⟨by decide, by decide, by decide, by decide, by decide⟩, ?_⟩
  have e : va_cpy (A 10) (A 15) 0 0 24 = qcp 24 (A 10) (A 15) := by
    funext i
    unfold va_cpy qcp
    by_cases hi : i < 24
    · rw [if_pos (by omega), if_pos hi, Nat.zero_add, Nat.sub_zero]
    · rw [if_neg (by omega), if_neg hi]
  rw [← e] at h
  exact h
set_option maxRecDepth 8000 in
theorem cS5_of1 (h : Q none (mem (va_up A 15 (qcp 24 (A 11) (A 15))) (upd (upd F 41 (F 11)) 46 (F 15)) X)) : pz_C yX4_becomes_ KX4_becomes_ [.ref 58, .ref 48] (mem A F X) Q := by
  refine pz_C_of rfl rfl rfl (Nat.le_of_ble_eq_true rfl) (pz_wp_ok (pz_Is_ok SX4_becomes_) [] 100 ?_)
  refine ⟨⟨by decide, by decide, by decide, by decide, by decide⟩, ?_⟩
  have e : va_cpy (A 11) (A 15) 0 0 24 = qcp 24 (A 11) (A 15) := by
    funext i
    unfold va_cpy qcp
    by_cases hi : i < 24
    · rw [if_pos (by omega), if_pos hi, Nat.zero_add, Nat.sub_zero]
    · rw [if_neg (by omega), if_neg hi]
  rw [← e] at h
  exact h
set_option maxRecDepth 8000 in
theorem cS5_of2 (h : Q none (mem (va_up A 15 (qcp 24 (A 12) (A 15))) (upd (upd F 41 (F 12)) 46 (F 16)) X)) : pz_C yX4_becomes_ KX4_becomes_ [.ref 58, .ref 50] (mem A F X) Q := by
  refine pz_C_of rfl rfl rfl (Nat.le_of_ble_eq_true rfl) (pz_wp_ok (pz_Is_ok SX4_becomes_) [] 100 ?_)
  refine ⟨⟨by decide, by decide, by decide, by decide, by decide⟩, ?_⟩
  have e : va_cpy (A 12) (A 15) 0 0 24 = qcp 24 (A 12) (A 15) := by
    funext i
    unfold va_cpy qcp
    by_cases hi : i < 24
    · rw [if_pos (by omega), if_pos hi, Nat.zero_add, Nat.sub_zero]
    · rw [if_neg (by omega), if_neg hi]
  rw [← e] at h
  exact h
set_option maxRecDepth 8000 in
theorem cS5_of3 (h : Q none (mem (va_up A 15 (qcp 24 (A 13) (A 15))) (upd (upd F 41 (F 13)) 46 (F 17)) X)) : pz_C yX4_becomes_ KX4_becomes_ [.ref 58, .ref 52] (mem A F X) Q := by
  refine pz_C_of rfl rfl rfl (Nat.le_of_ble_eq_true rfl) (pz_wp_ok (pz_Is_ok SX4_becomes_) [] 100 ?_)
  refine ⟨⟨by decide, by decide, by decide, by decide, by decide⟩, ?_⟩
  have e : va_cpy (A 13) (A 15) 0 0 24 = qcp 24 (A 13) (A 15) := by
    funext i
    unfold va_cpy qcp
    by_cases hi : i < 24
    · rw [if_pos (by omega), if_pos hi, Nat.zero_add, Nat.sub_zero]
    · rw [if_neg (by omega), if_neg hi]
  rw [← e] at h
  exact h
set_option maxRecDepth 8000 in
theorem cS6_of0 (h : Q none (mem (va_up A 16 (qcp 24 (A 10) (A 16))) (upd (upd F 42 (F 10)) 47 (F 14)) X)) : pz_C yX4_becomes_ KX4_becomes_ [.ref 61, .ref 46] (mem A F X) Q := by
  refine pz_C_of rfl rfl rfl (Nat.le_of_ble_eq_true rfl) (pz_wp_ok (pz_Is_ok SX4_becomes_) [] 100 ?_)
  refine ⟨⟨by decide, by decide, by decide, by decide, by decide⟩, ?_⟩
  have e : va_cpy (A 10) (A 16) 0 0 24 = qcp 24 (A 10) (A 16) := by
    funext i
    unfold va_cpy qcp
    by_cases hi : i < 24
    · rw [if_pos (by omega), if_pos hi, Nat.zero_add, Nat.sub_zero]
    · rw [if_neg (by omega), if_neg hi]
  rw [← e] at h
  exact h
set_option maxRecDepth 8000 in
theorem cS6_of1 (h : Q none (mem (va_up A 16 (qcp 24 (A 11) (A 16))) (upd (upd F 42 (F 11)) 47 (F 15)) X)) : pz_C yX4_becomes_ KX4_becomes_ [.ref 61, .ref 48] (mem A F X) Q := by
  refine pz_C_of rfl rfl rfl (Nat.le_of_ble_eq_true rfl) (pz_wp_ok (pz_Is_ok SX4_becomes_) [] 100 ?_)
  refine ⟨⟨by decide, by decide, by decide, by decide, by decide⟩, ?_⟩
  have e : va_cpy (A 11) (A 16) 0 0 24 = qcp 24 (A 11) (A 16) := by
    funext i
    unfold va_cpy qcp
    by_cases hi : i < 24
    · rw [if_pos (by omega), if_pos hi, Nat.zero_add, Nat.sub_zero]
    · rw [if_neg (by omega), if_neg hi]
  rw [← e] at h
  exact h
set_option maxRecDepth 8000 in
theorem cS6_of2 (h : Q none (mem (va_up A 16 (qcp 24 (A 12) (A 16))) (upd (upd F 42 (F 12)) 47 (F 16)) X)) : pz_C yX4_becomes_ KX4_becomes_ [.ref 61, .ref 50] (mem A F X) Q := by
  refine pz_C_of rfl rfl rfl (Nat.le_of_ble_eq_true rfl) (pz_wp_ok (pz_Is_ok SX4_becomes_) [] 100 ?_)
  refine ⟨⟨by decide, by decide, by decide, by decide, by decide⟩, ?_⟩
  have e : va_cpy (A 12) (A 16) 0 0 24 = qcp 24 (A 12) (A 16) := by
    funext i
    unfold va_cpy qcp
    by_cases hi : i < 24
    · rw [if_pos (by omega), if_pos hi, Nat.zero_add, Nat.sub_zero]
    · rw [if_neg (by omega), if_neg hi]
  rw [← e] at h
  exact h
set_option maxRecDepth 8000 in
theorem cS6_of3 (h : Q none (mem (va_up A 16 (qcp 24 (A 13) (A 16))) (upd (upd F 42 (F 13)) 47 (F 17)) X)) : pz_C yX4_becomes_ KX4_becomes_ [.ref 61, .ref 52] (mem A F X) Q := by
  refine pz_C_of rfl rfl rfl (Nat.le_of_ble_eq_true rfl) (pz_wp_ok (pz_Is_ok SX4_becomes_) [] 100 ?_)
  refine ⟨⟨by decide, by decide, by decide, by decide, by decide⟩, ?_⟩
  have e : va_cpy (A 13) (A 16) 0 0 24 = qcp 24 (A 13) (A 16) := by
    funext i
    unfold va_cpy qcp
    by_cases hi : i < 24
    · rw [if_pos (by omega), if_pos hi, Nat.zero_add, Nat.sub_zero]
    · rw [if_neg (by omega), if_neg hi]
  rw [← e] at h
  exact h
set_option maxRecDepth 8000 in
theorem cS7_of0 (h : Q none (mem (va_up A 17 (qcp 24 (A 10) (A 17))) (upd (upd F 43 (F 10)) 48 (F 14)) X)) : pz_C yX4_becomes_ KX4_becomes_ [.ref 64, .ref 46] (mem A F X) Q := by
  refine pz_C_of rfl rfl rfl (Nat.le_of_ble_eq_true rfl) (pz_wp_ok (pz_Is_ok SX4_becomes_) [] 100 ?_)
  refine ⟨⟨by decide, by decide, by decide, by decide, by decide⟩, ?_⟩
  have e : va_cpy (A 10) (A 17) 0 0 24 = qcp 24 (A 10) (A 17) := by
    funext i
    unfold va_cpy qcp
    by_cases hi : i < 24
    · rw [if_pos (by omega), if_pos hi, Nat.zero_add, Nat.sub_zero]
    · rw [if_neg (by omega), if_neg hi]
  rw [← e] at h
  exact h
set_option maxRecDepth 8000 in
theorem cS7_of1 (h : Q none (mem (va_up A 17 (qcp 24 (A 11) (A 17))) (upd (upd F 43 (F 11)) 48 (F 15)) X)) : pz_C yX4_becomes_ KX4_becomes_ [.ref 64, .ref 48] (mem A F X) Q := by
  refine pz_C_of rfl rfl rfl (Nat.le_of_ble_eq_true rfl) (pz_wp_ok (pz_Is_ok SX4_becomes_) [] 100 ?_)
  refine ⟨⟨by decide, by decide, by decide, by decide, by decide⟩, ?_⟩
  have e : va_cpy (A 11) (A 17) 0 0 24 = qcp 24 (A 11) (A 17) := by
    funext i
    unfold va_cpy qcp
    by_cases hi : i < 24
    · rw [if_pos (by omega), if_pos hi, Nat.zero_add, Nat.sub_zero]
    · rw [if_neg (by omega), if_neg hi]
  rw [← e] at h
  exact h
set_option maxRecDepth 8000 in
theorem cS7_of2 (h : Q none (mem (va_up A 17 (qcp 24 (A 12) (A 17))) (upd (upd F 43 (F 12)) 48 (F 16)) X)) : pz_C yX4_becomes_ KX4_becomes_ [.ref 64, .ref 50] (mem A F X) Q := by
  refine pz_C_of rfl rfl rfl (Nat.le_of_ble_eq_true rfl) (pz_wp_ok (pz_Is_ok SX4_becomes_) [] 100 ?_)
  refine ⟨⟨by decide, by decide, by decide, by decide, by decide⟩, ?_⟩
  have e : va_cpy (A 12) (A 17) 0 0 24 = qcp 24 (A 12) (A 17) := by
    funext i
    unfold va_cpy qcp
    by_cases hi : i < 24
    · rw [if_pos (by omega), if_pos hi, Nat.zero_add, Nat.sub_zero]
    · rw [if_neg (by omega), if_neg hi]
  rw [← e] at h
  exact h
set_option maxRecDepth 8000 in
theorem cS7_of3 (h : Q none (mem (va_up A 17 (qcp 24 (A 13) (A 17))) (upd (upd F 43 (F 13)) 48 (F 17)) X)) : pz_C yX4_becomes_ KX4_becomes_ [.ref 64, .ref 52] (mem A F X) Q := by
  refine pz_C_of rfl rfl rfl (Nat.le_of_ble_eq_true rfl) (pz_wp_ok (pz_Is_ok SX4_becomes_) [] 100 ?_)
  refine ⟨⟨by decide, by decide, by decide, by decide, by decide⟩, ?_⟩
  have e : va_cpy (A 13) (A 17) 0 0 24 = qcp 24 (A 13) (A 17) := by
    funext i
    unfold va_cpy qcp
    by_cases hi : i < 24
    · rw [if_pos (by omega), if_pos hi, Nat.zero_add, Nat.sub_zero]
    · rw [if_neg (by omega), if_neg hi]
  rw [← e] at h
  exact h
set_option maxRecDepth 8000 in
theorem cS8_of0 (h : Q none (mem (va_up A 18 (qcp 24 (A 10) (A 18))) (upd (upd F 44 (F 10)) 49 (F 14)) X)) : pz_C yX4_becomes_ KX4_becomes_ [.ref 67, .ref 46] (mem A F X) Q := by
  refine pz_C_of rfl rfl rfl (Nat.le_of_ble_eq_true rfl) (pz_wp_ok (pz_Is_ok SX4_becomes_) [] 100 ?_)
  refine ⟨⟨by decide, by decide, by decide, by decide, by decide⟩, ?_⟩
  have e : va_cpy (A 10) (A 18) 0 0 24 = qcp 24 (A 10) (A 18) := by
    funext i
    unfold va_cpy qcp
    by_cases hi : i < 24
    · rw [if_pos (by omega), if_pos hi, Nat.zero_add, Nat.sub_zero]
    · rw [if_neg (by omega), if_neg hi]
  rw [← e] at h
  exact h
set_option maxRecDepth 8000 in
theorem cS8_of1 (h : Q none (mem (va_up A 18 (qcp 24 (A 11) (A 18))) (upd (upd F 44 (F 11)) 49 (F 15)) X)) : pz_C yX4_becomes_ KX4_becomes_ [.ref 67, .ref 48] (mem A F X) Q := by
  refine pz_C_of rfl rfl rfl (Nat.le_of_ble_eq_true rfl) (pz_wp_ok (pz_Is_ok SX4_becomes_) [] 100 ?_)
  refine ⟨⟨by decide, by decide, by decide, by decide, by decide⟩, ?_⟩
  have e : va_cpy (A 11) (A 18) 0 0 24 = qcp 24 (A 11) (A 18) := by
    funext i
    unfold va_cpy qcp
    by_cases hi : i < 24
    · rw [if_pos (by omega), if_pos hi, Nat.zero_add, Nat.sub_zero]
    · rw [if_neg (by omega), if_neg hi]
  rw [← e] at h
  exact h
set_option maxRecDepth 8000 in
theorem cS8_of2 (h : Q none (mem (va_up A 18 (qcp 24 (A 12) (A 18))) (upd (upd F 44 (F 12)) 49 (F 16)) X)) : pz_C yX4_becomes_ KX4_becomes_ [.ref 67, .ref 50] (mem A F X) Q := by
  refine pz_C_of rfl rfl rfl (Nat.le_of_ble_eq_true rfl) (pz_wp_ok (pz_Is_ok SX4_becomes_) [] 100 ?_)
  refine ⟨⟨by decide, by decide, by decide, by decide, by decide⟩, ?_⟩
  have e : va_cpy (A 12) (A 18) 0 0 24 = qcp 24 (A 12) (A 18) := by
    funext i
    unfold va_cpy qcp
    by_cases hi : i < 24
    · rw [if_pos (by omega), if_pos hi, Nat.zero_add, Nat.sub_zero]
    · rw [if_neg (by omega), if_neg hi]
  rw [← e] at h
  exact h
set_option maxRecDepth 8000 in
theorem cS8_of3 (h : Q none (mem (va_up A 18 (qcp 24 (A 13) (A 18))) (upd (upd F 44 (F 13)) 49 (F 17)) X)) : pz_C yX4_becomes_ KX4_becomes_ [.ref 67, .ref 52] (mem A F X) Q := by
  refine pz_C_of rfl rfl rfl (Nat.le_of_ble_eq_true rfl) (pz_wp_ok (pz_Is_ok SX4_becomes_) [] 100 ?_)
  refine ⟨⟨by decide, by decide, by decide, by decide, by decide⟩, ?_⟩
  have e : va_cpy (A 13) (A 18) 0 0 24 = qcp 24 (A 13) (A 18) := by
    funext i
    unfold va_cpy qcp
    by_cases hi : i < 24
    · rw [if_pos (by omega), if_pos hi, Nat.zero_add, Nat.sub_zero]
    · rw [if_neg (by omega), if_neg hi]
  rw [← e] at h
  exact h
end POT
