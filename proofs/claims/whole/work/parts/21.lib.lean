/-! small helps -/
abbrev z0 : pz_V → State → Prop := fun _ _ => True
theorem qQ {Q : pz_Q} {v v' : Option Value} {M M' : pz_M} (h : Q v' M') (hv : v = v') (hM : M = M') : Q v M := by rw [hv, hM]; exact h
theorem qC {y : MethodName} {κ : pz_K} {av av' : List Value} {M M' : pz_M} {Q : pz_Q} (h : pz_C y κ av' M' Q) (ha : av = av') (hM : M = M') : pz_C y κ av M Q := by rw [ha, hM]; exact h
theorem qT {φ : pz_V → State → Prop} {κ : pz_K} {Q : pz_Q} {pc : Nat} {u : Nat × Nat} {L L' : pz_L} {S S' : List Value} {M M' : pz_M} (h : pz_T φ κ Q pc u L' S' M') (hL : L = L') (hS : S = S') (hM : M = M') : pz_T φ κ Q pc u L S M := by rw [hL, hS, hM]; exact h
theorem qCw {y : MethodName} {κ : pz_K} {av : List Value} {M : pz_M} {Q Q' : pz_Q} (h : pz_C y κ av M Q) (hq : ∀ v M', Q v M' → Q' v M') : pz_C y κ av M Q' := by
  intro l E
  intro p e ha hc hk s m args below hf happ hP hx
  obtain ⟨n, o, h1, h2, h3, ⟨v, M', h4, h5, h6⟩, h7⟩ := h l E p e ha hc hk s m args below hf happ hP hx
  exact ⟨n, o, h1, h2, h3, ⟨v, M', h4, hq v M' h5, h6⟩, h7⟩
theorem br1 {c c' A B : Prop} (h' : ¬ c') (a : A) : (c → A) ∧ (c' → B) := ⟨fun _ => a, fun z => absurd z h'⟩
theorem br2 {c c' A B : Prop} (h : ¬ c) (b : B) : (c → A) ∧ (c' → B) := ⟨fun z => absurd z h, fun _ => b⟩
theorem qin {x : Int32} {N : Nat} (n : Nat) (hx : x = nI n) (h : n < N) (hN : N < 2147483648) : vp_in x N := by
  rw [hx]; exact vp_in_nI h (by omega)
theorem qcl {x : Int32} (n : Nat) (hx : x = nI n) (h : n < 2147483648) : x.toNatClampNeg = n := by
  rw [hx]; exact nI_clamp (by omega)
theorem nIi {n : Nat} (h : n < 2147483648) : (nI n).toInt = (n : Int) := nI_toInt (by omega)
theorem i_lt (a b : Int32) : a < b ↔ a.toInt < b.toInt := Int32.lt_iff_toInt_lt
theorem i_le (a b : Int32) : a ≤ b ↔ a.toInt ≤ b.toInt := Int32.le_iff_toInt_le
theorem i_eq (a b : Int32) : a = b ↔ a.toInt = b.toInt := ⟨fun h => by rw [h], fun h => Int32.toInt_inj.mp h⟩
theorem i_rng (x : Int32) : -2147483648 ≤ x.toInt ∧ x.toInt < 2147483648 := by
  have h1 := Int32.minValue_le_toInt x
  have h2 : x.toInt ≤ 2147483647 := Int32.toInt_le x
  have h3 : -2147483648 ≤ x.toInt := h1
  omega
theorem i_bmod {z : Int} (h1 : -2147483648 ≤ z) (h2 : z < 2147483648) : z.bmod (2 ^ 32) = z := by
  rw [Int.bmod_eq_of_le (by omega) (by omega)]
theorem i_add {x y : Int32} (h1 : -2147483648 ≤ x.toInt + y.toInt) (h2 : x.toInt + y.toInt < 2147483648) : (x + y).toInt = x.toInt + y.toInt := by
  rw [Int32.toInt_add]; exact i_bmod h1 h2
theorem i_sub {x y : Int32} (h1 : -2147483648 ≤ x.toInt - y.toInt) (h2 : x.toInt - y.toInt < 2147483648) : (x - y).toInt = x.toInt - y.toInt := by
  rw [Int32.toInt_sub]; exact i_bmod h1 h2
theorem i_mul {x y : Int32} (h1 : -2147483648 ≤ x.toInt * y.toInt) (h2 : x.toInt * y.toInt < 2147483648) : (x * y).toInt = x.toInt * y.toInt := by
  rw [Int32.toInt_mul]; exact i_bmod h1 h2
/-- x lies in lo .. hi -/
abbrev qIn (lo hi : Int) (x : Int32) : Prop := lo ≤ x.toInt ∧ x.toInt ≤ hi
theorem qIn_nat {x : Int32} {hi : Int} (h : qIn 0 hi x) : ∃ n : Nat, (n : Int) ≤ hi ∧ n < 2147483648 ∧ x = nI n := by
  obtain ⟨h1, h2⟩ := h
  have h3 := i_rng x
  refine ⟨x.toInt.toNat, by omega, by omega, ?_⟩
  rw [i_eq, nIi (by omega)]
  omega
def qcp (k : Nat) (f g : Nat → Int32) : Nat → Int32 := fun j => if j < k then f j else g j
theorem qcp_0 (f g : Nat → Int32) : qcp 0 f g = g := by funext j; simp [qcp]
theorem qcp_s (k : Nat) (f g : Nat → Int32) : upd (qcp k f g) k (f k) = qcp (k + 1) f g := by
  funext j
  unfold upd qcp
  by_cases h : j = k
  · subst h; rw [if_pos rfl, if_pos (by omega)]
  · rw [if_neg h]
    by_cases h2 : j < k
    · rw [if_pos h2, if_pos (by omega)]
    · rw [if_neg h2, if_neg (by omega)]
theorem upd_s (f : Nat → Int32) (k : Nat) : upd f k (f k) = f := by
  funext j; unfold upd; by_cases h : j = k
  · rw [if_pos h, h]
  · rw [if_neg h]
theorem upd_at (f : Nat → Int32) (k : Nat) (x : Int32) : upd f k x k = x := if_pos rfl
theorem upd_ne (f : Nat → Int32) {k j : Nat} (x : Int32) (h : j ≠ k) : upd f k x j = f j := if_neg h
theorem vu_at {α : Type} (f : Nat → α) (k : Nat) (x : α) : va_up f k x k = x := if_pos rfl
theorem vu_ne {α : Type} (f : Nat → α) {k j : Nat} (x : α) (h : j ≠ k) : va_up f k x j = f j := if_neg h
theorem vu_s {α : Type} (f : Nat → α) (k : Nat) : va_up f k (f k) = f := by
  funext j; unfold va_up; by_cases h : j = k
  · rw [if_pos h, h]
  · rw [if_neg h]
theorem vu_vu {α : Type} (f : Nat → α) (k : Nat) (x y : α) : va_up (va_up f k x) k y = va_up f k y := by
  funext j; unfold va_up; by_cases h : j = k
  · rw [if_pos h, if_pos h]
  · rw [if_neg h, if_neg h, if_neg h]
theorem upd_upd (f : Nat → Int32) (k : Nat) (x y : Int32) : upd (upd f k x) k y = upd f k y := by
  funext j; unfold upd; by_cases h : j = k
  · rw [if_pos h, if_pos h]
  · rw [if_neg h, if_neg h, if_neg h]
/-! the reference's small methods -/
theorem cM_isIn {M : pz_M} {Q : pz_Q} {v lo hi : Int64} (h1 : lo ≤ v ∧ v ≤ hi → Q (some (.int 1)) M) (h0 : ¬ (lo ≤ v ∧ v ≤ hi) → Q (some (.int 0)) M) : pz_C yX10_isIn KX10_isIn [.long v, .long lo, .long hi] M Q := by
  refine pz_C_of rfl rfl rfl (Nat.le_of_ble_eq_true rfl) (pz_wp_ok (pz_Is_ok SX10_isIn) [] 100 ?_)
  have key : ∀ a b : Int64, (lg_cmp a b < 0 ↔ a < b) ∧ (0 < lg_cmp a b ↔ b < a) := by
    intro a b
    unfold lg_cmp
    rcases Int.lt_trichotomy a.toInt b.toInt with h | h | h
    · have h' : ¬ b < a := by rw [Int64.lt_iff_toInt_lt]; omega
      have h'' : ¬ a = b := fun e => by rw [e] at h; omega
      have h3 : a < b := by rw [Int64.lt_iff_toInt_lt]; exact h
      rw [if_neg h', if_neg h'']
      exact ⟨⟨fun _ => h3, fun _ => by decide⟩, ⟨fun z => absurd z (by decide), fun z => absurd z h'⟩⟩
    · have h3 : a = b := Int64.toInt_inj.mp h
      subst h3
      have h' : ¬ a < a := by rw [Int64.lt_iff_toInt_lt]; omega
      rw [if_neg h', if_pos rfl]
      exact ⟨⟨fun z => absurd z (by decide), fun z => absurd z h'⟩, ⟨fun z => absurd z (by decide), fun z => absurd z h'⟩⟩
    · have h3 : b < a := by rw [Int64.lt_iff_toInt_lt]; exact h
      have h' : ¬ a < b := by rw [Int64.lt_iff_toInt_lt]; omega
      rw [if_pos h3]
      exact ⟨⟨fun z => absurd z (by decide), fun z => absurd z h'⟩, ⟨fun _ => h3, fun _ => by decide⟩⟩
  refine ⟨fun g => ?_, fun g => ?_⟩
  · have g := (key v lo).1.mp g
    refine ⟨by decide, h0 (fun z => ?_)⟩
    rw [Int64.lt_iff_toInt_lt] at g
    have := Int64.le_iff_toInt_le.mp z.1
    omega
  · have g : ¬ v < lo := fun z => g ((key v lo).1.mpr z)
    have gl : lo ≤ v := by rw [Int64.le_iff_toInt_le]; rw [Int64.lt_iff_toInt_lt] at g; omega
    refine ⟨fun g2 => ?_, fun g2 => ?_⟩
    · have g2 := (key v hi).2.mp g2
      refine ⟨by decide, h0 (fun z => ?_)⟩
      rw [Int64.lt_iff_toInt_lt] at g2
      have := Int64.le_iff_toInt_le.mp z.2
      omega
    · have g2 : ¬ hi < v := fun z => g2 ((key v hi).2.mpr z)
      exact ⟨by decide, h1 ⟨gl, by rw [Int64.le_iff_toInt_le]; rw [Int64.lt_iff_toInt_lt] at g2; omega⟩⟩
/-- isIn of ints -/
theorem cM_isIn3 {M : pz_M} {Q : pz_Q} {x : Int32} {lo hi : Int64} (a b : Int) (ha : lo.toInt = a) (hb : hi.toInt = b) (h1 : qIn a b x → Q (some (.int 1)) M) (h0 : ¬ qIn a b x → Q (some (.int 0)) M) : pz_C yX10_isIn KX10_isIn [.long x.toInt64, .long lo, .long hi] M Q := by
  have e : (lo ≤ x.toInt64 ∧ x.toInt64 ≤ hi) ↔ qIn a b x := by
    rw [Int64.le_iff_toInt_le, Int64.le_iff_toInt_le, Int32.toInt_toInt64, ha, hb]
  exact cM_isIn (fun z => h1 (e.mp z)) (fun z => h0 (fun w => z (e.mpr w)))
