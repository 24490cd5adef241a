/-! the town as one row t of numbers; the reference's methods on it -/
def qag (l : List Nat) (A A' : qA) : Prop := ∀ i, i ∉ l → A' i = A i
def qagF (l : List Nat) (F F' : qF) : Prop := ∀ i, i ∉ l → F' i = F i
theorem qag.refl (l : List Nat) (A : qA) : qag l A A := fun _ _ => rfl
theorem qag.up {l : List Nat} {A : qA} {k : Nat} {f : Nat → Int32} (h : k ∈ l) : qag l A (va_up A k f) := fun i hi => vu_ne A f (fun e => hi (e ▸ h))
theorem qag.trans {l : List Nat} {A B C : qA} (h : qag l A B) (h' : qag l B C) : qag l A C := fun i hi => (h' i hi).trans (h i hi)
theorem qag.mono {l l' : List Nat} {A B : qA} (h : qag l A B) (hl : ∀ i ∈ l, i ∈ l') : qag l' A B := fun i hi => h i (fun z => hi (hl i z))
theorem qagF.refl (l : List Nat) (F : qF) : qagF l F F := fun _ _ => rfl
theorem qagF.up {l : List Nat} {F : qF} {k : Nat} {v : Int32} (h : k ∈ l) : qagF l F (upd F k v) := fun i hi => upd_ne F v (fun e => hi (e ▸ h))
theorem qagF.trans {l : List Nat} {A B C : qF} (h : qagF l A B) (h' : qagF l B C) : qagF l A C := fun i hi => (h' i hi).trans (h i hi)
def f_lev (t : Nat → Int32) (c : Nat) : Int32 := 10 * (t (10 + c) + t (46 + c)) + t (82 + c)
def f_w (v most : Int32) : Int32 := if v < 0 then 0 else if most < v then most else v
def nb (c w : Nat) : Option Nat := match w with
  | 0 => if c % 6 = 5 then none else some (c + 1)
  | 1 => if c % 6 = 0 then none else some (c - 1)
  | 2 => if c + 6 < 36 then some (c + 6) else none
  | _ => if c < 6 then none else some (c - 6)
def ov (o : Option Nat) : Int32 := match o with
  | none => -1
  | some n => nI n
theorem i_nle {a b : Int32} : ¬ a ≤ b ↔ b < a := by rw [i_le, i_lt]; omega
theorem i_nlt {a b : Int32} : ¬ a < b ↔ b ≤ a := by rw [i_le, i_lt]; omega
theorem nb_lt {c w o : Nat} (hc : c < 36) (h : nb c w = some o) : o < 36 := by
  unfold nb at h
  split at h <;> split at h <;> first | (cases h; omega) | cases h
theorem nI_sub1 {a b : Nat} (h : b ≤ a) : nI a - nI b = nI (a - b) := pk_sub h
section MOD
variable {A : qA} {F : qF} {X : qX} {Q : pz_Q} {M : pz_M}
theorem cM_within {v m : Int32} (h : Q (some (.int (f_w v m))) M) : pz_C yX10_within KX10_within [.int v, .int m] M Q := by
  refine pz_C_of rfl rfl rfl (Nat.le_of_ble_eq_true rfl) (pz_wp_ok (pz_Is_ok SX10_within) [] 100 ?_)
  unfold f_w at h
  refine ⟨fun g => ?_, fun g => ?_⟩
  · rw [if_neg (i_nlt.mpr g)] at h
    refine ⟨fun g2 => ?_, fun g2 => ?_⟩
    · rw [if_neg (i_nlt.mpr g2)] at h; exact h
    · rw [if_pos (i_nle.mp g2)] at h; exact h
  · rw [if_pos (i_nle.mp g)] at h; exact h
theorem cM_orNone {v : Int32} (h : Q (some (.int (if v < 0 then -1000000005 else v))) M) : pz_C yX10_orNone KX10_orNone [.int v] M Q := by
  refine pz_C_of rfl rfl rfl (Nat.le_of_ble_eq_true rfl) (pz_wp_ok (pz_Is_ok SX10_orNone) [] 100 ?_)
  refine ⟨fun g => ?_, fun g => ?_⟩
  · rw [if_neg (i_nlt.mpr g)] at h; exact h
  · rw [if_pos (i_nle.mp g)] at h; exact h
theorem cM_off {a b : Int32} (h : Q (some (.int (if a < b then b - a else a - b))) M) : pz_C yX10_off KX10_off [.int a, .int b] M Q := by
  refine pz_C_of rfl rfl rfl (Nat.le_of_ble_eq_true rfl) (pz_wp_ok (pz_Is_ok SX10_off) [] 100 ?_)
  refine ⟨fun g => ?_, fun g => ?_⟩
  · rw [if_neg (i_nlt.mpr g)] at h; exact h
  · rw [if_pos (i_nle.mp g)] at h; exact h
theorem cM_isCell {x : Int32} (h1 : qIn 0 35 x → Q (some (.int 1)) M) (h0 : ¬ qIn 0 35 x → Q (some (.int 0)) M) : pz_C yX10_isCell KX10_isCell [.int x] M Q := by
  refine pz_C_of rfl rfl rfl (Nat.le_of_ble_eq_true rfl) (pz_wp_ok (pz_Is_ok SX10_isCell) [] 100 ?_)
  exact cM_isIn3 0 35 rfl rfl (fun g => ⟨Or.inr rfl, h1 g⟩) (fun g => ⟨Or.inl rfl, h0 g⟩)
theorem cM_isSheet {x : Int32} (h1 : qIn 0 3 x → Q (some (.int 1)) M) (h0 : ¬ qIn 0 3 x → Q (some (.int 0)) M) : pz_C yX10_isSheet KX10_isSheet [.int x] M Q := by
  refine pz_C_of rfl rfl rfl (Nat.le_of_ble_eq_true rfl) (pz_wp_ok (pz_Is_ok SX10_isSheet) [] 100 ?_)
  exact cM_isIn3 0 3 rfl rfl (fun g => ⟨Or.inr rfl, h1 g⟩) (fun g => ⟨Or.inl rfl, h0 g⟩)
theorem cM_isSlot {x : Int32} (h1 : qIn 0 4 x → Q (some (.int 1)) M) (h0 : ¬ qIn 0 4 x → Q (some (.int 0)) M) : pz_C yX10_isSlot KX10_isSlot [.int x] M Q := by
  refine pz_C_of rfl rfl rfl (Nat.le_of_ble_eq_true rfl) (pz_wp_ok (pz_Is_ok SX10_isSlot) [] 100 ?_)
  exact cM_isIn3 0 4 rfl rfl (fun g => ⟨Or.inr rfl, h1 g⟩) (fun g => ⟨Or.inl rfl, h0 g⟩)
theorem n_sub1 {n : Nat} (h : n < 2147483648) : (nI n - 1).toInt = (n : Int) - 1 := by
  have e1 : (1 : Int32).toInt = 1 := rfl
  rw [i_sub (by rw [nIi h, e1]; omega) (by rw [nIi h, e1]; omega), nIi h, e1]
theorem cM_isEater {x : Int32} {n : Nat} (hn : A 20 0 = nI n) (hb : n < 2147483648) (h1 : qIn 0 ((n : Int) - 1) x → Q (some (.int 1)) (mem A F X)) (h0 : ¬ qIn 0 ((n : Int) - 1) x → Q (some (.int 0)) (mem A F X)) : pz_C yX10_isEater KX10_isEater [.ref 69, .int x] (mem A F X) Q := by
  refine pz_C_of rfl rfl rfl (Nat.le_of_ble_eq_true rfl) (pz_wp_ok (pz_Is_ok SX10_isEater) [] 100 ?_)
  refine ⟨qin 0 rfl (by omega) (by omega), ?_⟩
  refine cM_isIn3 0 ((n : Int) - 1) rfl ?_ (fun g => ⟨Or.inr rfl, h1 g⟩) (fun g => ⟨Or.inl rfl, h0 g⟩)
  rw [Int32.toInt_toInt64]
  show (A 20 0 - 1).toInt = _
  rw [hn]
  exact n_sub1 hb
theorem cM_isText {x : Int32} {n : Nat} (hn : A 20 1 = nI n) (hb : n < 2147483648) (h1 : qIn 0 ((n : Int) - 1) x → Q (some (.int 1)) (mem A F X)) (h0 : ¬ qIn 0 ((n : Int) - 1) x → Q (some (.int 0)) (mem A F X)) : pz_C yX10_isText KX10_isText [.ref 69, .int x] (mem A F X) Q := by
  refine pz_C_of rfl rfl rfl (Nat.le_of_ble_eq_true rfl) (pz_wp_ok (pz_Is_ok SX10_isText) [] 100 ?_)
  refine ⟨qin 1 rfl (by omega) (by omega), ?_⟩
  refine cM_isIn3 0 ((n : Int) - 1) rfl ?_ (fun g => ⟨Or.inr rfl, h1 g⟩) (fun g => ⟨Or.inl rfl, h0 g⟩)
  rw [Int32.toInt_toInt64]
  show (A 20 1 - 1).toInt = _
  rw [hn]
  exact n_sub1 hb
theorem cM_parts {x : Int32} {c : Nat} (hx : x = nI c) (hc : c < 36) (h : Q (some (.int (A 20 (82 + c)))) (mem A F X)) : pz_C yX10_parts KX10_parts [.ref 69, .int x] (mem A F X) Q := by
  subst hx
  refine pz_C_of rfl rfl rfl (Nat.le_of_ble_eq_true rfl) (pz_wp_ok (pz_Is_ok SX10_parts) [] 100 ?_)
  have e : (82 : Int32) + nI c = nI (82 + c) := nI_add 82 c
  refine ⟨qin (82 + c) e (by omega) (by omega), ?_⟩
  rw [← qcl (82 + c) e (by omega)] at h
  exact h
theorem cM_level {x : Int32} {c : Nat} (hx : x = nI c) (hc : c < 36) (h : Q (some (.int (f_lev (A 20) c))) (mem A F X)) : pz_C yX10_level KX10_level [.ref 69, .int x] (mem A F X) Q := by
  subst hx
  refine pz_C_of rfl rfl rfl (Nat.le_of_ble_eq_true rfl) (pz_wp_ok (pz_Is_ok SX10_level) [] 100 ?_)
  have e1 : (10 : Int32) + nI c = nI (10 + c) := nI_add 10 c
  have e2 : (46 : Int32) + nI c = nI (46 + c) := nI_add 46 c
  refine ⟨qin (10 + c) e1 (by omega) (by omega), qin (46 + c) e2 (by omega) (by omega), cM_parts rfl hc ?_⟩
  unfold f_lev at h
  rw [← qcl (10 + c) e1 (by omega), ← qcl (46 + c) e2 (by omega)] at h
  exact h
theorem cM_of {k w : Nat} {x y : Int32} (hx : x = nI k) (hy : y = nI w) (hk : k < 8) (hw : w < 3) (h : Q (some (.int (A 20 (118 + 3 * k + w)))) (mem A F X)) : pz_C yX10_of KX10_of [.ref 69, .int x, .int y] (mem A F X) Q := by
  subst hx; subst hy
  refine pz_C_of rfl rfl rfl (Nat.le_of_ble_eq_true rfl) (pz_wp_ok (pz_Is_ok SX10_of) [] 100 ?_)
  have e : (118 : Int32) + 3 * nI k + nI w = nI (118 + 3 * k + w) := by
    rw [show (3 : Int32) * nI k = nI (3 * k) from pk_mul 3 k, show (118 : Int32) + nI (3 * k) = nI (118 + 3 * k) from nI_add 118 _, nI_add]
  refine ⟨qin (118 + 3 * k + w) e (by omega) (by omega), ?_⟩
  rw [← qcl (118 + 3 * k + w) e (by omega)] at h
  exact h
theorem cM_sets {k w : Nat} {x y v : Int32} (hx : x = nI k) (hy : y = nI w) (hk : k < 8) (hw : w < 3) (h : Q none (mem (va_up A 20 (upd (A 20) (118 + 3 * k + w) v)) F X)) : pz_C yX10_sets KX10_sets [.ref 69, .int x, .int y, .int v] (mem A F X) Q := by
  subst hx; subst hy
  refine pz_C_of rfl rfl rfl (Nat.le_of_ble_eq_true rfl) (pz_wp_ok (pz_Is_ok SX10_sets) [] 100 ?_)
  have e : (118 : Int32) + 3 * nI k + nI w = nI (118 + 3 * k + w) := by
    rw [show (3 : Int32) * nI k = nI (3 * k) from pk_mul 3 k, show (118 : Int32) + nI (3 * k) = nI (118 + 3 * k) from nI_add 118 _, nI_add]
  refine ⟨qin (118 + 3 * k + w) e (by omega) (by omega), ?_⟩
  rw [← qcl (118 + 3 * k + w) e (by omega)] at h
  exact h
theorem cM_becomes {n : Nat} {x v : Int32} (hx : x = nI n) (hn : n < 3142) (h : Q (some (.int (A 20 n))) (mem (va_up A 20 (upd (A 20) n v)) F X)) : pz_C yX10_becomes KX10_becomes [.ref 69, .int x, .int v] (mem A F X) Q := by
  subst hx
  refine pz_C_of rfl rfl rfl (Nat.le_of_ble_eq_true rfl) (pz_wp_ok (pz_Is_ok SX10_becomes) [] 100 ?_)
  refine ⟨qin n rfl (by omega) (by omega), qin n rfl (by omega) (by omega), ?_⟩
  rw [← qcl (x := nI n) n rfl (by omega)] at h
  exact h
theorem cM_textAt {n : Nat} {x : Int32} (hx : x = nI n) (h : Q (some (.int (nI (142 + 200 * n)))) (mem A F X)) : pz_C yX10_textAt KX10_textAt [.ref 69, .int x] (mem A F X) Q := by
  subst hx
  refine pz_C_of rfl rfl rfl (Nat.le_of_ble_eq_true rfl) (pz_wp_ok (pz_Is_ok SX10_textAt) [] 100 ?_)
  have e : (142 : Int32) + 200 * nI n = nI (142 + 200 * n) := by
    rw [show (200 : Int32) * nI n = nI (200 * n) from pk_mul 200 n]; exact nI_add 142 _
  rw [← e] at h
  exact h
def f_z (z : Int32) : Int32 := z * 1103515245 + 12345
def f_g (z : Int32) : Int32 := (z.toUInt32 >>> ((8 : Int32).toUInt32 &&& Int32.toUInt32 31)).toInt32
theorem cM_drawn (h : Q (some (.int (f_g (f_z (A 20 5))))) (mem (va_up A 20 (upd (A 20) 5 (f_z (A 20 5)))) F X)) : pz_C yX10_drawn KX10_drawn [.ref 69] (mem A F X) Q := by
  refine pz_C_of rfl rfl rfl (Nat.le_of_ble_eq_true rfl) (pz_wp_ok (pz_Is_ok SX10_drawn) [] 100 ?_)
  exact ⟨qin 5 rfl (by omega) (by omega), qin 5 rfl (by omega) (by omega), qin 5 rfl (by omega) (by omega), h⟩
end MOD
