/-! the reference: the tape -/
def s_trim (n x : Int32) : Int32 × Int32 := if qIn 0 n.toInt x then (x, x) else (BAD, n)
section MOD
variable {A A1 : qA} {F : qF} {X : qX} {Q : pz_Q} {M : pz_M}
set_option maxRecDepth 8000 in
theorem cM_trim {x : Int32} (h : Q (some (.int (s_trim (F 61) x).1)) (mem A (upd F 61 (s_trim (F 61) x).2) X)) : pz_C yX10_trim KX10_trim [.ref 69, .int x] (mem A F X) Q := by
  refine pz_C_of rfl rfl rfl (Nat.le_of_ble_eq_true rfl) (pz_wp_ok (pz_Is_ok SX10_trim) [] 100 ?_)
  unfold s_trim at h
  refine cM_isIn3 0 (F 61).toInt rfl (Int32.toInt_toInt64 _) (fun g => ?_) (fun g => ?_)
  · refine br1 (by decide) ?_
    rw [if_pos g] at h
    exact h
  · refine br2 (fun z => z rfl) ?_
    rw [if_neg g] at h
    rw [upd_s] at h
    exact h
/-- the sign at place i of the tape is a letter -/
def f_isL (tp : Nat → Int32) (n i : Nat) : Prop := i < n ∧ qIn 97 122 (tp i)
def f_isD (tp : Nat → Int32) (n i : Nat) : Prop := i < n ∧ qIn 48 57 (tp i)
set_option maxRecDepth 8000 in
theorem cM_isLetter {x : Int32} {n i : Nat} (hn : F 61 = nI n) (hb : n ≤ 96) (hx : x = nI i) (hi : i < 2147483648) (h1 : f_isL (A 34) n i → Q (some (.int 1)) (mem A F X)) (h0 : ¬ f_isL (A 34) n i → Q (some (.int 0)) (mem A F X)) : pz_C yX10_isLetter KX10_isLetter [.ref 69, .int x] (mem A F X) Q := by
  refine pz_C_of rfl rfl rfl (Nat.le_of_ble_eq_true rfl) (pz_wp_ok (pz_Is_ok SX10_isLetter) [] 100 ?_)
  refine ⟨fun g => ?_, fun g => ?_⟩
  · have g : F 61 ≤ x := g
    rw [hn, hx] at g
    have := (nI_leI (by omega) (by omega)).mp g
    exact ⟨Or.inl rfl, h0 (fun z => by have := z.1; omega)⟩
  · have g : ¬ F 61 ≤ x := g
    rw [hn, hx] at g
    have hlt : i < n := Nat.lt_of_not_le (fun z => g (nI_le z (by omega)))
    have ci := qcl i hx (by omega)
    refine ⟨qin i hx (by omega) (by omega), ?_⟩
    refine cM_isIn3 97 122 rfl rfl (fun g2 => ?_) (fun g2 => ?_)
    · rw [ci] at g2
      refine br2 (by decide) ?_
      exact ⟨Or.inr rfl, h1 ⟨hlt, g2⟩⟩
    · rw [ci] at g2
      refine br1 (fun z => z rfl) ?_
      exact ⟨Or.inl rfl, h0 (fun z => g2 z.2)⟩
set_option maxRecDepth 8000 in
theorem cM_isDigit {x : Int32} {n i : Nat} (hn : F 61 = nI n) (hb : n ≤ 96) (hx : x = nI i) (hi : i < 2147483648) (h1 : f_isD (A 34) n i → Q (some (.int 1)) (mem A F X)) (h0 : ¬ f_isD (A 34) n i → Q (some (.int 0)) (mem A F X)) : pz_C yX10_isDigit KX10_isDigit [.ref 69, .int x] (mem A F X) Q := by
  refine pz_C_of rfl rfl rfl (Nat.le_of_ble_eq_true rfl) (pz_wp_ok (pz_Is_ok SX10_isDigit) [] 100 ?_)
  refine ⟨fun g => ?_, fun g => ?_⟩
  · have g : F 61 ≤ x := g
    rw [hn, hx] at g
    have := (nI_leI (by omega) (by omega)).mp g
    exact ⟨Or.inl rfl, h0 (fun z => by have := z.1; omega)⟩
  · have g : ¬ F 61 ≤ x := g
    rw [hn, hx] at g
    have hlt : i < n := Nat.lt_of_not_le (fun z => g (nI_le z (by omega)))
    have ci := qcl i hx (by omega)
    refine ⟨qin i hx (by omega) (by omega), ?_⟩
    refine cM_isIn3 48 57 rfl rfl (fun g2 => ?_) (fun g2 => ?_)
    · rw [ci] at g2
      refine br2 (by decide) ?_
      exact ⟨Or.inr rfl, h1 ⟨hlt, g2⟩⟩
    · rw [ci] at g2
      refine br1 (fun z => z rfl) ?_
      exact ⟨Or.inl rfl, h0 (fun z => g2 z.2)⟩
end MOD
