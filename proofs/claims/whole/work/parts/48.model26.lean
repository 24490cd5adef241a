/-! the reference: isName, step -/
section MOD
variable {A A1 : qA} {F : qF} {X : qX} {Q : pz_Q} {M : pz_M}
def ntab : List (Int32 × Nat) := [(0, 28), (1, 52)]
set_option maxRecDepth 8000 in
theorem cM_isName {x c : Int32} {key : Nat} (hx : x = nI key) (hk : key < 3) (h1 : alw key c → Q (some (.int 1)) M) (h0 : ¬ alw key c → Q (some (.int 0)) M) : pz_C yX10_isName KX10_isName [.int x, .int c] M Q := by
  subst hx
  refine pz_C_of rfl rfl rfl (Nat.le_of_ble_eq_true rfl) (pz_wp_ok (pz_Is_ok SX10_isName) [1] 100 ?_)
  refine pz_T_sw (cs := ntab) (d := 70) SX10_isName.2.1 ?_
  have hk : key = 0 ∨ key = 1 ∨ key = 2 := by omega
  rcases hk with e | e | e
  · subst e
    rw [show pz_tgt (nI 0) ntab 70 = 28 by decide]
    refine pz_wp_ok (pz_Is_ok SX10_isName) [] 100 ?_
    refine ⟨fun g => ?_, fun g => ?_⟩
    · exact ⟨Or.inr rfl, h1 (Or.inl ⟨rfl, Or.inl g⟩)⟩
    refine ⟨fun g2 => ?_, fun g2 => ?_⟩
    · exact ⟨Or.inr rfl, h1 (Or.inl ⟨rfl, Or.inr (Or.inl g2)⟩)⟩
    refine ⟨fun g3 => ?_, fun g3 => ?_⟩
    · refine ⟨Or.inl rfl, h0 ?_⟩
      rintro (⟨-, z | z | z⟩ | ⟨z, -⟩ | ⟨z, -⟩)
      · exact g z
      · exact g2 z
      · exact g3 z
      · omega
      · omega
    · exact ⟨Or.inr rfl, h1 (Or.inl ⟨rfl, Or.inr (Or.inr g3)⟩)⟩
  · subst e
    rw [show pz_tgt (nI 1) ntab 70 = 52 by decide]
    refine pz_wp_ok (pz_Is_ok SX10_isName) [] 100 ?_
    refine ⟨fun g => ?_, fun g => ?_⟩
    · exact ⟨Or.inr rfl, h1 (Or.inr (Or.inl ⟨rfl, Or.inl g⟩))⟩
    refine ⟨fun g3 => ?_, fun g3 => ?_⟩
    · refine ⟨Or.inl rfl, h0 ?_⟩
      rintro (⟨z, -⟩ | ⟨-, z | z⟩ | ⟨z, -⟩)
      · omega
      · exact g z
      · exact g3 z
      · omega
    · exact ⟨Or.inr rfl, h1 (Or.inr (Or.inl ⟨rfl, Or.inr g3⟩))⟩
  · subst e
    rw [show pz_tgt (nI 2) ntab 70 = 70 by decide]
    refine pz_wp_ok (pz_Is_ok SX10_isName) [] 100 ?_
    refine ⟨fun g => ?_, fun g => ?_⟩
    · exact ⟨Or.inr rfl, h1 (Or.inr (Or.inr ⟨rfl, Or.inl g⟩))⟩
    refine ⟨fun g3 => ?_, fun g3 => ?_⟩
    · refine ⟨Or.inl rfl, h0 ?_⟩
      rintro (⟨z, -⟩ | ⟨z, -⟩ | ⟨-, z | z⟩)
      · omega
      · omega
      · exact g z
      · exact g3 z
    · exact ⟨Or.inr rfl, h1 (Or.inr (Or.inr ⟨rfl, Or.inr g3⟩))⟩
set_option maxRecDepth 8000 in
theorem cM_step {w v : Int32} {l a : Nat} (hl : F 69 = nI l) (ha : F 70 = nI a) (hb : a + 2 * l + 1 < 3142) (h : Q none (mem (va_up A 20 (upd (upd (A 20) (a + 2 * l) w) (a + 2 * l + 1) v)) (upd F 69 (nI (l + 1))) X)) : pz_C yX10_step KX10_step [.ref 69, .int w, .int v] (mem A F X) Q := by
  refine pz_C_of rfl rfl rfl (Nat.le_of_ble_eq_true rfl) (pz_wp_ok (pz_Is_ok SX10_step) [] 100 ?_)
  have e : F 70 + 2 * F 69 = nI (a + 2 * l) := by
    rw [hl, ha, show (2 : Int32) * nI l = nI (2 * l) from pk_mul 2 l]
    exact nI_add _ _
  have e1 : F 70 + 2 * F 69 + 1 = nI (a + 2 * l + 1) := by rw [e]; exact nI_1 _
  have el : F 69 + 1 = nI (l + 1) := by rw [hl]; exact nI_1 _
  have c := qcl _ e (by omega)
  have c1 := qcl _ e1 (by omega)
  refine ⟨qin _ e (by omega) (by omega), ?_⟩
  refine ⟨qin _ e1 (by omega) (by omega), ?_⟩
  rw [← el, ← c1, ← c] at h
  exact h
end MOD
