/-! the JDK's methods on texts outside; the texts that were made -/
abbrev KJ3_check : pz_K := (RJ3, cJ3_checkIndex_8e157, 3, 0, "checkIndex", 0, 0, (some .int))
theorem wj660 : Cond.methodLink RJ0 1059 yJ3_checkIndex_8e157 ∈ pz_TB := pz_at 660 (by decide +kernel) rfl
theorem wj661 : Cond.static yJ3_checkIndex_8e157 ∈ pz_TB := pz_at 661 (by decide +kernel) rfl
theorem wj78 : Cond.initialized RJ3 ∈ pz_TB := pz_at 78 (by decide +kernel) rfl
theorem wj662 : Cond.code yJ3_checkIndex_8e157 cJ3_checkIndex_8e157 3 (some .int) ∈ pz_TB := pz_at 662 (by decide +kernel) rfl
theorem ydJ3 : yJ3_checkIndex_8e157.cls ≠ "java/lang/invoke/MethodHandle" ∧ yJ3_checkIndex_8e157.cls ≠ "java/lang/invoke/VarHandle" ∧ (parseMethodDescriptor yJ3_checkIndex_8e157.desc).map (fun d => d.parameters.length) = some 3 ∧ 3 ≤ 21 := by decide +kernel
theorem okJ3 : pz_okS RJ0 1059 yJ3_checkIndex_8e157 cJ3_checkIndex_8e157 3 (some .int) 3 := ⟨pz_f4 wj660 wj661 wj78 wj662, ydJ3⟩
def IJ3_check : List (Nat × pz_I) := [(0, pz_il 0 1), (1, pz_iflt 9 4), (4, pz_il 0 5), (5, pz_il 1 6), (6, pz_iclt 16 9), (16, pz_il 0 17), (17, pz_ret)]
theorem SJ3_check : pz_Is KJ3_check IJ3_check := ⟨pz_s_iload_n (a := 0) (by decide +kernel) rfl, pz_s_if_lt (off := 8) (by decide +kernel) (by decide), pz_s_iload_n (a := 0) (by decide +kernel) rfl, pz_s_iload_n (a := 1) (by decide +kernel) rfl, pz_s_icmp_lt (off := 10) (by decide +kernel) (by decide), pz_s_iload_n (a := 0) (by decide +kernel) rfl, pz_s_ireturn (by decide +kernel) rfl, trivial⟩
def IJ0_chk2 : List (Nat × pz_I) := [(5, pz_cs yJ3_checkIndex_8e157 KJ3_check 3 8)]
theorem SJ0_chk2 : pz_Is KJ0_checkIndex_df160 IJ0_chk2 := ⟨pz_s_cs (by decide +kernel) okJ3 (by decide) ⟨rfl, rfl⟩, trivial⟩
theorem SJ0_chk : pz_Is KJ0_checkIndex_df160 (IJ0_checkIndex_df160 ++ IJ0_chk2) := pz_Is_app SJ0_checkIndex_df160 SJ0_chk2
section POT
variable {A A1 : qA} {F : qF} {X : qX} {Q : pz_Q} {M : pz_M}
theorem cJ3_check {x n : Int32} {v : Value} (hv : v = .null ∨ v = .ref 1000040) (h0 : ¬ x < 0) (h1 : x < n) (h : Q (some (.int x)) M) : pz_C yJ3_checkIndex_8e157 KJ3_check [.int x, .int n, v] M Q := by
  rcases hv with e | e <;> subst e
  · refine pz_C_of rfl rfl rfl (Nat.le_of_ble_eq_true rfl) (pz_wp_ok (pz_Is_ok SJ3_check) [] 100 ?_)
    exact br2 h0 (br1 (fun z => z h1) h)
  · refine pz_C_of rfl rfl rfl (Nat.le_of_ble_eq_true rfl) (pz_wp_ok (pz_Is_ok SJ3_check) [] 100 ?_)
    exact br2 h0 (br1 (fun z => z h1) h)
theorem cJ0_check {x n : Int32} (h0 : ¬ x < 0) (h1 : x < n) (h : Q none M) : pz_C yJ0_checkIndex_df160 KJ0_checkIndex_df160 [.int x, .int n] M Q := by
  refine pz_C_of rfl rfl rfl (Nat.le_of_ble_eq_true rfl) (pz_wp_ok (pz_Is_ok SJ0_chk) [] 100 ?_)
  exact ⟨cJ3_check (Or.inl rfl) h0 h1 h, cJ3_check (Or.inr rfl) h0 h1 h⟩
theorem cJ_coder {i : Nat} (hi : i < 6) (h : Q (some (.int 0)) M) : pz_C yJ0_coder_7d493 KJ0_coder_7d493 [.ref (1000010 + i)] M Q := by
  have : i = 0 ∨ i = 1 ∨ i = 2 ∨ i = 3 ∨ i = 4 ∨ i = 5 := by omega
  rcases this with e | e | e | e | e | e <;> subst e <;>
  · refine pz_C_of rfl rfl rfl (Nat.le_of_ble_eq_true rfl) (pz_wp_ok (pz_Is_ok SJ0_coder_7d493) [] 100 ?_)
    exact br2 (by decide) ⟨rfl, h⟩
theorem cJ_latin {i : Nat} (hi : i < 6) (h : Q (some (.int 1)) M) : pz_C yJ0_isLatin1_aae02 KJ0_isLatin1_aae02 [.ref (1000010 + i)] M Q := by
  have : i = 0 ∨ i = 1 ∨ i = 2 ∨ i = 3 ∨ i = 4 ∨ i = 5 := by omega
  rcases this with e | e | e | e | e | e <;> subst e <;>
  · refine pz_C_of rfl rfl rfl (Nat.le_of_ble_eq_true rfl) (pz_wp_ok (pz_Is_ok SJ0_isLatin1_aae02) [] 100 ?_)
    exact br2 (by decide) (br2 (fun z => z rfl) ⟨Or.inr rfl, h⟩)
theorem sh0 (n : Nat) (h : n < 100) : nI n >>> ((0 : Int32) &&& 31) = nI n := by
  have := pk_shrN (n := n) (by omega) ((0 : Int32) &&& 31) 0 (by decide)
  rw [this, Nat.pow_zero, Nat.div_one]
theorem cJ_length {i : Nat} (hi : i < 6) (h : Q (some (.int (nI (pz_len.getD i 0)))) M) : pz_C yJ0_length_8abf5 KJ0_length_8abf5 [.ref (1000010 + i)] M Q := by
  have : i = 0 ∨ i = 1 ∨ i = 2 ∨ i = 3 ∨ i = 4 ∨ i = 5 := by omega
  rcases this with e | e | e | e | e | e <;> subst e <;>
  · refine pz_C_of rfl rfl rfl (Nat.le_of_ble_eq_true rfl) (pz_wp_ok (pz_Is_ok SJ0_length_8abf5) [] 100 ?_)
    refine cJ_coder (by omega) ?_
    rw [← sh0 _ (by decide)] at h
    exact h
theorem byt_v : ∀ i, i < 6 → ∀ j, j < 4 → ((((pz_byt.getD i []).getD j 0) &&& 255).toUInt32 % 65536).toInt32 = (pz_byt.getD i []).getD j 0 := by decide
theorem cJ1_charAt {i j : Nat} {x : Int32} (hi : i < 6) (hx : x = nI j) (hj : j < pz_len.getD i 0) (h : Q (some (.int ((pz_byt.getD i []).getD j 0))) M) : pz_C yJ1_charAt_3b067 KJ1_charAt_3b067 [.ref (1000020 + i), .int x] M Q := by
  subst hx
  have hj4 : j < 4 := by
    have : ∀ i, i < 6 → pz_len.getD i 0 ≤ 4 := by decide
    have := this i hi
    omega
  have cj := qcl (x := nI j) j rfl (by omega)
  have hv := byt_v i hi j hj4
  have n0 : ¬ nI j < 0 := i_nlt.mpr (nI_pos' (by omega))
  have n1 : nI j < nI (pz_len.getD i 0) := by
    have : ∀ i, i < 6 → pz_len.getD i 0 ≤ 4 := by decide
    have := this i hi
    rw [i_lt, nIi (by omega), nIi (by omega)]
    omega
  have : i = 0 ∨ i = 1 ∨ i = 2 ∨ i = 3 ∨ i = 4 ∨ i = 5 := by omega
  rcases this with e | e | e | e | e | e <;> subst e <;>
  · refine pz_C_of rfl rfl rfl (Nat.le_of_ble_eq_true rfl) (pz_wp_ok (pz_Is_ok SJ1_charAt_3b067) [] 100 ?_)
    refine cJ0_check n0 n1 ?_
    refine ⟨qin j rfl hj (by decide), ?_⟩
    rw [cj]
    rw [← hv] at h
    refine ⟨?_, h⟩
    rw [hv]
    have : j = 0 ∨ j = 1 ∨ j = 2 ∨ j = 3 := by omega
    rcases this with e | e | e | e <;> subst e <;> decide
theorem cJ_charAt {i j : Nat} {x : Int32} (hi : i < 6) (hx : x = nI j) (hj : j < pz_len.getD i 0) (h : Q (some (.int ((pz_byt.getD i []).getD j 0))) M) : pz_C yJ0_charAt_5068e KJ0_charAt_5068e [.ref (1000010 + i), .int x] M Q := by
  have hj4 : j < 4 := by
    have : ∀ i, i < 6 → pz_len.getD i 0 ≤ 4 := by decide
    have := this i hi
    omega
  have hc : narrow .char (.int ((pz_byt.getD i []).getD j 0)) = .int ((pz_byt.getD i []).getD j 0) := by
    have h6 : i = 0 ∨ i = 1 ∨ i = 2 ∨ i = 3 ∨ i = 4 ∨ i = 5 := by omega
    have h4 : j = 0 ∨ j = 1 ∨ j = 2 ∨ j = 3 := by omega
    rcases h6 with e | e | e | e | e | e <;> subst e <;> rcases h4 with e | e | e | e <;> subst e <;> decide
  have : i = 0 ∨ i = 1 ∨ i = 2 ∨ i = 3 ∨ i = 4 ∨ i = 5 := by omega
  rcases this with e | e | e | e | e | e <;> subst e <;>
  · refine pz_C_of rfl rfl rfl (Nat.le_of_ble_eq_true rfl) (pz_wp_ok (pz_Is_ok SJ0_charAt_5068e) [] 100 ?_)
    refine cJ_latin (by omega) ?_
    refine br2 (by decide) ?_
    refine cJ1_charAt (by omega) hx hj ?_
    exact ⟨hc, h⟩
end POT
