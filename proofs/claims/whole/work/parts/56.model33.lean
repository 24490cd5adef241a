/-! the reference: isWordAt, key, parse, text -/
def k_wd (T : Nat → Int32) (x : Nat × Nat × Nat) (a b c d : Int32) : Bool := decide (x.1 = 1 ∧ x.2.2 - x.2.1 = (if d = 0 then 3 else 4) ∧ T x.2.1 = a ∧ T (x.2.1 + 1) = b ∧ T (x.2.1 + 2) = c ∧ (d = 0 ∨ T (x.2.1 + 3) = d))
def k_key (T : Nat → Int32) (x : Nat × Nat × Nat) : Option Nat := if k_wd T x 98 111 105 108 = true then some 0 else if k_wd T x 102 101 101 0 = true then some 1 else if k_wd T x 102 105 110 101 = true then some 2 else none
theorem k_key_lt {T : Nat → Int32} {x : Nat × Nat × Nat} {key : Nat} (h : k_key T x = some key) : key < 3 := by
  unfold k_key at h
  split at h
  · cases h; omega
  · split at h
    · cases h; omega
    · split at h
      · cases h; omega
      · cases h
def k_read (T : Nat → Int32) (n : Nat) : (Nat × kS) ⊕ Nat := match k_key T (k_tok T n 3 0) with
  | none => .inr (k_tok T n 3 0).2.1
  | some key => match k_expr T n (k_part T n key 17 0 0) (k_nx T n (k_tok T n 3 0, 0, [])) with
    | .inr e => .inr e
    | .inl x => if x.1.1 = 0 then .inl (key, x) else .inr x.1.2.1
def f_la (nt : Nat) : Nat := if nt < 14 then 142 + 200 * nt + 4 else 2942
/-- the reference after a reading: what may be otherwise -/
def kE (A : qA) (F : qF) (a : Nat) (A' : qA) (F' : qF) : Prop := qag [20] A A' ∧ (∀ j, (j < a ∨ a + 192 ≤ j) → A' 20 j = A 20 j) ∧ qagF [61, 62, 63, 64, 65, 66, 67, 68, 69, 70, 71] F F' ∧ F' 61 = 0
section MOD
variable {A A1 : qA} {F : qF} {X : qX} {Q : pz_Q} {M : pz_M}
set_option maxRecDepth 8000 in
theorem tM_w12 {w1 w2 w3 w4 : Int32} {x : Nat × Nat × Nat} {n m : Nat} (hn : n ≤ 96) (hR : kR (A 34) F n x) (hk : k_ok (A 34) n x) (hm : m = if w4 = 0 then 3 else 4) (h1 : k_wd (A 34) x w1 w2 w3 w4 = true → Q (some (.int 1)) (mem A F X)) (h0 : ¬ k_wd (A 34) x w1 w2 w3 w4 = true → Q (some (.int 0)) (mem A F X)) : pz_T z0 KX10_isWordAt Q 12 (0, 0) [some (.ref 69), some (.int w1), some (.int w2), some (.int w3), some (.int w4), some (.int (nI m))] [] (mem A F X) := by
  obtain ⟨r1, r2, r3, r4, -⟩ := hR
  obtain ⟨k1, k2, k3, k4, -⟩ := hk
  have hm34 : m = 3 ∨ m = 4 := by
    by_cases z : w4 = 0
    · rw [if_pos z] at hm; omega
    · rw [if_neg z] at hm; omega
  unfold k_wd at h1 h0
  rw [decide_eq_true_iff, ← hm] at h1 h0
  have ed : F 63 - F 62 = nI (x.2.2 - x.2.1) := by rw [r2, r3]; exact nI_sub1 k1
  have s1 : F 62 + 1 = nI (x.2.1 + 1) := by rw [r2]; exact nI_1 _
  have s2 : F 62 + 2 = nI (x.2.1 + 2) := by rw [r2]; exact nI_add _ 2
  have s3 : F 62 + 3 = nI (x.2.1 + 3) := by rw [r2]; exact nI_add _ 3
  have c0 := qcl _ r2 (by omega)
  have c1 := qcl _ s1 (by omega)
  have c2 := qcl _ s2 (by omega)
  have c3 := qcl _ s3 (by omega)
  refine pz_wp_ok (pz_Is_ok SX10_isWordAt) [] 100 ?_
  refine ⟨fun g => ?_, fun g => ?_⟩
  · have g : ¬ F 64 = 1 := g
    rw [r4] at g
    exact ⟨Or.inl rfl, h0 (fun z => g (by rw [z.1]; rfl))⟩
  have g : F 64 = 1 := g
  rw [r4] at g
  have g1 : x.1 = 1 := (nI_eq (a := x.1) (b := 1) (by omega) (by omega)).mp g
  refine ⟨fun g => ?_, fun g => ?_⟩
  · have g : ¬ F 63 - F 62 = nI m := g
    rw [ed] at g
    exact ⟨Or.inl rfl, h0 (fun z => g (by rw [z.2.1]))⟩
  have g : F 63 - F 62 = nI m := g
  rw [ed] at g
  have g2 := (nI_eq (by omega) (by omega)).mp g
  refine ⟨qin _ r2 (by omega) (by omega), ?_⟩
  refine ⟨fun g => ?_, fun g => ?_⟩
  · have g : ¬ A 34 (F 62).toNatClampNeg = w1 := g
    rw [c0] at g
    exact ⟨Or.inl rfl, h0 (fun z => g z.2.2.1)⟩
  have g3 : A 34 (F 62).toNatClampNeg = w1 := g
  rw [c0] at g3
  refine ⟨qin _ s1 (by omega) (by omega), ?_⟩
  refine ⟨fun g => ?_, fun g => ?_⟩
  · have g : ¬ A 34 (F 62 + 1).toNatClampNeg = w2 := g
    rw [c1] at g
    exact ⟨Or.inl rfl, h0 (fun z => g z.2.2.2.1)⟩
  have g4 : A 34 (F 62 + 1).toNatClampNeg = w2 := g
  rw [c1] at g4
  refine ⟨qin _ s2 (by omega) (by omega), ?_⟩
  refine ⟨fun g => ?_, fun g => ?_⟩
  · have g : ¬ A 34 (F 62 + 2).toNatClampNeg = w3 := g
    rw [c2] at g
    exact ⟨Or.inl rfl, h0 (fun z => g z.2.2.2.2.1)⟩
  have g5 : A 34 (F 62 + 2).toNatClampNeg = w3 := g
  rw [c2] at g5
  refine ⟨fun g => ?_, fun g => ?_⟩
  · exact ⟨Or.inr rfl, h1 ⟨g1, g2, g3, g4, g5, Or.inl g⟩⟩
  have g6 : ¬ w4 = 0 := g
  rw [if_neg g6] at hm
  refine ⟨qin _ s3 (by omega) (by omega), ?_⟩
  refine ⟨fun g => ?_, fun g => ?_⟩
  · have g : ¬ A 34 (F 62 + 3).toNatClampNeg = w4 := g
    rw [c3] at g
    exact ⟨Or.inl rfl, h0 (fun z => z.2.2.2.2.2.elim g6 g)⟩
  · have g : A 34 (F 62 + 3).toNatClampNeg = w4 := g
    rw [c3] at g
    exact ⟨Or.inr rfl, h1 ⟨g1, g2, g3, g4, g5, Or.inr g⟩⟩
set_option maxRecDepth 8000 in
theorem cM_isWordAt {w1 w2 w3 w4 : Int32} {x : Nat × Nat × Nat} {n : Nat} (hn : n ≤ 96) (hR : kR (A 34) F n x) (hk : k_ok (A 34) n x) (h1 : k_wd (A 34) x w1 w2 w3 w4 = true → Q (some (.int 1)) (mem A F X)) (h0 : ¬ k_wd (A 34) x w1 w2 w3 w4 = true → Q (some (.int 0)) (mem A F X)) : pz_C yX10_isWordAt KX10_isWordAt [.ref 69, .int w1, .int w2, .int w3, .int w4] (mem A F X) Q := by
  refine pz_C_of rfl rfl rfl (Nat.le_of_ble_eq_true rfl) (pz_wp_ok (pz_Is_ok SX10_isWordAt) [12] 100 ?_)
  refine ⟨fun g => ?_, fun g => ?_⟩
  · have g : ¬ w4 = 0 := g
    exact tM_w12 (m := 4) hn hR hk (by rw [if_neg g]) h1 h0
  · have g : w4 = 0 := g
    exact tM_w12 (m := 3) hn hR hk (by rw [if_pos g]) h1 h0
set_option maxRecDepth 8000 in
theorem cM_key {x : Nat × Nat × Nat} {n : Nat} (hn : n ≤ 96) (hR : kR (A 34) F n x) (hk : k_ok (A 34) n x) (h : Q (some (.int (ov (k_key (A 34) x)))) (mem A F X)) : pz_C yX10_key KX10_key [.ref 69] (mem A F X) Q := by
  refine pz_C_of rfl rfl rfl (Nat.le_of_ble_eq_true rfl) (pz_wp_ok (pz_Is_ok SX10_key) [] 100 ?_)
  unfold k_key at h
  refine cM_isWordAt hn hR hk (fun g => ?_) (fun g => ?_)
  · refine br2 (by decide) ?_
    rw [if_pos g] at h
    exact h
  rw [if_neg g] at h
  refine br1 (fun z => z rfl) ?_
  refine cM_isWordAt hn hR hk (fun g => ?_) (fun g => ?_)
  · refine br2 (by decide) ?_
    rw [if_pos g] at h
    exact h
  rw [if_neg g] at h
  refine br1 (fun z => z rfl) ?_
  refine cM_isWordAt hn hR hk (fun g => ?_) (fun g => ?_)
  · refine br2 (by decide) ?_
    rw [if_pos g] at h
    exact h
  rw [if_neg g] at h
  refine br1 (fun z => z rfl) ?_
  exact h
set_option maxRecDepth 8000 in
theorem tM_parse63 {n a : Nat} (ha : a + 192 ≤ 3142) (hn : n ≤ 96) (h61 : F 61 = nI n) (h63 : F 63 = 0) (h64 : F 64 = 3) (h67 : F 67 = 0) (h68 : F 68 = 0) (h69 : F 69 = 0) (h70 : F 70 = nI a) (h71 : F 71 = 0)
    (h1 : ∀ (key : Nat) (x : kS) (A' : qA) (F' : qF), k_read (A 34) n = .inl (key, x) → kE A F a A' F' → F' 69 = nI x.2.2.length → F' 71 = nI x.2.1 → (∀ k p, x.2.2[k]? = some p → A' 20 (a + 2 * k) = p.1 ∧ A' 20 (a + 2 * k + 1) = p.2) → Q (some (.int (nI key))) (mem A' F' X))
    (h0 : ∀ (e : Nat) (A' : qA) (F' : qF), k_read (A 34) n = .inr e → kE A F a A' F' → F' 62 = nI e → Q (some (.int (-1))) (mem A' F' X)) : pz_T z0 KX10_parse Q 63 (0, 0) [some (.ref 69), none, none] [] (mem A F X) := by
  have hG : kG F a n := ⟨h70, ha, hn⟩
  obtain ⟨t1, -⟩ := k_tok_ok (A 34) (n := n) (e := 0) 3 (by omega)
  refine pz_wp_ok (pz_Is_ok SX10_parse) [111] 100 ?_
  refine cM_nextToken (srt := 3) (e := 0) hn (by omega) (by omega) (fun z => by omega) h61 h63 h64 (fun F1 hF1 hR1 => ?_)
  have hP1 : kP A F a n A F1 (k_tok (A 34) n 3 0, 0, []) 0 0 := ⟨⟨qag.refl _ _, fun _ _ => rfl, fun i hi => hF1 i (by simp at hi ⊢; omega)⟩, hR1, by rw [hF1 67 (by simp)]; exact h67, by rw [hF1 68 (by simp)]; exact h68, by rw [hF1 69 (by simp)]; exact h69, by rw [hF1 71 (by simp)]; exact h71, fun k p hk => by cases hk⟩
  refine cM_key hn hR1 t1 ?_
  have fin0 : ∀ (e : Nat) (A' : qA) (F' : qF) (x1 : Int32), k_read (A 34) n = .inr e → kB A F a A' F' → F' 62 = nI e → pz_T z0 KX10_parse Q 111 (0, 0) [some (.ref 69), some (.int x1), some (.int 0)] [] (mem A' F' X) := fun e A' F' x1 he hB hb => by
    refine pz_wp_ok (pz_Is_ok SX10_parse) [] 100 ?_
    refine br1 (fun z => z rfl) ?_
    exact h0 e A' (upd F' 61 0) he ⟨hB.1, hB.2.1, (show qagF [61, 62, 63, 64, 65, 66, 67, 68, 69, 70, 71] F F' from fun i hi => hB.2.2 i (by simp at hi ⊢; omega)).trans (qagF.up (by simp)), upd_at _ _ _⟩ (by rw [upd_ne _ _ (by omega)]; exact hb)
  unfold k_read at h1 fin0
  cases hkey : k_key (A 34) (k_tok (A 34) n 3 0) with
  | none =>
    rw [hkey] at fin0
    refine br1 (by decide) ?_
    refine br1 (fun z => z rfl) ?_
    exact fin0 _ A F1 _ rfl hP1.1 (kP_begin hP1)
  | some key =>
    have hk3 := k_key_lt hkey
    rw [hkey] at fin0 h1
    dsimp only at fin0 h1
    refine br2 (i_nlt.mpr (nI_pos' (by omega))) ?_
    refine br2 (by decide) ?_
    refine kP_next hG hP1 t1 (fun F2 hP2 => ?_)
    obtain ⟨a1, a2⟩ := k_ok_nx (x := (k_tok (A 34) n 3 0, 0, [])) t1
    have hpt := k_part_to (A 34) n key 17 0 0
    have hex := cM_either (X := X) hG (k_both_to hpt) (cM_both (X := X) hG (k_test_to hpt) (cM_test (X := X) hG (k_sum_to hpt) (cM_sum (X := X) hG (k_term_to hpt) (cM_term (X := X) hG hpt (cM_part0 hG hk3 17 0 0 143 (by omega) (by omega) (by omega) (by omega))))))
    refine hex A F2 _ _ hP2 a1 (Nat.zero_le _) (fun A3 F3 y hy hP3 => ?_) (fun A3 F3 e he hB hb => ?_)
    · refine br2 (by decide) ?_
      have hy' : k_expr (A 34) n (k_part (A 34) n key 17 0 0) (k_nx (A 34) n (k_tok (A 34) n 3 0, 0, [])) = .inl y := hy
      rw [hy'] at fin0 h1
      dsimp only at fin0 h1
      have r := hP3.2.1
      have b := (k_room0 (k_expr_to hpt) a1 (Nat.zero_le _) hy').1
      have b5 := b.2.2.1
      refine ⟨fun g => ?_, fun g => ?_⟩
      · have g : ¬ F3 64 = 0 := g
        rw [r.2.2.2.1] at g
        have g : ¬ y.1.1 = 0 := fun z => g (by rw [z]; rfl)
        rw [if_neg g] at fin0
        exact fin0 _ A3 F3 _ rfl hP3.1 (kP_begin hP3)
      · have g : F3 64 = 0 := g
        rw [r.2.2.2.1] at g
        have g : y.1.1 = 0 := (nI_eq (a := y.1.1) (b := 0) (by omega) (by omega)).mp g
        rw [if_pos g] at h1
        have h1' := h1 key y A3 (upd F3 61 0) rfl ⟨hP3.1.1, hP3.1.2.1, (show qagF [61, 62, 63, 64, 65, 66, 67, 68, 69, 70, 71] F F3 from fun i hi => hP3.1.2.2 i (by simp at hi ⊢; omega)).trans (qagF.up (by simp)), upd_at _ _ _⟩ (by rw [upd_ne _ _ (by omega)]; exact hP3.2.2.2.2.1) (by rw [upd_ne _ _ (by omega)]; exact hP3.2.2.2.2.2.1) hP3.2.2.2.2.2.2
        refine pz_wp_ok (pz_Is_ok SX10_parse) [] 100 ?_
        refine br2 (by decide) ?_
        exact h1'
    · refine br1 (fun z => z rfl) ?_
      have he' : k_expr (A 34) n (k_part (A 34) n key 17 0 0) (k_nx (A 34) n (k_tok (A 34) n 3 0, 0, [])) = .inr e := he
      rw [he'] at fin0
      exact fin0 e A3 F3 _ rfl hB hb
set_option maxRecDepth 8000 in
theorem cM_parse {n nt : Nat} (hn : n ≤ 96) (h61 : F 61 = nI n) (hnt : A 20 1 = nI nt) (hb : nt ≤ 14)
    (h1 : ∀ (key : Nat) (x : kS) (A' : qA) (F' : qF), k_read (A 34) n = .inl (key, x) → kE A F (f_la nt) A' F' → F' 69 = nI x.2.2.length → F' 71 = nI x.2.1 → (∀ k p, x.2.2[k]? = some p → A' 20 (f_la nt + 2 * k) = p.1 ∧ A' 20 (f_la nt + 2 * k + 1) = p.2) → Q (some (.int (nI key))) (mem A' F' X))
    (h0 : ∀ (e : Nat) (A' : qA) (F' : qF), k_read (A 34) n = .inr e → kE A F (f_la nt) A' F' → F' 62 = nI e → Q (some (.int (-1))) (mem A' F' X)) : pz_C yX10_parse KX10_parse [.ref 69] (mem A F X) Q := by
  refine pz_C_of rfl rfl rfl (Nat.le_of_ble_eq_true rfl) (pz_wp_ok (pz_Is_ok SX10_parse) [63] 100 ?_)
  have key : ∀ v : Int32, v = nI (f_la nt) → pz_T z0 KX10_parse Q 63 (0, 0) [some (.ref 69), none, none] [] (mem A (upd (upd (upd (upd (upd (upd (upd F 63 0) 64 3) 67 0) 68 0) 69 0) 71 0) 70 v) X) := fun v hv => by
    have ag : qagF [61, 62, 63, 64, 65, 66, 67, 68, 69, 70, 71] F (upd (upd (upd (upd (upd (upd (upd F 63 0) 64 3) 67 0) 68 0) 69 0) 71 0) 70 v) := ((((((qagF.up (by simp)).trans (qagF.up (by simp))).trans (qagF.up (by simp))).trans (qagF.up (by simp))).trans (qagF.up (by simp))).trans (qagF.up (by simp))).trans (qagF.up (by simp))
    refine tM_parse63 (n := n) (a := f_la nt) ?_ hn ?_ rfl rfl rfl rfl rfl (by rw [upd_at]; exact hv) rfl (fun key x A' F' e1 e2 e3 e4 e5 => h1 key x A' F' e1 ⟨e2.1, e2.2.1, ag.trans e2.2.2.1, e2.2.2.2⟩ e3 e4 e5) (fun e A' F' e1 e2 e3 => h0 e A' F' e1 ⟨e2.1, e2.2.1, ag.trans e2.2.2.1, e2.2.2.2⟩ e3)
    · unfold f_la
      by_cases z : nt < 14
      · rw [if_pos z]; omega
      · rw [if_neg z]; omega
    · rw [upd_ne _ _ (by omega), upd_ne _ _ (by omega), upd_ne _ _ (by omega), upd_ne _ _ (by omega), upd_ne _ _ (by omega), upd_ne _ _ (by omega), upd_ne _ _ (by omega)]
      exact h61
  refine ⟨qin 1 rfl (by omega) (by omega), ?_⟩
  refine ⟨fun g => ?_, fun g => ?_⟩
  · have g : (14 : Int32) ≤ A 20 1 := g
    rw [hnt] at g
    have g : 14 ≤ nt := (nI_leI (a := 14) (b := nt) (by omega) (by omega)).mp g
    exact key 2942 (by unfold f_la; rw [if_neg (by omega)]; rfl)
  · have g : ¬ (14 : Int32) ≤ A 20 1 := g
    rw [hnt] at g
    have g : ¬ 14 ≤ nt := fun z => g ((nI_leI (a := 14) (b := nt) (by omega) (by omega)).mpr z)
    refine ⟨qin 1 rfl (by omega) (by omega), ?_⟩
    refine qC (cM_textAt (A := A) (F := upd (upd (upd (upd (upd (upd F 63 0) 64 3) 67 0) 68 0) 69 0) 71 0) (X := X) (n := nt) hnt ?_) rfl rfl
    exact key (nI (142 + 200 * nt) + 4) (by unfold f_la; rw [if_pos (by omega)]; exact nI_add _ 4)
/-- a text more -/
def f_told (t t' : Nat → Int32) (nt key : Nat) (x : kS) : Prop := t' 1 = nI (nt + 1) ∧ t' (142 + 200 * nt) = nI key ∧ t' (142 + 200 * nt + 1) = nI x.2.1 ∧ t' (142 + 200 * nt + 2) = nI x.2.2.length ∧ (∀ k p, x.2.2[k]? = some p → t' (142 + 200 * nt + 4 + 2 * k) = p.1 ∧ t' (142 + 200 * nt + 4 + 2 * k + 1) = p.2) ∧ ∀ j, j ≠ 1 → (j < 142 + 200 * nt ∨ 142 + 200 * nt + 200 ≤ j) → t' j = t j
theorem k_read_ok {T : Nat → Int32} {n key : Nat} {x : kS} (h : k_read T n = .inl (key, x)) : key < 3 := by
  unfold k_read at h
  cases hk : k_key T (k_tok T n 3 0) with
  | none => rw [hk] at h; cases h
  | some key' =>
    rw [hk] at h
    dsimp only at h
    cases hy : k_expr T n (k_part T n key' 17 0 0) (k_nx T n (k_tok T n 3 0, 0, [])) with
    | inr e => rw [hy] at h; cases h
    | inl y =>
      rw [hy] at h
      dsimp only at h
      by_cases g : y.1.1 = 0
      · rw [if_pos g] at h
        cases h
        exact k_key_lt hk
      · rw [if_neg g] at h
        cases h
set_option maxRecDepth 8000 in
theorem cM_text {n nt : Nat} (hn : n ≤ 96) (h61 : F 61 = nI n) (hnt : A 20 1 = nI nt) (hb : nt ≤ 14)
    (h0 : ∀ (e : Nat) (A' : qA) (F' : qF), k_read (A 34) n = .inr e → kE A F (f_la nt) A' F' → Q (some (.int (-100 - nI e))) (mem A' F' X))
    (h2 : ∀ (key : Nat) (x : kS) (A' : qA) (F' : qF), k_read (A 34) n = .inl (key, x) → nt = 14 → kE A F (f_la nt) A' F' → Q (some (.int (-1000000003))) (mem A' F' X))
    (h1 : ∀ (key : Nat) (x : kS) (A' : qA) (F' : qF), k_read (A 34) n = .inl (key, x) → nt < 14 → qag [20] A A' → qagF [61, 62, 63, 64, 65, 66, 67, 68, 69, 70, 71] F F' → F' 61 = 0 → f_told (A 20) (A' 20) nt key x → Q (some (.int (nI nt))) (mem A' F' X)) : pz_C yX10_text KX10_text [.ref 69] (mem A F X) Q := by
  refine pz_C_of rfl rfl rfl (Nat.le_of_ble_eq_true rfl) (pz_wp_ok (pz_Is_ok SX10_text) [] 100 ?_)
  have hla : f_la nt = if nt < 14 then 142 + 200 * nt + 4 else 2942 := rfl
  have hla1 : 1 < f_la nt := by
    rw [hla]
    by_cases z : nt < 14
    · rw [if_pos z]; omega
    · rw [if_neg z]; omega
  refine cM_parse hn h61 hnt hb (fun key x A1 F1 hr hE e69 e71 hst => ?_) (fun e A1 F1 hr hE he => ?_)
  · have hk3 := k_read_ok hr
    have e1 : A1 20 1 = nI nt := by rw [hE.2.1 1 (Or.inl hla1)]; exact hnt
    refine br1 (fun z => z (nI_pos' (by omega))) ?_
    refine ⟨qin 1 rfl (by omega) (by omega), ?_⟩
    refine ⟨fun g => ?_, fun g => ?_⟩
    · have g : ¬ A1 20 1 = 14 := g
      rw [e1] at g
      have g : nt < 14 := by
        have : ¬ nt = 14 := fun z => g (by rw [z]; rfl)
        omega
      rw [if_pos g] at hla
      rw [hla] at hE hst
      refine ⟨qin 1 rfl (by omega) (by omega), ?_⟩
      refine cM_textAt e1 ?_
      generalize hbb : 142 + 200 * nt = b at hE hst
      have b0 : nI b + 0 = nI b := nI_add b 0
      have b1 : nI b + 1 = nI (b + 1) := nI_1 b
      have b2 : nI b + 2 = nI (b + 2) := nI_add b 2
      have c0 := qcl _ b0 (by omega)
      have c1 := qcl _ b1 (by omega)
      have c2 := qcl _ b2 (by omega)
      refine ⟨qin _ b0 (by omega) (by omega), ?_⟩
      refine ⟨qin _ b1 (by omega) (by omega), ?_⟩
      refine ⟨qin _ b2 (by omega) (by omega), ?_⟩
      refine ⟨qin 1 rfl (by omega) (by omega), ?_⟩
      refine ⟨qin 1 rfl (by omega) (by omega), ?_⟩
      refine ⟨qin 1 rfl (by omega) (by omega), ?_⟩
      rw [c0, c1, c2]
      generalize ht3 : upd (upd (upd (A1 20) b (nI key)) (b + 1) (F1 71)) (b + 2) (F1 69) = t3
      have x1 : t3 1 = nI nt := by rw [← ht3, upd_ne _ _ (by omega), upd_ne _ _ (by omega), upd_ne _ _ (by omega)]; exact e1
      have t1 : upd t3 1 (t3 1 + 1) 1 = nI (nt + 1) := by rw [upd_at, x1]; exact nI_1 nt
      refine qQ (h1 key x (va_up A1 20 (upd t3 1 (t3 1 + 1))) F1 hr g (hE.1.trans (qag.up (by simp))) hE.2.2.1 hE.2.2.2 ?_) ?_ ?_
      · unfold f_told
        rw [vu_at, hbb]
        refine ⟨t1, ?_, ?_, ?_, fun k p hk => ?_, fun j hj1 hj2 => ?_⟩
        · rw [upd_ne _ _ (by omega), ← ht3, upd_ne _ _ (by omega), upd_ne _ _ (by omega), upd_at]
        · rw [upd_ne _ _ (by omega), ← ht3, upd_ne _ _ (by omega), upd_at]; exact e71
        · rw [upd_ne _ _ (by omega), ← ht3, upd_at]; exact e69
        · rw [upd_ne _ _ (by omega), upd_ne _ _ (by omega), ← ht3, upd_ne _ _ (by omega), upd_ne _ _ (by omega), upd_ne _ _ (by omega), upd_ne _ _ (by omega), upd_ne _ _ (by omega), upd_ne _ _ (by omega)]
          exact hst k p hk
        · rw [upd_ne _ _ (by omega), ← ht3, upd_ne _ _ (by omega), upd_ne _ _ (by omega), upd_ne _ _ (by omega)]
          exact hE.2.1 j (by omega)
      · have e9 : upd t3 1 (t3 1 + 1) 1 - 1 = nI nt := by rw [t1]; exact nI_sub1 (a := nt + 1) (b := 1) (by omega)
        rw [← e9]
        rfl
      · rfl
    · have g : A1 20 1 = 14 := g
      rw [e1] at g
      have g : nt = 14 := (nI_eq (a := nt) (b := 14) (by omega) (by omega)).mp g
      exact h2 key x A1 F1 hr g hE
  · refine br2 (by decide) ?_
    have h0' := h0 e A1 F1 hr hE
    rw [← he] at h0'
    exact h0'
end MOD
