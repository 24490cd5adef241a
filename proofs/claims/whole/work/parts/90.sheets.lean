/-! sheets of both sides -/
section POT
variable {A A1 : qA} {F : qF} {X : qX} {Q : pz_Q} {M : pz_M}
theorem cP_sheetBad {s so n : Int32} (hs : ¬ qIn 0 3 s) (h : Q (some (.int BAD)) (mem A F X)) : pz_C yX9_sheet KX9_sheet [.ref 0, .int s, .int so, .int n] (mem A F X) Q := by
  refine pz_C_of rfl rfl rfl (Nat.le_of_ble_eq_true rfl) (pz_wp_ok (pz_Is_ok SX9_sheet) [] 100 ?_)
  refine cP_isSheet (fun g => absurd g hs) (fun _ => ?_)
  exact br1 (fun z => z rfl) h
theorem cP_markBad {s p v : Int32} (hs : ¬ qIn 0 3 s) (h : Q (some (.int BAD)) (mem A F X)) : pz_C yX9_mark KX9_mark [.ref 0, .int s, .int p, .int v] (mem A F X) Q := by
  refine pz_C_of rfl rfl rfl (Nat.le_of_ble_eq_true rfl) (pz_wp_ok (pz_Is_ok SX9_mark) [] 100 ?_)
  refine cP_isSheet (fun g => absurd g hs) (fun _ => ?_)
  exact br2 (fun z => z rfl) h
theorem cP_pourBad {s : Int32} (hs : ¬ qIn 0 3 s) (h : Q (some (.int BAD)) (mem A F X)) : pz_C yX9_pour KX9_pour [.ref 0, .int s] (mem A F X) Q := by
  refine pz_C_of rfl rfl rfl (Nat.le_of_ble_eq_true rfl) (pz_wp_ok (pz_Is_ok SX9_pour) [] 100 ?_)
  refine cP_isSheet (fun g => absurd g hs) (fun _ => ?_)
  exact br2 (fun z => z rfl) h
theorem cP_readsBad {s : Int32} (hs : ¬ qIn 0 3 s) (h : Q (some (.int BAD)) (mem A F X)) : pz_C yX9_reads KX9_reads [.ref 0, .int s] (mem A F X) Q := by
  refine pz_C_of rfl rfl rfl (Nat.le_of_ble_eq_true rfl) (pz_wp_ok (pz_Is_ok SX9_reads) [] 100 ?_)
  refine cP_isSheet (fun g => absurd g hs) (fun _ => ?_)
  exact br2 (fun z => z rfl) h
theorem cP_stoodBad {s n w : Int32} (hs : ¬ qIn 0 3 s) (h : Q (some (.int BAD)) (mem A F X)) : pz_C yX9_stood KX9_stood [.ref 0, .int s, .int n, .int w] (mem A F X) Q := by
  refine pz_C_of rfl rfl rfl (Nat.le_of_ble_eq_true rfl) (pz_wp_ok (pz_Is_ok SX9_stood) [54] 100 ?_)
  refine cP_isSheet (fun g => absurd g hs) (fun _ => ?_)
  exact br1 (fun z => z rfl) h
theorem cP_copyBad {f p t a m : Int32} (hs : ¬ (qIn 0 3 f ∧ qIn 0 3 t)) (h : Q (some (.int BAD)) (mem A F X)) : pz_C yX9_copy KX9_copy [.ref 0, .int f, .int p, .int t, .int a, .int m] (mem A F X) Q := by
  refine pz_C_of rfl rfl rfl (Nat.le_of_ble_eq_true rfl) (pz_wp_ok (pz_Is_ok SX9_copy) [] 100 ?_)
  refine cP_isSheet (fun g => ?_) (fun _ => br1 (fun z => z rfl) h)
  refine br2 (by decide) ?_
  refine cP_isSheet (fun g' => absurd ⟨g, g'⟩ hs) (fun _ => ?_)
  exact br2 (fun z => z rfl) h
theorem cPk_sheet {k : Nat} (hk : k < 4) {so n : Int32} (h1 : ¬ (qIn (-1) 1 so ∧ ¬ (0 ≤ so ∧ 24 < n)) → Q (some (.int BAD)) (mem A F X)) (h2 : qIn (-1) 1 so → ¬ (0 ≤ so ∧ 24 < n) → (0 ≤ so ∧ n < 0) → Q (some (.int (-1000000014))) (mem A F X)) (h3 : qIn (-1) 1 so → ¬ (0 ≤ so ∧ 24 < n) → ¬ (0 ≤ so ∧ n < 0) → Q (some (.int (f_sz so n))) (mem (va_up A (10 + k) (qcp 24 (fun _ => 0) (A (10 + k)))) (upd (upd F (10 + k) so) (14 + k) (f_sz so n)) X)) : pz_C yX9_sheet KX9_sheet [.ref 0, .int (nI k), .int so, .int n] (mem A F X) Q := by
  rcases (show k = 0 ∨ k = 1 ∨ k = 2 ∨ k = 3 by omega) with rfl | rfl | rfl | rfl
  · exact cP0_sheet h1 h2 h3
  · exact cP1_sheet h1 h2 h3
  · exact cP2_sheet h1 h2 h3
  · exact cP3_sheet h1 h2 h3
theorem cPk_mark {k : Nat} (hk : k < 4) {p v : Int32} {z : Nat} (hs : F (10 + k) = -1 ∨ F (10 + k) = 0 ∨ F (10 + k) = 1) (hz : F (14 + k) = nI z) (hz2 : z ≤ 24) (h : Q (some (.int (v_mark (F (10 + k)) z p v).1)) (mem (va_up A (10 + k) (o_up (A (10 + k)) p.toNatClampNeg (v_mark (F (10 + k)) z p v).2)) F X)) : pz_C yX9_mark KX9_mark [.ref 0, .int (nI k), .int p, .int v] (mem A F X) Q := by
  rcases (show k = 0 ∨ k = 1 ∨ k = 2 ∨ k = 3 by omega) with rfl | rfl | rfl | rfl
  · exact cP0_mark hs hz hz2 h
  · exact cP1_mark hs hz hz2 h
  · exact cP2_mark hs hz hz2 h
  · exact cP3_mark hs hz hz2 h
theorem cPk_pour {k : Nat} (hk : k < 4) {z : Nat} (hz : F (14 + k) = nI z) (hz2 : z ≤ 24) (h1 : F (10 + k) = -1 → Q (some (.int (-1000000011))) (mem A F X)) (h : ¬ F (10 + k) = -1 → Q (some (.int (f_pr (A (10 + k)) (A 0) z).1)) (mem (va_up A 0 (f_pr (A (10 + k)) (A 0) z).2) F X)) : pz_C yX9_pour KX9_pour [.ref 0, .int (nI k)] (mem A F X) Q := by
  rcases (show k = 0 ∨ k = 1 ∨ k = 2 ∨ k = 3 by omega) with rfl | rfl | rfl | rfl
  · exact cP0_pour hz hz2 h1 h
  · exact cP1_pour hz hz2 h1 h
  · exact cP2_pour hz hz2 h1 h
  · exact cP3_pour hz hz2 h1 h
theorem cPk_reads {k : Nat} (hk : k < 4) {z : Nat} (hz : F (14 + k) = nI z) (hz2 : z ≤ 24) (h1 : F (10 + k) = -1 → Q (some (.int (-1000000011))) (mem A F X)) (h : ¬ F (10 + k) = -1 → Q (some (.int (f_rd (A (10 + k)) (A 0) z 0))) (mem A F X)) : pz_C yX9_reads KX9_reads [.ref 0, .int (nI k)] (mem A F X) Q := by
  rcases (show k = 0 ∨ k = 1 ∨ k = 2 ∨ k = 3 by omega) with rfl | rfl | rfl | rfl
  · exact cP0_reads hz hz2 h1 h
  · exact cP1_reads hz hz2 h1 h
  · exact cP2_reads hz hz2 h1 h
  · exact cP3_reads hz hz2 h1 h
theorem cPk_stood {k : Nat} (hk : k < 4) {n w : Int32} {z : Nat} {B : Int} (hz : F (14 + k) = nI z) (hz2 : z ≤ 24) (hrow : okRow (A (10 + k))) (hok : okS (A 0)) (hv : okV 20 B (A 0)) (hB : 0 ≤ B ∧ B + 20000 < 40000000) (hr : rTxs X (A 0)) (h1 : ¬ (qIn 0 20 n ∧ qIn 0 1 w) → Q (some (.int BAD)) (mem A F X)) (h2 : qIn 0 20 n → qIn 0 1 w → F (10 + k) = -1 → Q (some (.int (-1000000011))) (mem A F X)) (h : qIn 0 20 n → qIn 0 1 w → ¬ F (10 + k) = -1 → ∀ A' : qA, qag [2, 4] A A' → Q (some (.int (f_pikk w (f_std (A (10 + k)) (A 0) z n.toNatClampNeg 36)))) (mem A' F X)) : pz_C yX9_stood KX9_stood [.ref 0, .int (nI k), .int n, .int w] (mem A F X) Q := by
  rcases (show k = 0 ∨ k = 1 ∨ k = 2 ∨ k = 3 by omega) with rfl | rfl | rfl | rfl
  · exact cP0_stood hz hz2 hrow hok hv hB hr h1 h2 h
  · exact cP1_stood hz hz2 hrow hok hv hB hr h1 h2 h
  · exact cP2_stood hz hz2 hrow hok hv hB hr h1 h2 h
  · exact cP3_stood hz hz2 hrow hok hv hB hr h1 h2 h
theorem cPk_copy {k l : Nat} (hk : k < 4) (hl : l < 4) {p a m : Int32} {z1 z2 : Nat} (hz1 : F (14 + k) = nI z1) (hb1 : z1 ≤ 24) (hz2 : F (14 + l) = nI z2) (hb2 : z2 ≤ 24) (h2 : (F (10 + k) = -1 ∨ F (10 + l) = -1) → Q (some (.int (-1000000011))) (mem A F X)) (h3 : ¬ F (10 + k) = -1 → ¬ F (10 + l) = -1 → ¬ F (10 + k) = F (10 + l) → Q (some (.int (-1000000012))) (mem A F X)) (h4 : ¬ F (10 + k) = -1 → ¬ F (10 + l) = -1 → F (10 + k) = F (10 + l) → ¬ f_cpok p a m z1 z2 → Q (some (.int (-1000000013))) (mem A F X)) (h5 : ¬ F (10 + k) = -1 → ¬ F (10 + l) = -1 → F (10 + k) = F (10 + l) → f_cpok p a m z1 z2 → Q (some (.int m)) (mem (va_up A (10 + l) (va_cpy (A (10 + k)) (A (10 + l)) p.toNatClampNeg a.toNatClampNeg m.toNatClampNeg)) F X)) : pz_C yX9_copy KX9_copy [.ref 0, .int (nI k), .int p, .int (nI l), .int a, .int m] (mem A F X) Q := by
  rcases (show k = 0 ∨ k = 1 ∨ k = 2 ∨ k = 3 by omega) with rfl | rfl | rfl | rfl <;> rcases (show l = 0 ∨ l = 1 ∨ l = 2 ∨ l = 3 by omega) with rfl | rfl | rfl | rfl
  · exact cP00_copy hz1 hb1 hz2 hb2 h2 h3 h4 h5
  · exact cP01_copy hz1 hb1 hz2 hb2 h2 h3 h4 h5
  · exact cP02_copy hz1 hb1 hz2 hb2 h2 h3 h4 h5
  · exact cP03_copy hz1 hb1 hz2 hb2 h2 h3 h4 h5
  · exact cP10_copy hz1 hb1 hz2 hb2 h2 h3 h4 h5
  · exact cP11_copy hz1 hb1 hz2 hb2 h2 h3 h4 h5
  · exact cP12_copy hz1 hb1 hz2 hb2 h2 h3 h4 h5
  · exact cP13_copy hz1 hb1 hz2 hb2 h2 h3 h4 h5
  · exact cP20_copy hz1 hb1 hz2 hb2 h2 h3 h4 h5
  · exact cP21_copy hz1 hb1 hz2 hb2 h2 h3 h4 h5
  · exact cP22_copy hz1 hb1 hz2 hb2 h2 h3 h4 h5
  · exact cP23_copy hz1 hb1 hz2 hb2 h2 h3 h4 h5
  · exact cP30_copy hz1 hb1 hz2 hb2 h2 h3 h4 h5
  · exact cP31_copy hz1 hb1 hz2 hb2 h2 h3 h4 h5
  · exact cP32_copy hz1 hb1 hz2 hb2 h2 h3 h4 h5
  · exact cP33_copy hz1 hb1 hz2 hb2 h2 h3 h4 h5
end POT
theorem f_cl_at (f : Nat → Int32) (b : Nat) : ∀ (n j : Nat), f_cl f b n j = if b ≤ j ∧ j < b + n then 0 else f j
  | 0, j => by rw [f_cl, if_neg (by omega)]
  | n + 1, j => by
    rw [f_cl]
    by_cases g : j = b + n
    · rw [g, upd_at, if_pos (by omega)]
    · rw [upd_ne _ _ g, f_cl_at f b n j]
      by_cases z : b ≤ j ∧ j < b + n
      · rw [if_pos z, if_pos (by omega)]
      · rw [if_neg z, if_neg (by omega)]
theorem f_is_cg {row row' t : Nat → Int32} {k : Nat} (h : row k = row' k) : f_is row t k = f_is row' t k := by unfold f_is; rw [h]
theorem f_pr_cg {row row' t : Nat → Int32} : ∀ z, (∀ j, j < z → row j = row' j) → f_pr row t z = f_pr row' t z
  | 0, _ => rfl
  | z + 1, h => by rw [f_pr, f_pr, f_pr_cg z (fun j hj => h j (by omega)), f_is_cg (h z (by omega))]
theorem f_rd_cg {row row' t : Nat → Int32} : ∀ d k, (∀ j, k ≤ j → j < k + d → row j = row' j) → f_rd row t d k = f_rd row' t d k
  | 0, _, _ => rfl
  | d + 1, k, h => by rw [f_rd, f_rd, f_rd_cg d (k + 1) (fun j h1 h2 => h j (by omega) (by omega)), h k (by omega) (by omega)]
theorem f_dif_cg {row row' t : Nat → Int32} : ∀ z, (∀ j, j < z → row j = row' j) → f_dif row t z = f_dif row' t z
  | 0, _ => rfl
  | z + 1, h => by rw [f_dif, f_dif, f_dif_cg z (fun j hj => h j (by omega)), h z (by omega)]
theorem f_stv_cg {row row' t : Nat → Int32} {z n c : Nat} (h : ∀ j, j < z → row j = row' j) : f_stv row t z n c = f_stv row' t z n c := by
  unfold f_stv
  exact f_dif_cg z h
theorem f_std_cg {row row' t : Nat → Int32} {z n : Nat} (h : ∀ j, j < z → row j = row' j) : ∀ c, f_std row t z n c = f_std row' t z n c
  | 0 => rfl
  | c + 1 => by rw [f_std, f_std, f_std_cg h c, f_stv_cg h]
theorem qIn_sheet {s : Int32} (h : qIn 0 3 s) : ∃ k, k < 4 ∧ s = nI k ∧ s.toNatClampNeg = k := by
  obtain ⟨k, h1, h2⟩ := qIn_ex (m := 4) h (by omega)
  exact ⟨k, h1, h2, qcl k h2 (by omega)⟩
section LAW
variable {c : Nat} {A : qA} {F : qF} {X : qX}
theorem inv_same (hc : c < 512) (h : Inv c A F X) : Inv (c + 1) A F X := inv_next hc h (fun _ _ => rfl) h.2.1.1 (h.2.1.2.1.mono (by omega)) (kp.refl _)
/-- the sheets' part alone changes -/
theorem inv_sheet (hc : c < 512) (h : Inv c A F X) {A' : qA} {F' : qF} (hA : ∀ i, (i < 10 ∨ 14 ≤ i) → i ≠ 23 → i ≠ 24 → i ≠ 25 → i ≠ 37 → A' i = A i) (hF : ∀ i, (i < 10 ∨ 18 ≤ i) → F' i = F i) (hS : iS A' F') : Inv (c + 1) A' F' X := by
  obtain ⟨-, ht, hW, hP, -, hL, hX⟩ := h
  exact inv_mk hc (ht.cg (hA 0 (by omega) (by omega) (by omega) (by omega) (by omega)) (hA 1 (by omega) (by omega) (by omega) (by omega) (by omega)) (hA 20 (by omega) (by omega) (by omega) (by omega) (by omega)) (hA 21 (by omega) (by omega) (by omega) (by omega) (by omega)) (hF 0 (by omega)) (hF 60 (by omega))) (hW.cg (hA 8 (by omega) (by omega) (by omega) (by omega) (by omega)) (hA 38 (by omega) (by omega) (by omega) (by omega) (by omega)) (hF 1 (by omega)) (hF 72 (by omega))) (hP.cg (hA 5 (by omega) (by omega) (by omega) (by omega) (by omega)) (hA 34 (by omega) (by omega) (by omega) (by omega) (by omega)) (hF 2 (by omega)) (hF 61 (by omega))) hS (hL.cg (fun i hi => hA i (by omega) (by omega) (by omega) (by omega) (by omega)) (fun i h1 h2 => hF i (by omega))) hX.mono
theorem J_sheet {s so n : Int32} (hc : c < 512) (h : Inv c A F X) : J c yX9_sheet KX9_sheet yX10_sheet KX10_sheet [.int s, .int so, .int n] A F X := by
  intro Q1 H
  by_cases gs : qIn 0 3 s
  · obtain ⟨k, hk, rfl, ek⟩ := qIn_sheet gs
    refine cPk_sheet hk (fun g => ?_) (fun g1 g2 g3 => ?_) (fun g1 g2 g3 => ?_)
    · refine H _ A F X (fun Q2 H2 => cM_sheet ?_)
      unfold s_sheet
      rw [if_neg (fun z => g ⟨z.2.1, z.2.2⟩)]
      exact H2 A F X (inv_same hc h)
    · refine H _ A F X (fun Q2 H2 => cM_sheet ?_)
      unfold s_sheet
      rw [if_pos ⟨gs, g1, g2⟩, if_pos g3]
      exact H2 A F X (inv_same hc h)
    · refine H _ _ _ X (fun Q2 H2 => cM_sheet ?_)
      unfold s_sheet
      rw [if_pos ⟨gs, g1, g2⟩, if_neg g3, ek]
      unfold f_shA
      rw [vu_ne _ _ (show 23 ≠ 10 + k by omega), vu_ne _ _ (show 24 ≠ 10 + k by omega), vu_ne _ _ (show 25 ≠ 10 + k by omega)]
      obtain ⟨-, -, -, -, ⟨s1, s2⟩, -⟩ := id h
      have hso : so = -1 ∨ so = 0 ∨ so = 1 := by
        rcases (show so.toInt = -1 ∨ so.toInt = 0 ∨ so.toInt = 1 by have := g1.1; have := g1.2; omega) with z | z | z
        · exact Or.inl ((i_eq _ _).mpr z)
        · exact Or.inr (Or.inl ((i_eq _ _).mpr z))
        · exact Or.inr (Or.inr ((i_eq _ _).mpr z))
      have hsz : ∃ z, z ≤ 24 ∧ f_sz so n = nI z := by
        unfold f_sz
        by_cases q : (0 : Int32) ≤ so
        · rw [if_pos q]
          have q1 : ¬ (24 : Int32) < n := fun z => g2 ⟨q, z⟩
          have q2 : ¬ n < (0 : Int32) := fun z => g3 ⟨q, z⟩
          rw [i_lt, show (24 : Int32).toInt = 24 from rfl] at q1
          rw [i_lt, show (0 : Int32).toInt = 0 from rfl] at q2
          obtain ⟨z, z1, z2, z3⟩ := qIn_nat (x := n) (hi := 24) ⟨by omega, by omega⟩
          exact ⟨z, by omega, z3⟩
        · rw [if_neg q]; exact ⟨0, by omega, rfl⟩
      generalize f_sz so n = sz at hsz H2 ⊢
      dsimp only
      refine H2 _ _ X (inv_sheet hc h (fun i h1 h2 h3 h4 h5 => ?_) (fun i h1 => ?_) ⟨fun j hj => ?_, fun j hj => ?_⟩)
      · rw [vu_ne _ _ h4, vu_ne _ _ h3, vu_ne _ _ h2, vu_ne _ _ (by omega)]
      · rw [upd_ne _ _ (by omega), upd_ne _ _ (by omega)]
      · rw [vu_ne _ _ (show (23 : Nat) ≠ 25 by omega), vu_ne _ _ (show (23 : Nat) ≠ 24 by omega), vu_at, vu_ne _ _ (show (24 : Nat) ≠ 25 by omega), vu_at]
        by_cases q : j = k
        · rw [q, upd_at, upd_at]; exact ⟨hso, hsz⟩
        · rw [upd_ne _ _ q, upd_ne _ _ q]; exact s1 j hj
      · rw [vu_ne _ _ (show (23 : Nat) ≠ 25 by omega), vu_ne _ _ (show (23 : Nat) ≠ 24 by omega), vu_at, vu_ne _ _ (show (24 : Nat) ≠ 25 by omega), vu_at, vu_at, vu_ne _ _ (show 10 + j ≠ 25 by omega), vu_ne _ _ (show 10 + j ≠ 24 by omega), vu_ne _ _ (show 10 + j ≠ 23 by omega)]
        obtain ⟨r1, r2, r3, r4⟩ := s2 j hj
        by_cases q : j = k
        · rw [q, upd_at, upd_at, upd_at, upd_ne _ _ (by omega), upd_at, vu_at]
          refine ⟨rfl, rfl, fun i hi => ?_, fun i hi => ?_⟩
          · rw [f_cl_at, if_pos (by omega), qcp_lt _ _ hi]
          · rw [qcp_lt _ _ hi]; exact Or.inr ⟨by decide, by decide⟩
        · rw [upd_ne _ _ (show 10 + j ≠ 14 + k by omega), upd_ne _ _ (show 10 + j ≠ 10 + k by omega), upd_ne _ _ (show 14 + j ≠ 14 + k by omega), upd_ne _ _ (show 14 + j ≠ 10 + k by omega), upd_ne _ _ q, upd_ne _ _ q, vu_ne _ _ (show 10 + j ≠ 10 + k by omega)]
          refine ⟨r1, r2, fun i hi => ?_, r4⟩
          rw [f_cl_at, if_neg (by omega)]
          exact r3 i hi
  · refine cP_sheetBad gs ?_
    refine H _ A F X (fun Q2 H2 => cM_sheet ?_)
    unfold s_sheet
    rw [if_neg (fun z => gs z.1)]
    exact H2 A F X (inv_same hc h)
theorem v_mark_ok {so p v x : Int32} {z : Nat} (hs : so = -1 ∨ so = 0 ∨ so = 1) (h : (v_mark so z p v).2 = some x) : qIn 0 ((z : Int) - 1) p ∧ (x = -1000000005 ∨ qIn (-99999) 99999 x) := by
  unfold v_mark at h
  split at h
  · cases h
  · next g1 =>
    split at h
    · cases h
    · next g2 =>
      have g2 := Decidable.not_not.mp g2
      split at h
      · cases h
      · next g3 =>
        split at h
        · cases h
        · next g4 =>
          refine ⟨g2, ?_⟩
          have h : some (if so = 0 then v <<< (16 &&& 31) >>> (16 &&& 31) else v) = some x := h
          by_cases q : so = 0
          · rw [if_pos q] at h
            have h := Option.some.inj h
            rw [← h, ← i_short]
            refine Or.inr ?_
            have h1 := Int16.minValue_le_toInt v.toInt16
            have h2 : v.toInt16.toInt ≤ 32767 := Int16.toInt_le v.toInt16
            have h1 : -32768 ≤ v.toInt16.toInt := h1
            show -99999 ≤ v.toInt16.toInt32.toInt ∧ v.toInt16.toInt32.toInt ≤ 99999
            rw [Int16.toInt_toInt32]
            omega
          · rw [if_neg q] at h
            have h := Option.some.inj h
            rw [← h]
            have q1 : so = 1 := by
              rcases hs with z | z | z
              · rw [z] at g1; exact absurd (by decide) g1
              · exact absurd z q
              · exact z
            by_cases y : v = -1000000005
            · exact Or.inl y
            · exact Or.inr (Decidable.byContradiction (fun w => g4 ⟨q1, y, w⟩))
theorem J_mark {s p v : Int32} (hc : c < 512) (h : Inv c A F X) : J c yX9_mark KX9_mark yX10_mark KX10_mark [.int s, .int p, .int v] A F X := by
  intro Q1 H
  obtain ⟨-, -, -, -, ⟨s1, s2⟩, -⟩ := id h
  by_cases gs : qIn 0 3 s
  · obtain ⟨k, hk, rfl, ek⟩ := qIn_sheet gs
    obtain ⟨r1, r2, r3, r4⟩ := s2 k hk
    obtain ⟨o1, z, o2, o3⟩ := s1 k hk
    refine cPk_mark hk (by rw [r1]; exact o1) (r2.trans o3) o2 ?_
    refine H _ _ F X (fun Q2 H2 => cM_mark (fun j hj => ?_) ?_)
    · rw [vu_ne _ _ (show 23 ≠ 10 + k by omega), vu_ne _ _ (show 24 ≠ 10 + k by omega)]; exact s1 j hj
    · unfold s_mark
      rw [if_pos gs, ek, vu_ne _ _ (show 23 ≠ 10 + k by omega), vu_ne _ _ (show 24 ≠ 10 + k by omega), vu_ne _ _ (show 25 ≠ 10 + k by omega), qcl z o3 (by omega)]
      rw [r1] at H2
      rw [r1]
      have hv := fun x => v_mark_ok (so := A 23 k) (p := p) (v := v) (x := x) (z := z) o1
      generalize v_mark (A 23 k) z p v = y at hv H2 ⊢
      refine H2 _ _ X (inv_sheet hc h (fun i h1 h2 h3 h4 h5 => ?_) (fun i h1 => rfl) ⟨fun j hj => ?_, fun j hj => ?_⟩)
      · rw [vu_ne _ _ h4, vu_ne _ _ (by omega)]
      · rw [vu_ne _ _ (show (23 : Nat) ≠ 25 by omega), vu_ne _ _ (show 23 ≠ 10 + k by omega), vu_ne _ _ (show (24 : Nat) ≠ 25 by omega), vu_ne _ _ (show 24 ≠ 10 + k by omega)]; exact s1 j hj
      · rw [vu_ne _ _ (show (23 : Nat) ≠ 25 by omega), vu_ne _ _ (show 23 ≠ 10 + k by omega), vu_ne _ _ (show (24 : Nat) ≠ 25 by omega), vu_ne _ _ (show 24 ≠ 10 + k by omega), vu_at, vu_ne _ _ (show 10 + j ≠ 25 by omega)]
        obtain ⟨q1, q2, q3, q4⟩ := s2 j hj
        refine ⟨q1, q2, ?_⟩
        cases hy : y.2 with
        | none =>
          dsimp only [o_up]
          by_cases q : j = k
          · rw [q, vu_at]; exact ⟨r3, r4⟩
          · rw [vu_ne _ _ (by omega)]; exact ⟨q3, q4⟩
        | some x =>
          obtain ⟨w1, w2⟩ := hv x hy
          obtain ⟨b1, b2, b3⟩ := qI (m := 24) w1 (by omega)
          generalize p.toNatClampNeg = pn at b2
          dsimp only [o_up]
          by_cases q : j = k
          · rw [q, vu_at]
            refine ⟨fun i hi => ?_, fun i hi => ?_⟩
            · by_cases u : i = pn
              · rw [u, upd_at, upd_at]
              · rw [upd_ne _ _ u, upd_ne _ _ (by omega)]; exact r3 i hi
            · by_cases u : i = pn
              · rw [u, upd_at]; exact w2
              · rw [upd_ne _ _ u]; exact r4 i hi
          · rw [vu_ne _ _ (by omega)]
            refine ⟨fun i hi => ?_, q4⟩
            rw [upd_ne _ _ (by omega)]; exact q3 i hi
  · refine cP_markBad gs ?_
    refine H _ A F X (fun Q2 H2 => cM_mark s1 ?_)
    unfold s_mark
    rw [if_neg gs, vu_s]
    exact H2 A F X (inv_same hc h)
theorem J_pour {s : Int32} (hc : c < 512) (h : Inv c A F X) : J c yX9_pour KX9_pour yX10_pour KX10_pour [.int s] A F X := by
  intro Q1 H
  obtain ⟨-, ⟨t1, t2, -⟩, -, -, ⟨s1, s2⟩, -⟩ := id h
  by_cases gs : qIn 0 3 s
  · obtain ⟨k, hk, rfl, ek⟩ := qIn_sheet gs
    obtain ⟨r1, r2, r3, r4⟩ := s2 k hk
    obtain ⟨o1, z, o2, o3⟩ := s1 k hk
    have o4 := three' o1
    refine cPk_pour hk (r2.trans o3) o2 (fun g => ?_) (fun g => ?_)
    · refine H _ A F X (fun Q2 H2 => cM_pour s1 ?_)
      unfold s_pour
      rw [if_pos gs, ek, if_pos (o4.mpr (by rw [← r1]; exact g)), vu_s]
      exact H2 A F X (inv_same hc h)
    · refine H _ _ F X (fun Q2 H2 => cM_pour s1 ?_)
      unfold s_pour
      rw [if_pos gs, ek, vu_ne _ _ (show (23 : Nat) ≠ 0 by omega), vu_ne _ _ (show (24 : Nat) ≠ 0 by omega), vu_ne _ _ (show (25 : Nat) ≠ 0 by omega), vu_ne _ _ (show (20 : Nat) ≠ 0 by omega), if_neg (fun z => g (by rw [r1]; exact o4.mp z)), qcl z o3 (by omega)]
      have e : f_pr (fun j => A 25 (24 * k + j)) (A 20) z = f_pr (A (10 + k)) (A 0) z := by
        rw [t1]
        exact f_pr_cg z (fun j hj => (r3 j (by omega)).symm)
      rw [e]
      have g1 := g_pr (row := A (10 + k)) t2 z o2
      rw [← t1] at g1
      generalize f_pr (A (10 + k)) (A 0) z = y at g1 H2 ⊢
      refine H2 _ F X (inv_next hc h (fun i hi => ?_) rfl (g1.1.mono (by omega)) (by rw [← t1]; exact g1.2))
      simp only [rscr, List.mem_cons, List.not_mem_nil, or_false] at hi
      rw [vu_ne _ _ (by omega), vu_ne _ _ (by omega)]
  · refine cP_pourBad gs ?_
    refine H _ A F X (fun Q2 H2 => cM_pour s1 ?_)
    unfold s_pour
    rw [if_neg gs, vu_s]
    exact H2 A F X (inv_same hc h)
theorem J_reads {s : Int32} (hc : c < 512) (h : Inv c A F X) : J c yX9_reads KX9_reads yX10_reads KX10_reads [.int s] A F X := by
  intro Q1 H
  obtain ⟨-, ⟨t1, t2, -⟩, -, -, ⟨s1, s2⟩, -⟩ := id h
  by_cases gs : qIn 0 3 s
  · obtain ⟨k, hk, rfl, ek⟩ := qIn_sheet gs
    obtain ⟨r1, r2, r3, r4⟩ := s2 k hk
    obtain ⟨o1, z, o2, o3⟩ := s1 k hk
    have o4 := three' o1
    refine cPk_reads hk (r2.trans o3) o2 (fun g => ?_) (fun g => ?_)
    · refine H _ A F X (fun Q2 H2 => cM_reads s1 ?_)
      unfold s_reads
      rw [if_pos gs, ek, if_pos (o4.mpr (by rw [← r1]; exact g))]
      exact H2 A F X (inv_same hc h)
    · refine H _ A F X (fun Q2 H2 => cM_reads s1 ?_)
      unfold s_reads
      rw [if_pos gs, ek, if_neg (fun z => g (by rw [r1]; exact o4.mp z)), qcl z o3 (by omega), ← f_rd_cg (row := A (10 + k)) z 0 (fun j h1 h2 => r3 j (by omega)), ← t1]
      exact H2 A F X (inv_same hc h)
  · refine cP_readsBad gs ?_
    refine H _ A F X (fun Q2 H2 => cM_reads s1 ?_)
    unfold s_reads
    rw [if_neg gs]
    exact H2 A F X (inv_same hc h)
theorem J_stood {s n w : Int32} (hc : c < 512) (h : Inv c A F X) : J c yX9_stood KX9_stood yX10_stood KX10_stood [.int s, .int n, .int w] A F X := by
  intro Q1 H
  obtain ⟨-, ⟨t1, t2, t3, -⟩, -, -, ⟨s1, s2⟩, -⟩ := id h
  have last : ∀ A' A2 : qA, qag [2, 4] A A' → qag [33, 35, 36] A' A2 → Inv (c + 1) A2 F X := fun A' A2 ha ha2 => by
    refine inv_next hc h (fun i hi => ?_) ?_ ?_ ?_
    · simp only [rscr, List.mem_cons, List.not_mem_nil, or_false] at hi
      rw [ha2 i (by simp only [List.mem_cons, List.not_mem_nil, or_false]; omega), ha i (by simp only [List.mem_cons, List.not_mem_nil, or_false]; omega)]
    · rw [ha2 0 (by decide), ha 0 (by decide), ha2 20 (by decide), ha 20 (by decide), t1]
    · rw [ha2 20 (by decide), ha 20 (by decide)]; exact t2.mono (by omega)
    · rw [ha2 20 (by decide), ha 20 (by decide)]; exact kp.refl _
  by_cases gs : qIn 0 3 s
  · obtain ⟨k, hk, rfl, ek⟩ := qIn_sheet gs
    obtain ⟨r1, r2, r3, r4⟩ := s2 k hk
    obtain ⟨o1, z, o2, o3⟩ := s1 k hk
    have o4 := three' o1
    refine cPk_stood (B := 6000 * (c : Int)) hk (r2.trans o3) o2 r4 (by rw [t1]; exact t2.1) (by rw [t1]; exact t2.2.1) ⟨by omega, by omega⟩ (by rw [t1]; exact t3) (fun g => ?_) (fun g1 g2 g => ?_) (fun g1 g2 g A' ha => ?_)
    · refine H _ A F X (fun Q2 H2 => cM_stood s1 t2.1 (fun A2 ha2 => ?_))
      unfold s_stood
      rw [if_neg (fun z => g z.2)]
      exact H2 A2 F X (last A A2 (qag.refl _ _) ha2)
    · refine H _ A F X (fun Q2 H2 => cM_stood s1 t2.1 (fun A2 ha2 => ?_))
      unfold s_stood
      rw [if_pos ⟨gs, g1, g2⟩, ek, if_pos (o4.mpr (by rw [← r1]; exact g))]
      exact H2 A2 F X (last A A2 (qag.refl _ _) ha2)
    · have a20 : A' 20 = A 20 := ha 20 (by decide)
      have a23 : A' 23 = A 23 := ha 23 (by decide)
      have a24 : A' 24 = A 24 := ha 24 (by decide)
      have a25 : A' 25 = A 25 := ha 25 (by decide)
      refine H _ A' F X (fun Q2 H2 => cM_stood (fun j hj => by rw [a23, a24]; exact s1 j hj) (by rw [a20]; exact t2.1) (fun A2 ha2 => ?_))
      unfold s_stood
      rw [if_pos ⟨gs, g1, g2⟩, ek, a20, a23, a24, a25, if_neg (fun z => g (by rw [r1]; exact o4.mp z)), qcl z o3 (by omega), ← f_std_cg (row := A (10 + k)) (fun j hj => r3 j (by omega)), ← t1]
      exact H2 A2 F X (last A' A2 ha ha2)
  · refine cP_stoodBad gs ?_
    refine H _ A F X (fun Q2 H2 => cM_stood s1 t2.1 (fun A2 ha2 => ?_))
    unfold s_stood
    rw [if_neg (fun z => gs z.1)]
    exact H2 A2 F X (last A A2 (qag.refl _ _) ha2)
theorem J_copy {f p t a m : Int32} (hc : c < 512) (h : Inv c A F X) : J c yX9_copy KX9_copy yX10_copy KX10_copy [.int f, .int p, .int t, .int a, .int m] A F X := by
  intro Q1 H
  obtain ⟨-, -, -, -, ⟨s1, s2⟩, -⟩ := id h
  by_cases gs : qIn 0 3 f ∧ qIn 0 3 t
  · obtain ⟨k, hk, rfl, ek⟩ := qIn_sheet gs.1
    obtain ⟨l, hl, rfl, el⟩ := qIn_sheet gs.2
    obtain ⟨r1, r2, r3, r4⟩ := s2 k hk
    obtain ⟨o1, z, o2, o3⟩ := s1 k hk
    have o4 := three' o1
    obtain ⟨u1, u2, u3, u4⟩ := s2 l hl
    obtain ⟨v1, y, v2, v3⟩ := s1 l hl
    have v4 := three' v1
    have cz : (A 24 k).toNatClampNeg = z := qcl z o3 (by omega)
    have cy : (A 24 l).toNatClampNeg = y := qcl y v3 (by omega)
    refine cPk_copy hk hl (r2.trans o3) o2 (u2.trans v3) v2 (fun g => ?_) (fun g1 g2 g3 => ?_) (fun g1 g2 g3 g4 => ?_) (fun g1 g2 g3 g4 => ?_)
    · rw [r1, u1, ← o4, ← v4] at g
      refine H _ A F X (fun Q2 H2 => cM_copy s1 (fun z => absurd gs z) (fun _ _ _ => ?_) (fun _ _ z1 z2 => ?_) (fun _ _ z1 z2 => ?_) (fun _ _ z1 z2 => ?_))
      · exact H2 A F X (inv_same hc h)
      all_goals (rw [ek] at z1; rw [el] at z2; exact absurd g (fun w => w.elim z1 z2))
    · rw [r1, ← o4] at g1
      rw [u1, ← v4] at g2
      rw [r1, u1] at g3
      refine H _ A F X (fun Q2 H2 => cM_copy s1 (fun z => absurd gs z) (fun _ _ z => ?_) (fun _ _ _ _ _ => ?_) (fun _ _ _ _ z => ?_) (fun _ _ _ _ z => ?_))
      · rw [ek, el] at z; exact absurd z (fun w => w.elim g1 g2)
      · exact H2 A F X (inv_same hc h)
      all_goals (rw [ek, el] at z; exact absurd z g3)
    · rw [r1, ← o4] at g1
      rw [u1, ← v4] at g2
      rw [r1, u1] at g3
      refine H _ A F X (fun Q2 H2 => cM_copy s1 (fun z => absurd gs z) (fun _ _ z => ?_) (fun _ _ _ _ z => ?_) (fun _ _ _ _ _ _ => ?_) (fun _ _ _ _ _ z => ?_))
      · rw [ek, el] at z; exact absurd z (fun w => w.elim g1 g2)
      · rw [ek, el] at z; exact absurd g3 z
      · exact H2 A F X (inv_same hc h)
      · rw [ek, el, cz, cy] at z; exact absurd z g4
    · rw [r1, ← o4] at g1
      rw [u1, ← v4] at g2
      rw [r1, u1] at g3
      have b23 : ∀ w : Nat → Int32, va_up A (10 + l) w 23 = A 23 := fun w => vu_ne _ _ (by omega)
      have b24 : ∀ w : Nat → Int32, va_up A (10 + l) w 24 = A 24 := fun w => vu_ne _ _ (by omega)
      have b25 : ∀ w : Nat → Int32, va_up A (10 + l) w 25 = A 25 := fun w => vu_ne _ _ (by omega)
      refine H _ _ F X (fun Q2 H2 => cM_copy (fun j hj => by rw [b23, b24]; exact s1 j hj) (fun z => absurd gs z) (fun _ _ z => ?_) (fun _ _ _ _ z => ?_) (fun _ _ _ _ _ z => ?_) (fun _ _ _ _ _ _ cc => ?_))
      · rw [b23, ek, el] at z; exact absurd z (fun w => w.elim g1 g2)
      · rw [b23, ek, el] at z; exact absurd g3 z
      · rw [b24, ek, el, cz, cy] at z; exact absurd g4 z
      · rw [b25, ek, el]
        obtain ⟨q1, q2, q3, q4, q5⟩ := g4
        have pn : p.toInt = (p.toNatClampNeg : Int) := by
          obtain ⟨x, x1, x2, x3⟩ := qIn_nat (x := p) (hi := 24) ⟨q1, by omega⟩
          rw [qcl x x3 x2, x3, nIi x2]
        have an : a.toInt = (a.toNatClampNeg : Int) := by
          obtain ⟨x, x1, x2, x3⟩ := qIn_nat (x := a) (hi := 24) ⟨q2, by omega⟩
          rw [qcl x x3 x2, x3, nIi x2]
        have mn : m.toInt = (m.toNatClampNeg : Int) := by
          obtain ⟨x, x1, x2, x3⟩ := qIn_nat (x := m) (hi := 24) ⟨q3, by omega⟩
          rw [qcl x x3 x2, x3, nIi x2]
        generalize p.toNatClampNeg = pp at pn ⊢
        generalize a.toNatClampNeg = aa at an ⊢
        generalize m.toNatClampNeg = mm at mn ⊢
        refine H2 _ _ X (inv_sheet hc h (fun i h1 h2 h3 h4 h5 => ?_) (fun i h1 => rfl) ⟨fun j hj => ?_, fun j hj => ?_⟩)
        · rw [vu_ne _ _ h4, vu_ne _ _ h5, vu_ne _ _ (by omega)]
        · rw [vu_ne _ _ (show (23 : Nat) ≠ 25 by omega), vu_ne _ _ (show (23 : Nat) ≠ 37 by omega), b23, vu_ne _ _ (show (24 : Nat) ≠ 25 by omega), vu_ne _ _ (show (24 : Nat) ≠ 37 by omega), b24]; exact s1 j hj
        · rw [vu_ne _ _ (show (23 : Nat) ≠ 25 by omega), vu_ne _ _ (show (23 : Nat) ≠ 37 by omega), b23, vu_ne _ _ (show (24 : Nat) ≠ 25 by omega), vu_ne _ _ (show (24 : Nat) ≠ 37 by omega), b24, vu_at, vu_ne _ _ (show 10 + j ≠ 25 by omega), vu_ne _ _ (show 10 + j ≠ 37 by omega)]
          obtain ⟨w1, w2, w3, w4⟩ := s2 j hj
          refine ⟨w1, w2, ?_⟩
          by_cases q : j = l
          · rw [q, vu_at]
            refine ⟨fun i hi => ?_, fun i hi => ?_⟩
            · unfold va_cpy f_row
              by_cases u : aa ≤ i ∧ i < aa + mm
              · rw [if_pos u, if_pos (by omega), r3 _ (by omega)]
                dsimp only
                rw [show 24 * k + (pp + (i - aa)) = 24 * k + pp + (24 * l + i - (24 * l + aa)) by omega]
              · rw [if_neg u, if_neg (by omega)]; exact u3 i hi
            · unfold va_cpy
              by_cases u : aa ≤ i ∧ i < aa + mm
              · rw [if_pos u]; exact r4 _ (by omega)
              · rw [if_neg u]; exact u4 i hi
          · rw [vu_ne _ _ (by omega)]
            refine ⟨fun i hi => ?_, w4⟩
            unfold f_row
            rw [if_neg (by omega)]
            exact w3 i hi
  · refine cP_copyBad gs ?_
    refine H _ A F X (fun Q2 H2 => cM_copy s1 (fun _ => ?_) (fun z1 z2 => absurd ⟨z1, z2⟩ gs) (fun z1 z2 => absurd ⟨z1, z2⟩ gs) (fun z1 z2 => absurd ⟨z1, z2⟩ gs) (fun z1 z2 => absurd ⟨z1, z2⟩ gs))
    exact H2 A F X (inv_same hc h)
end LAW
