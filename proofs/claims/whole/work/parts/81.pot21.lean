/-! the pot's reader: pieces -/
section PGRAM
variable {A : qA} {F0 F : qF} {X0 X : qX} {Q : pz_Q} {T : Nat → Int32} {i n key dp tn : Nat} {x : kS}
theorem pz_T_putd {φ : pz_V → State → Prop} {κ : pz_K} {pc j n : Nat} {v : Int32} {u : Nat × Nat} {L : pz_L} {S : List Value} (hS : pz_S κ pc (pz_puti 4 (j + 1) n)) (hd : X.2.1 = xr i) (hi : i ≤ X.2.2.1) (hj : j < 3) (h : pz_T φ κ Q n u L S (mem A F (xF X i (upd (X.2.2.2.2 i) j v)))) : pz_T φ κ Q pc u L (.int v :: .ref X.2.1 :: S) (mem A F X) := by
  rw [hd]
  exact pz_T_putx hS hi hj h
theorem pP_leaf {w v : Int32} (hP : pP F0 X0 i n key F X (k_ad x w v) dp tn) : pP F0 X0 i n key F (xF X i (upd (X.2.2.2.2 i) 2 (X.2.2.2.2 i 2 + 1))) (k_lf x w v) dp tn := by
  obtain ⟨a1, a2, a3, a4, a5, a6, a7, a8, a9⟩ := hP
  refine ⟨a1, xag_uf a2, a3, a4, a5, ?_, ?_, ?_, a9⟩
  · rw [xF_at, upd_ne _ _ (by omega)]; exact a6
  · rw [xF_at, upd_ne _ _ (by omega)]; exact a7
  · rw [xF_at, upd_at, a8]; exact nI_1 _
set_option maxRecDepth 8000 in
theorem cP_readsNot (hG : pG A X0 T i n key) {dr : Nat} {p : kS → kQ} (hp : k_sub T n key p) (hc : pC yX3_readsPiece (KX3_readsPiece dr) A F0 X0 T i n key p dp (tn + 1)) (htn : tn < 8) (hP : pP F0 X0 i n key F X x dp tn) (hk : k_ok T n x.1) (hl : x.2.2.length ≤ x.1.2.1) (h3 : x.1.1 = 3) (h1 : ∀ (F' : qF) (X' : qX) (y : kS), p (k_nx T n x) = .inl y → pP F0 X0 i n key F' X' (k_ad y 2 33) dp tn → Q (some (.int 1)) (mem A F' X')) (h0 : ∀ (F' : qF) (X' : qX) (e : Nat), p (k_nx T n x) = .inr e → pB F0 X0 i F' X' → F' 4 = nI e → Q (some (.int 0)) (mem A F' X')) : pz_C yX3_readsNot (KX3_readsNot (dr + 1)) [.ref 36] (mem A F X) Q := by
  have hn := hG.2.1
  obtain ⟨a1, a2⟩ := k_ok_nx hk
  have al := k_nx_len hk hl
  have d7 : F 7 = nI tn := hP.2.2.2.2.1
  have e7 : F 7 + 1 = nI (tn + 1) := by rw [d7]; exact nI_1 _
  refine pz_C_of rfl rfl rfl (Nat.le_of_ble_eq_true rfl) (pz_wp_ok (pz_Is_ok (SX3_readsNot dr)) [35] 100 ?_)
  refine pP_next (F := upd F 7 (F 7 + 1)) hG (pP_tn e7 hP) hk (fun F1 hP1 => ?_)
  refine hc F1 X _ _ hP1 a1 al (fun F2 X2 y hy hP2 => ?_) (fun F2 X2 e he hB hb => ?_)
  · obtain ⟨r1, r2, r3, r4⟩ := k_room hp hk hl h3 hy
    have e7' : F2 7 - 1 = nI tn := by rw [hP2.2.2.2.2.1]; exact nI_sub1 (a := tn + 1) (b := 1) (by omega)
    have hP3 := pP_tn e7' hP2
    obtain ⟨d1, d2⟩ := hP3.d hG
    refine pz_T_cv0 (r := X2.2.1) (S' := []) (pz_Is_ok (SX3_readsNot dr) (35, pz_cv0 yX6_adds KX6_adds 4 2 38) (List.mem_of_getElem? (i := 20) rfl)) rfl (mem_xd (F := upd F2 7 (F2 7 - 1)) d1 d2) rfl ?_
    refine pP_add (F := upd F2 7 (F2 7 - 1)) (w := 2) (v := 33) hG hP3 (by omega) rfl (fun X3 hP4 => ?_)
    refine pz_wp_ok (pz_Is_ok (SX3_readsNot dr)) [] 100 ?_
    exact ⟨Or.inr rfl, h1 _ X3 y hy hP4⟩
  · have hB3 := pB_up (v := F2 7 - 1) (Or.inr rfl) hB
    obtain ⟨d1, d2⟩ := hB3.d hG
    refine pz_T_cv0 (r := X2.2.1) (S' := []) (pz_Is_ok (SX3_readsNot dr) (35, pz_cv0 yX6_adds KX6_adds 4 2 38) (List.mem_of_getElem? (i := 20) rfl)) rfl (mem_xd (F := upd F2 7 (F2 7 - 1)) d1 d2) rfl ?_
    refine pB_add (F := upd F2 7 (F2 7 - 1)) hG hB3 (fun X3 hB4 => ?_)
    refine pz_wp_ok (pz_Is_ok (SX3_readsNot dr)) [] 100 ?_
    exact ⟨Or.inl rfl, h0 _ X3 e he hB4 (by rw [upd_ne _ _ (by omega)]; exact hb)⟩
set_option maxRecDepth 8000 in
theorem cP_readsParen (hG : pG A X0 T i n key) {dr : Nat} {p : kS → kQ} (hp : k_sub T n key p) (hc : pC yX3_readsOr (KX3_readsOr dr) A F0 X0 T i n key p (dp + 1) tn) (hdp : dp < 8) (hP : pP F0 X0 i n key F X x dp tn) (hk : k_ok T n x.1) (hl : x.2.2.length ≤ x.1.2.1) (h3 : x.1.1 = 3) (h1 : ∀ (F' : qF) (X' : qX) (y : kS), p (k_nx T n x) = .inl y → k_in T y ok_clos = true → pP F0 X0 i n key F' X' (k_nx T n y) dp tn → Q (some (.int 1)) (mem A F' X')) (h2 : ∀ (F' : qF) (X' : qX) (y : kS), p (k_nx T n x) = .inl y → ¬ k_in T y ok_clos = true → pB F0 X0 i F' X' → F' 4 = nI y.1.2.1 → Q (some (.int 0)) (mem A F' X')) (h0 : ∀ (F' : qF) (X' : qX) (e : Nat), p (k_nx T n x) = .inr e → pB F0 X0 i F' X' → F' 4 = nI e → Q (some (.int 0)) (mem A F' X')) : pz_C yX3_readsParen (KX3_readsParen (dr + 1)) [.ref 36] (mem A F X) Q := by
  have hn := hG.2.1
  obtain ⟨a1, a2⟩ := k_ok_nx hk
  have al := k_nx_len hk hl
  have d6 : F 6 = nI dp := hP.2.2.2.1
  have e6 : F 6 + 1 = nI (dp + 1) := by rw [d6]; exact nI_1 _
  refine pz_C_of rfl rfl rfl (Nat.le_of_ble_eq_true rfl) (pz_wp_ok (pz_Is_ok (SX3_readsParen dr)) [] 100 ?_)
  refine pP_next (F := upd F 6 (F 6 + 1)) hG (pP_dp e6 hP) hk (fun F1 hP1 => ?_)
  refine hc F1 X _ _ hP1 a1 al (fun F2 X2 y hy hP2 => ?_) (fun F2 X2 e he hB hb => ?_)
  · obtain ⟨r1, r2, r3, r4⟩ := k_room hp hk hl h3 hy
    have e6' : F2 6 - 1 = nI dp := by rw [hP2.2.2.2.1]; exact nI_sub1 (a := dp + 1) (b := 1) (by omega)
    refine br2 (by decide) ?_
    refine pP_sign hG hP2 r1 ⟨by decide, by decide⟩ (fun g => ?_) (fun g => ?_)
    · refine br2 (by decide) ?_
      have hin : k_in T y ok_clos = true := k_in_i.mpr ⟨g.1, decide_eq_true g.2⟩
      refine br2 (by decide) ?_
      refine pP_next (F := upd F2 6 (F2 6 - 1)) hG (pP_dp e6' hP2) r1 (fun F3 hP3 => ?_)
      exact ⟨Or.inr rfl, h1 F3 X2 y hy hin hP3⟩
    · refine br1 (fun z => z rfl) ?_
      refine br1 (fun z => z rfl) ?_
      have hB := pB_up (v := F2 6 - 1) (Or.inl rfl) (hP2.toB hn (by omega))
      exact ⟨Or.inl rfl, h2 (upd F2 6 (F2 6 - 1)) X2 y hy (k_no (ok := ok_clos) (fun v hv => of_decide_eq_true hv) g) hB (by rw [upd_ne _ _ (by omega)]; exact hP2.2.2.1.2.2.1)⟩
  · refine br1 (fun z => z rfl) ?_
    refine br1 (fun z => z rfl) ?_
    exact ⟨Or.inl rfl, h0 (upd F2 6 (F2 6 - 1)) X2 e he (pB_up (Or.inl rfl) hB) (by rw [upd_ne _ _ (by omega)]; exact hb)⟩
set_option maxRecDepth 8000 in
theorem tP_leaf {w v c : Int32} {dr : Nat} {x1 : Option Value} (hG : pG A X0 T i n key) (hP : pP F0 X0 i n key F X x dp tn) (hk : k_ok T n x.1) (hl : x.2.2.length ≤ 95) (hc : c = encS key w v) (h : ∀ (F' : qF) (X' : qX), pP F0 X0 i n key F' X' (k_nx T n (k_lf x w v)) dp tn → Q (some (.int 1)) (mem A F' X')) : pz_T z0 (KX3_readsPiece (dr + 1)) Q 105 (0, 0) [some (.ref 36), x1] [.int c, .ref X.2.1] (mem A F X) := by
  obtain ⟨d1, d2⟩ := hP.d hG
  refine pz_T_cv0 (r := X.2.1) (S' := []) (pz_Is_ok (SX3_readsPiece dr) (105, pz_cv0 yX6_adds KX6_adds 4 2 108) (List.mem_of_getElem? (i := 53) rfl)) rfl (mem_xd d1 d2) rfl ?_
  refine pP_add (w := w) (v := v) hG hP hl hc (fun X1 hP1 => ?_)
  obtain ⟨f1, f2⟩ := hP1.d hG
  refine pz_wp_ok (pz_Is_ok (SX3_readsPiece dr)) [113] 100 ?_
  refine pz_T_get (r := X1.2.1) (pz_Is_ok (SX3_readsPiece dr) (113, pz_get 4 3 116) (List.mem_of_getElem? (i := 57) rfl)) (mem_xd f1 f2) rfl ?_
  refine pz_wp_ok (pz_Is_ok (SX3_readsPiece dr)) [118] 100 ?_
  refine pz_T_putd (j := 2) (pz_Is_ok (SX3_readsPiece dr) (118, pz_puti 4 3 121) (List.mem_of_getElem? (i := 60) rfl)) f1 f2 (by omega) ?_
  refine pz_wp_ok (pz_Is_ok (SX3_readsPiece dr)) [] 100 ?_
  refine pP_next hG (pP_leaf hP1) hk (fun F2 hP2 => ?_)
  exact ⟨Or.inr rfl, h F2 _ hP2⟩
set_option maxRecDepth 8000 in
theorem cP_readsPiece (hG : pG A X0 T i n key) : ∀ f dp tn dr, dp ≤ 8 → tn ≤ 8 → 16 < f + dp + tn → 8 * f ≤ dr → pC yX3_readsPiece (KX3_readsPiece (dr + 1)) A F0 X0 T i n key (k_part T n key f dp tn) dp tn := by
  have hn := hG.2.1
  have hk3 := hG.2.2.1
  intro f
  induction f with
  | zero => intro dp tn dr h1 h2 h3; omega
  | succ f ih =>
    intro dp tn dr hdp htn hfu hdr F X x Q hP hk hl h1 h0
    obtain ⟨e, rfl⟩ : ∃ e, dr = e + 7 := ⟨dr - 7, by omega⟩
    have h5 := hk.2.2.1
    have h12 := hk.1
    have h2n := hk.2.1
    have d6 : F 6 = nI dp := hP.2.2.2.1
    have d7 : F 7 = nI tn := hP.2.2.2.2.1
    have r3 : F 3 = nI x.1.1 := hP.2.2.1.2.1
    have r4 : F 4 = nI x.1.2.1 := hP.2.2.1.2.2.1
    have hB := hP.toB hn (by omega)
    rw [k_part] at h1 h0
    refine pz_C_of rfl rfl rfl (Nat.le_of_ble_eq_true rfl) (pz_wp_ok (pz_Is_ok (SX3_readsPiece (e + 7))) [81] 100 ?_)
    refine pP_sign hG hP hk ⟨by decide, by decide⟩ (fun g => ?_) (fun g => ?_)
    · have n2 : ¬ x.1.1 = 2 := by omega
      have n1 : ¬ (x.1.1 = 1 ∧ x.1.2.2 - x.1.2.1 = 1 ∧ alwb key (T x.1.2.1) = true) := fun z => by omega
      rw [if_neg n2, if_neg n1] at h1 h0
      have hin : k_in T x ok_not = true := k_in_i.mpr ⟨g.1, decide_eq_true g.2⟩
      refine br2 (by decide) ?_
      refine ⟨fun g4 => ?_, fun g4 => ?_⟩
      · have g4 : (8 : Int32) ≤ F 7 := g4
        rw [d7] at g4
        have g4 : 8 ≤ tn := (nI_leI (a := 8) (b := tn) (by omega) (by omega)).mp g4
        rw [if_neg (fun z => by omega), if_neg (fun z => by
          have := of_decide_eq_true (k_in_i.mp z.1).2
          rw [g.2] at this
          exact absurd this (by decide))] at h0
        exact ⟨Or.inl rfl, h0 F X _ rfl hB r4⟩
      · have g4 : ¬ (8 : Int32) ≤ F 7 := g4
        rw [d7] at g4
        have g4 : ¬ 8 ≤ tn := fun z => g4 ((nI_leI (a := 8) (b := tn) (by omega) (by omega)).mpr z)
        rw [if_pos ⟨hin, by omega⟩] at h1 h0
        refine cP_readsNot (dr := e + 6) hG (k_part_to T n key f dp (tn + 1)) (ih dp (tn + 1) (e + 5) hdp (by omega) (by omega) (by omega)) (by omega) hP hk hl g.1 (fun F' X' y hy hP' => ?_) (fun F' X' e' he hB' hb => ?_)
        · rw [hy] at h1
          refine br2 (by decide) ?_
          exact ⟨Or.inr rfl, h1 F' X' _ rfl hP'⟩
        · rw [he] at h0
          refine br1 (fun z => z rfl) ?_
          exact ⟨Or.inl rfl, h0 F' X' e' rfl hB' hb⟩
    have ng := k_no (ok := ok_not) (fun v hv => of_decide_eq_true hv) g
    refine br1 (fun z => z rfl) ?_
    refine pP_sign hG hP hk ⟨by decide, by decide⟩ (fun g' => ?_) (fun g' => ?_)
    · have n2 : ¬ x.1.1 = 2 := by omega
      have n1 : ¬ (x.1.1 = 1 ∧ x.1.2.2 - x.1.2.1 = 1 ∧ alwb key (T x.1.2.1) = true) := fun z => by omega
      rw [if_neg n2, if_neg n1, if_neg (fun z => ng z.1)] at h1 h0
      have hin : k_in T x ok_open = true := k_in_i.mpr ⟨g'.1, decide_eq_true g'.2⟩
      refine br2 (by decide) ?_
      refine ⟨fun g4 => ?_, fun g4 => ?_⟩
      · have g4 : (8 : Int32) ≤ F 6 := g4
        rw [d6] at g4
        have g4 : 8 ≤ dp := (nI_leI (a := 8) (b := dp) (by omega) (by omega)).mp g4
        rw [if_neg (fun z => by omega)] at h0
        exact ⟨Or.inl rfl, h0 F X _ rfl hB r4⟩
      · have g4 : ¬ (8 : Int32) ≤ F 6 := g4
        rw [d6] at g4
        have g4 : ¬ 8 ≤ dp := fun z => g4 ((nI_leI (a := 8) (b := dp) (by omega) (by omega)).mpr z)
        rw [if_pos ⟨hin, by omega⟩] at h1 h0
        have hpt := k_part_to T n key f (dp + 1) tn
        have hex := cP_readsOr (F0 := F0) hG (k_both_to hpt) (cP_readsAnd (F0 := F0) hG (k_test_to hpt) (cP_readsTest (F0 := F0) hG (k_sum_to hpt) (cP_readsSum (F0 := F0) hG (k_term_to hpt) (cP_readsTerm (F0 := F0) hG hpt (ih (dp + 1) tn e (by omega) htn (by omega) (by omega))))))
        refine cP_readsParen (dr := e + 6) (p := k_expr T n (k_part T n key f (dp + 1) tn)) hG (k_expr_to hpt) hex (by omega) hP hk hl g'.1 (fun F' X' y hy hc hP' => ?_) (fun F' X' y hy hc hB' hb => ?_) (fun F' X' e' he hB' hb => ?_)
        · rw [hy] at h1
          dsimp only at h1
          rw [if_pos hc] at h1
          refine br2 (by decide) ?_
          exact ⟨Or.inr rfl, h1 F' X' _ rfl hP'⟩
        · rw [hy] at h0
          dsimp only at h0
          rw [if_neg hc] at h0
          refine br1 (fun z => z rfl) ?_
          exact ⟨Or.inl rfl, h0 F' X' _ rfl hB' hb⟩
        · rw [he] at h0
          refine br1 (fun z => z rfl) ?_
          exact ⟨Or.inl rfl, h0 F' X' e' rfl hB' hb⟩
    have ng' := k_no (ok := ok_open) (fun v hv => of_decide_eq_true hv) g'
    refine br1 (fun z => z rfl) ?_
    obtain ⟨d1, d2⟩ := hP.d hG
    refine cR_name hG.1 hn hP.2.2.1 hk d1 d2 hP.2.2.2.2.2.2.1 hk3 ?_
    by_cases q2 : x.1.1 = 2
    · rw [if_pos q2] at h1
      have hlt := hk.2.2.2.1 (by omega)
      refine br1 (fun z => z (by show F 3 = 2; rw [r3, q2]; rfl)) ?_
      refine pz_wp_ok (pz_Is_ok (SX3_readsPiece (e + 7))) [105] 100 ?_
      refine br2 (fun z => z (by show F 3 = 2; rw [r3, q2]; rfl)) ?_
      refine cR_number hG.1 hn hP.2.2.1 hk q2 ?_
      exact tP_leaf (w := 0) (v := k_num T x.1.2.1 (x.1.2.2 - x.1.2.1)) hG hP hk (by omega) rfl (fun F' X' hP' => h1 F' X' _ rfl hP')
    · rw [if_neg q2] at h1 h0
      have n2 : ¬ F 3 = 2 := by
        rw [r3]
        exact fun z => q2 ((nI_eq (a := x.1.1) (b := 2) (by omega) (by omega)).mp z)
      refine br2 n2 ?_
      unfold k_nm
      by_cases q1 : x.1.1 = 1 ∧ x.1.2.2 - x.1.2.1 = 1 ∧ alwb key (T x.1.2.1) = true
      · rw [if_pos q1] at h1 ⊢
        have hlt := hk.2.2.2.1 (by omega)
        have hx : nmx key (T x.1.2.1) ≤ 2 := by
          unfold nmx
          repeat' split
          all_goals omega
        refine br1 (fun z => z (nI_pos' (by omega))) ?_
        refine pz_wp_ok (pz_Is_ok (SX3_readsPiece (e + 7))) [105] 100 ?_
        refine br1 n2 ?_
        have ec : (10000 : Int32) + nI (nmx key (T x.1.2.1)) = encS key 1 (T x.1.2.1) := by
          unfold encS
          rw [if_neg (by decide), if_pos rfl]
          exact nI_add 10000 _
        exact tP_leaf (w := 1) (v := T x.1.2.1) hG hP hk (by omega) ec (fun F' X' hP' => h1 F' X' _ rfl hP')
      · rw [if_neg q1] at h0 ⊢
        rw [if_neg (fun z => ng z.1), if_neg (fun z => ng' z.1)] at h0
        refine br2 (by decide) ?_
        exact ⟨Or.inl rfl, h0 F X _ rfl hB r4⟩
end PGRAM
