/-! the reference: part0 -/
section GRAM
variable {A0 A : qA} {F0 F : qF} {X : qX} {Q : pz_Q} {a n key dp tn : Nat} {x : kS}
theorem kP_said {w v : Int32} (hP : kP A0 F0 a n A F (k_ad x w v) dp tn) : kP A0 F0 a n A (upd F 71 (F 71 + 1)) (k_lf x w v) dp tn := by
  obtain ⟨⟨b1, b2, b3⟩, r, d1, d2, d3, d4, d5⟩ := hP
  refine ⟨⟨b1, b2, b3.trans (qagF.up (by simp))⟩, kR_ag r (fun i h1 h2 => upd_ne _ _ (by omega)), by rw [upd_ne _ _ (by omega)]; exact d1, by rw [upd_ne _ _ (by omega)]; exact d2, by rw [upd_ne _ _ (by omega)]; exact d3, ?_, d5⟩
  rw [upd_at, d4]
  exact nI_1 _
theorem kP_dp {v : Int32} {d' : Nat} (hv : v = nI d') (hP : kP A0 F0 a n A F x dp tn) : kP A0 F0 a n A (upd F 67 v) x d' tn := by
  obtain ⟨⟨b1, b2, b3⟩, r, d1, d2, d3, d4, d5⟩ := hP
  exact ⟨⟨b1, b2, b3.trans (qagF.up (by simp))⟩, kR_ag r (fun i h1 h2 => upd_ne _ _ (by omega)), by rw [upd_at]; exact hv, by rw [upd_ne _ _ (by omega)]; exact d2, by rw [upd_ne _ _ (by omega)]; exact d3, by rw [upd_ne _ _ (by omega)]; exact d4, d5⟩
theorem kP_tn {v : Int32} {t' : Nat} (hv : v = nI t') (hP : kP A0 F0 a n A F x dp tn) : kP A0 F0 a n A (upd F 68 v) x dp t' := by
  obtain ⟨⟨b1, b2, b3⟩, r, d1, d2, d3, d4, d5⟩ := hP
  exact ⟨⟨b1, b2, b3.trans (qagF.up (by simp))⟩, kR_ag r (fun i h1 h2 => upd_ne _ _ (by omega)), by rw [upd_ne _ _ (by omega)]; exact d1, by rw [upd_at]; exact hv, by rw [upd_ne _ _ (by omega)]; exact d3, by rw [upd_ne _ _ (by omega)]; exact d4, d5⟩
theorem k_no {T : Nat → Int32} {c : Int32} {ok : Int32 → Bool} (h : ∀ v, ok v = true → v = c) (g : ¬ (x.1.1 = 3 ∧ T x.1.2.1 = c)) : ¬ k_in T x ok = true := fun z => g ⟨(k_in_i.mp z).1, h _ (k_in_i.mp z).2⟩
set_option maxRecDepth 8000 in
theorem cM_part0 (hG : kG F0 a n) (hkey : key < 3) : ∀ f dp tn dr, dp ≤ 8 → tn ≤ 8 → 16 < f + dp + tn → 7 * f ≤ dr → kC yX10_part0 (KX10_part0 (dr + 1)) A0 F0 X a n key (k_part (A0 34) n key f dp tn) dp tn := by
  have hn := hG.2.2
  intro f
  induction f with
  | zero => intro dp tn dr h1 h2 h3; omega
  | succ f ih =>
    intro dp tn dr hdp htn hfu hdr A F x Q hP hk hl h1 h0
    obtain ⟨e, rfl⟩ : ∃ e, dr = e + 6 := ⟨dr - 6, by omega⟩
    have h5 := hk.2.2.1
    have hle : x.1.2.1 ≤ 96 := Nat.le_trans hk.1 (Nat.le_trans hk.2.1 hn)
    obtain ⟨a1, a2⟩ := k_ok_nx hk
    have al := k_nx_len hk hl
    have e34 : A 34 = A0 34 := hP.1.1 34 (by simp)
    have r := hP.2.1
    rw [k_part] at h1 h0
    have p84 : ¬ x.1.1 = 2 → ¬ (x.1.1 = 1 ∧ x.1.2.2 - x.1.2.1 = 1 ∧ alwb key (A0 34 x.1.2.1) = true) → pz_T z0 (KX10_part0 (e + 6 + 1)) Q 84 (0, 0) [some (.ref 69), some (.int (nI key))] [] (mem A F X) := by
      intro g2 g1
      rw [if_neg g2, if_neg g1] at h1 h0
      refine pz_wp_ok (pz_Is_ok (SX10_part0 (e + 6))) [145] 100 ?_
      have p145 : ¬ (k_in (A0 34) x ok_not = true ∧ tn < 8) → pz_T z0 (KX10_part0 (e + 6 + 1)) Q 145 (0, 0) [some (.ref 69), some (.int (nI key))] [] (mem A F X) := by
        intro g3
        rw [if_neg g3] at h1 h0
        refine pz_wp_ok (pz_Is_ok (SX10_part0 (e + 6))) [] 100 ?_
        refine kP_sign hP hk (fun g => ?_) (fun g => ?_)
        · refine br2 (by decide) ?_
          have hin : k_in (A0 34) x ok_open = true := k_in_i.mpr ⟨g.1, decide_eq_true g.2⟩
          have d67 : F 67 = nI dp := hP.2.2.1
          refine ⟨fun g4 => ?_, fun g4 => ?_⟩
          · have g4 : ¬ F 67 = 8 := g4
            rw [d67] at g4
            have g4 : dp < 8 := by
              have : ¬ dp = 8 := fun z => g4 (by rw [z]; rfl)
              omega
            rw [if_pos ⟨hin, g4⟩] at h1 h0
            have e67 : F 67 + 1 = nI (dp + 1) := by rw [d67]; exact nI_1 _
            refine kP_next (F := upd F 67 (F 67 + 1)) hG (kP_dp e67 hP) hk (fun F1 hP1 => ?_)
            have hpt := k_part_to (A0 34) n key f (dp + 1) tn
            have hex := cM_either (X := X) hG (k_both_to hpt) (cM_both (X := X) hG (k_test_to hpt) (cM_test (X := X) hG (k_sum_to hpt) (cM_sum (X := X) hG (k_term_to hpt) (cM_term (X := X) hG hpt (ih (dp + 1) tn e (by omega) htn (by omega) (by omega))))))
            have hrm := fun (y : kS) hy => k_room (x := x) (y := y) (k_expr_to hpt) hk hl g.1 hy
            refine hex A F1 _ _ hP1 a1 al (fun A2 F2 y hy hP2 => ?_) (fun A2 F2 e' he hB hb => ?_)
            · refine br2 (by decide) ?_
              obtain ⟨r1, r2, r3, r4⟩ := hrm y hy
              have hy' : k_expr (A0 34) n (k_part (A0 34) n key f (dp + 1) tn) (k_nx (A0 34) n x) = .inl y := hy
              rw [hy'] at h1 h0
              dsimp only at h1 h0
              refine kP_sign hP2 r1 (fun g5 => ?_) (fun g5 => ?_)
              · refine br1 (by decide) ?_
                have hin5 : k_in (A0 34) y ok_clos = true := k_in_i.mpr ⟨g5.1, decide_eq_true g5.2⟩
                rw [if_pos hin5] at h1
                have e67' : F2 67 - 1 = nI dp := by rw [hP2.2.2.1]; exact nI_sub1 (a := dp + 1) (b := 1) (by omega)
                refine kP_next (F := upd F2 67 (F2 67 - 1)) hG (kP_dp e67' hP2) r1 (fun F3 hP3 => ?_)
                exact ⟨Or.inr rfl, h1 A2 F3 _ rfl hP3⟩
              · refine br2 (fun z => z rfl) ?_
                rw [if_neg (k_no (ok := ok_clos) (fun v hv => of_decide_eq_true hv) g5)] at h0
                exact ⟨Or.inl rfl, h0 A2 F2 _ rfl hP2.1 (kP_begin hP2)⟩
            · refine br1 (fun z => z rfl) ?_
              have he' : k_expr (A0 34) n (k_part (A0 34) n key f (dp + 1) tn) (k_nx (A0 34) n x) = .inr e' := he
              rw [he'] at h0
              exact ⟨Or.inl rfl, h0 A2 F2 e' rfl hB hb⟩
          · have g4 : F 67 = 8 := g4
            rw [d67] at g4
            have g4 : dp = 8 := (nI_eq (a := dp) (b := 8) (by omega) (by omega)).mp g4
            rw [if_neg (fun z => by omega)] at h0
            exact ⟨Or.inl rfl, h0 A F _ rfl hP.1 (kP_begin hP)⟩
        · refine br1 (fun z => z rfl) ?_
          rw [if_neg (fun z => k_no (fun v hv => of_decide_eq_true hv) g z.1)] at h0
          exact ⟨Or.inl rfl, h0 A F _ rfl hP.1 (kP_begin hP)⟩
      refine kP_sign hP hk (fun g => ?_) (fun g => ?_)
      · refine br2 (by decide) ?_
        have hin : k_in (A0 34) x ok_not = true := k_in_i.mpr ⟨g.1, decide_eq_true g.2⟩
        have d68 : F 68 = nI tn := hP.2.2.2.1
        refine ⟨fun g4 => ?_, fun g4 => ?_⟩
        · have g4 : (8 : Int32) ≤ F 68 := g4
          rw [d68] at g4
          have g4 : 8 ≤ tn := (nI_leI (a := 8) (b := tn) (by omega) (by omega)).mp g4
          exact p145 (fun z => by omega)
        · have g4 : ¬ (8 : Int32) ≤ F 68 := g4
          rw [d68] at g4
          have g4 : ¬ 8 ≤ tn := fun z => g4 ((nI_leI (a := 8) (b := tn) (by omega) (by omega)).mpr z)
          rw [if_pos ⟨hin, by omega⟩] at h1 h0
          have e68 : F 68 + 1 = nI (tn + 1) := by rw [d68]; exact nI_1 _
          refine kP_next (F := upd F 68 (F 68 + 1)) hG (kP_tn e68 hP) hk (fun F1 hP1 => ?_)
          have hrec := ih dp (tn + 1) (e + 5) hdp (by omega) (by omega) (by omega)
          have hrm := fun (y : kS) hy => k_room (x := x) (y := y) (k_part_to (A0 34) n key f dp (tn + 1)) hk hl g.1 hy
          refine hrec A F1 _ _ hP1 a1 al (fun A2 F2 y hy hP2 => ?_) (fun A2 F2 e' he hB hb => ?_)
          · refine br1 (by decide) ?_
            obtain ⟨r1, r2, r3, r4⟩ := hrm y hy
            rw [hy] at h1
            have e68' : F2 68 - 1 = nI tn := by rw [hP2.2.2.2.1]; exact nI_sub1 (a := tn + 1) (b := 1) (by omega)
            refine kP_step (F := upd F2 68 (F2 68 - 1)) hG (kP_tn e68' hP2) (by omega) (fun A3 F3 hP3 => ?_)
            exact ⟨Or.inr rfl, h1 A3 F3 _ rfl hP3⟩
          · refine br2 (fun z => z rfl) ?_
            rw [he] at h0
            exact ⟨Or.inl rfl, h0 A2 F2 e' rfl hB hb⟩
      · refine br1 (fun z => z rfl) ?_
        exact p145 (fun z => k_no (fun v hv => of_decide_eq_true hv) g z.1)
    refine pz_C_of rfl rfl rfl (Nat.le_of_ble_eq_true rfl) (pz_wp_ok (pz_Is_ok (SX10_part0 (e + 6))) [33] 100 ?_)
    refine ⟨fun g2 => ?_, fun g2 => ?_⟩
    · have g2 : ¬ F 64 = 2 := g2
      rw [r.2.2.2.1] at g2
      have g2 : ¬ x.1.1 = 2 := fun z => g2 (by rw [z]; rfl)
      refine pz_wp_ok (pz_Is_ok (SX10_part0 (e + 6))) [84] 100 ?_
      refine ⟨fun g1 => ?_, fun g1 => ?_⟩
      · have g1 : ¬ F 64 = 1 := g1
        rw [r.2.2.2.1] at g1
        exact p84 g2 (fun z => g1 (by rw [z.1]; rfl))
      · have g1 : F 64 = 1 := g1
        rw [r.2.2.2.1] at g1
        have g1 : x.1.1 = 1 := (nI_eq (a := x.1.1) (b := 1) (by omega) (by omega)).mp g1
        have r66 := r.2.2.2.2.2.1 g1
        have hlt := hk.2.2.2.1 (by omega)
        refine ⟨fun g3 => ?_, fun g3 => ?_⟩
        · have g3 : F 66 = 0 := g3
          rw [r66] at g3
          refine p84 g2 (fun z => ?_)
          rw [if_pos z.2.1] at g3
          have := hk.2.2.2.2.1 g1 x.1.2.1 (Nat.le_refl _) hlt
          rw [g3] at this
          exact absurd this.1 (by decide)
        · have g3 : ¬ F 66 = 0 := g3
          have g4 : x.1.2.2 - x.1.2.1 = 1 := by
            by_cases z : x.1.2.2 - x.1.2.1 = 1
            · exact z
            · rw [r66, if_neg z] at g3
              exact absurd rfl g3
          rw [if_pos g4] at r66
          refine cM_isName (key := key) rfl hkey (fun g5 => ?_) (fun g5 => ?_)
          · have g5 : alw key (F 66) := g5
            rw [r66] at g5
            refine br2 (by decide) ?_
            rw [if_neg g2, if_pos ⟨g1, g4, alwb_i.mpr g5⟩] at h1
            refine kP_step hG hP (by have := hk.2.1; omega) (fun A1 F1 hP1 => ?_)
            have hP1 : kP A0 F0 a n A1 F1 (k_ad x 1 (F 66)) dp tn := hP1
            rw [r66] at hP1
            have hP1' := kP_said hP1
            refine kP_next (F := upd F1 71 (F1 71 + 1)) hG hP1' hk (fun F2 hP2 => ?_)
            exact ⟨Or.inr rfl, h1 A1 F2 _ rfl hP2⟩
          · have g5 : ¬ alw key (F 66) := g5
            rw [r66] at g5
            refine br1 (fun z => z rfl) ?_
            exact p84 g2 (fun z => g5 (alwb_i.mp z.2.2))
    · have g2 : F 64 = 2 := g2
      rw [r.2.2.2.1] at g2
      have g2 : x.1.1 = 2 := (nI_eq (a := x.1.1) (b := 2) (by omega) (by omega)).mp g2
      have r65 := r.2.2.2.2.1 g2
      have hlt := hk.2.2.2.1 (by omega)
      rw [if_pos g2] at h1
      refine kP_step hG hP (by have := hk.2.1; omega) (fun A1 F1 hP1 => ?_)
      have hP1 : kP A0 F0 a n A1 F1 (k_ad x 0 (F 65)) dp tn := hP1
      rw [r65] at hP1
      have hP1' := kP_said hP1
      refine kP_next (F := upd F1 71 (F1 71 + 1)) hG hP1' hk (fun F2 hP2 => ?_)
      exact ⟨Or.inr rfl, h1 A1 F2 _ rfl hP2⟩
end GRAM
