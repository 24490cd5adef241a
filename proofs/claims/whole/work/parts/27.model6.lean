section MOD
variable {A : qA} {F : qF} {X : qX} {Q : pz_Q} {M : pz_M}
set_option maxRecDepth 8000 in
theorem tM_worked {i m b : Nat} (hi : i < 14) (hb : b = 142 + 200 * i) (hok : okText (A 20) b m) (h : ∀ p : Nat → Int32, Q (some (.int (f_val (A 20) (A 35) b m))) (mem (va_up A 36 p) F X)) : ∀ (d k : Nat), k + d = m → ∀ (st : List Int32), f_run (A 20) (A 35) b k = some st → ∀ (p : Nat → Int32), pileR p st → ∀ x4 x5 : Option Value, pz_T z0 KX10_worked Q 4 (0, 0) [some (.ref 69), some (.int (nI i)), some (.int (nI st.length)), some (.int (nI k)), x4, x5] [] (mem (va_up A 36 p) F X) := by
  obtain ⟨o1, o2, o3, o4, o5⟩ := hok
  have eb : nI (142 + 200 * i) = nI b := by rw [hb]
  have e2 : nI b + 2 = nI (b + 2) := nI_add b 2
  have c2 := qcl (b + 2) e2 (by omega)
  intro d
  induction d with
  | zero =>
    intro k hk st hst p hp x4 x5
    have hk : k = m := by omega
    subst hk
    refine pz_wp_ok (pz_Is_ok SX10_worked) [4] 100 ?_
    refine cM_textAt rfl ?_
    rw [eb]
    refine ⟨qin (b + 2) e2 (by omega) (by omega), ?_⟩
    refine br1 (fun z => z ?_) ?_
    · show A 20 (nI b + 2).toNatClampNeg ≤ nI k
      rw [c2, o1]
      exact nI_le (by omega) (by omega)
    · refine ⟨qin 0 rfl (by omega) (by omega), ?_⟩
      have hne : st ≠ [] := fun e => o5 (A 35) (by rw [hst, e])
      have e0 : p 0 = f_val (A 20) (A 35) b k := by
        unfold f_val
        rw [hst]
        exact pileR_0 hne hp
      have h' := h p
      rw [← e0] at h'
      exact h'
  | succ d ih =>
    intro k hk st hst p hp x4 x5
    have e4 : nI b + 4 + 2 * nI k = nI (b + 4 + 2 * k) := by
      rw [show nI b + 4 = nI (b + 4) from nI_add b 4, show (2 : Int32) * nI k = nI (2 * k) from pk_mul 2 k, nI_add]
    have e5 : nI b + 4 + 2 * nI k + 1 = nI (b + 4 + 2 * k + 1) := by rw [e4]; exact nI_1 _
    have c4 := qcl (b + 4 + 2 * k) e4 (by omega)
    have c5 := qcl (b + 4 + 2 * k + 1) e5 (by omega)
    have ek : nI k + 1 = nI (k + 1) := nI_1 k
    obtain ⟨st', hst', hl'⟩ := o4 (A 35) (k + 1) (by omega)
    obtain ⟨st0, hst0, hl0⟩ := o4 (A 35) k (by omega)
    have : st0 = st := Option.some.inj (hst0.symm.trans hst)
    subst this
    have hstp := hst'
    rw [f_run, hst] at hstp
    dsimp only at hstp
    have hs := o3 k (by omega)
    unfold okStep at hs
    refine pz_wp_ok (pz_Is_ok SX10_worked) [4] 100 ?_
    refine cM_textAt rfl ?_
    rw [eb]
    refine ⟨qin (b + 2) e2 (by omega) (by omega), ?_⟩
    refine br2 (fun z => ?_) ?_
    · have z : A 20 (nI b + 2).toNatClampNeg ≤ nI k := z
      rw [c2, o1] at z
      have := (nI_leI (by omega) (by omega)).mp z
      omega
    refine cM_textAt rfl ?_
    rw [eb]
    refine ⟨qin (b + 4 + 2 * k) e4 (by omega) (by omega), ?_⟩
    rw [c4]
    refine cM_textAt rfl ?_
    rw [eb]
    refine ⟨qin (b + 4 + 2 * k + 1) e5 (by omega) (by omega), ?_⟩
    rw [c5]
    generalize hw : A 20 (b + 4 + 2 * k) = w at hstp hs
    generalize hv : A 20 (b + 4 + 2 * k + 1) = v at hstp hs
    have hw' : va_up A 36 p 20 (b + 4 + 2 * k) = w := hw
    have hv' : va_up A 36 p 20 (b + 4 + 2 * k + 1) = v := hv
    rw [hw', hv']
    have cl : (nI st0.length).toNatClampNeg = st0.length := qcl st0.length rfl (by omega)
    unfold f_stp at hstp
    refine ⟨fun g => ?_, fun g => ?_⟩
    · have g : w = 2 := g
      rw [if_pos g] at hstp
      refine ⟨fun g2 => ?_, fun g2 => ?_⟩
      · have g2 : ¬ v = 33 := g2
        rw [if_neg g2] at hstp
        match st0, hst, hp, hl0, hstp, cl with
        | y :: x :: r, hst, hp, hl0, hstp, cl =>
          have hr : r.length < 95 := by simp only [List.length_cons] at hl0; omega
          have en : nI (y :: x :: r).length + -1 = nI (r.length + 1) := pk_m1 (r.length + 1)
          have en1 : nI (y :: x :: r).length + -1 - 1 = nI r.length := by rw [en]; exact nI_sub1 (a := r.length + 1) (b := 1) (by omega)
          have cn := qcl (r.length + 1) en (by omega)
          have cn1 := qcl r.length en1 (by omega)
          refine ⟨qin r.length en1 (by omega) (by omega), ?_⟩
          refine ⟨qin (r.length + 1) en (by omega) (by omega), ?_⟩
          rw [cn, cn1]
          refine cM_joined ?_
          refine ⟨qin r.length en1 (by omega) (by omega), ?_⟩
          rw [cn1]
          have hx1 : va_up A 36 p 36 r.length = x := hp.2.1
          have hy1 : va_up A 36 p 36 (r.length + 1) = y := hp.1
          rw [hx1, hy1]
          have hst'' : st' = f_join v x y :: r := (Option.some.inj hstp).symm
          subst hst''
          have ih' := ih (k + 1) (by omega) _ hst' (upd p r.length (f_join v x y)) ⟨upd_at _ _ _, pileR_upd (Nat.le_refl _) hp.2.2⟩ (some (.int w)) (some (.int v))
          exact qT ih' (by rw [← ek, show nI (f_join v x y :: r).length = nI (y :: x :: r).length + -1 from en.symm]; rfl) rfl rfl
        | [x], _, _, _, hstp, _ => cases hstp
        | [], _, _, _, hstp, _ => cases hstp
      · have g2 : v = 33 := g2
        rw [if_pos g2] at hstp
        match st0, hst, hp, hl0, hstp, cl with
        | x :: r, hst, hp, hl0, hstp, cl =>
          have hr : r.length < 96 := by simp only [List.length_cons] at hl0; omega
          have en : nI (x :: r).length - 1 = nI r.length := nI_sub1 (a := r.length + 1) (b := 1) (by omega)
          have cn := qcl r.length en (by omega)
          refine ⟨qin r.length en (by omega) (by omega), ?_⟩
          rw [cn]
          have hx1 : va_up A 36 p 36 r.length = x := hp.1
          rw [hx1]
          have hst'' : st' = (if x = 0 then 1 else 0) :: r := (Option.some.inj hstp).symm
          refine ⟨fun g3 => ?_, fun g3 => ?_⟩
          · refine ⟨qin r.length en (by omega) (by omega), ?_⟩
            rw [cn]
            rw [if_neg g3] at hst''
            subst hst''
            have ih' := ih (k + 1) (by omega) _ hst' (upd p r.length 0) ⟨upd_at _ _ _, pileR_upd (Nat.le_refl _) hp.2⟩ (some (.int w)) (some (.int v))
            exact qT ih' (by rw [← ek]; rfl) rfl rfl
          · refine ⟨qin r.length en (by omega) (by omega), ?_⟩
            rw [cn]
            rw [if_pos g3] at hst''
            subst hst''
            have ih' := ih (k + 1) (by omega) _ hst' (upd p r.length 1) ⟨upd_at _ _ _, pileR_upd (Nat.le_refl _) hp.2⟩ (some (.int w)) (some (.int v))
            exact qT ih' (by rw [← ek]; rfl) rfl rfl
        | [], _, _, _, hstp, _ => cases hstp
    · have g : ¬ w = 2 := g
      rw [if_neg g] at hstp
      have el : nI st0.length + 1 = nI (st0.length + 1) := nI_1 _
      have hst'' : st' = (if w = 0 then v else A 35 v.toNatClampNeg) :: st0 := (Option.some.inj hstp).symm
      refine ⟨fun g2 => ?_, fun g2 => ?_⟩
      · have g2 : ¬ w = 0 := g2
        rw [if_neg g2] at hst''
        rcases hs with hs | ⟨hs, l, hl, hvl⟩ | hs
        · exact absurd hs g2
        · refine ⟨qin l hvl hl (by omega), ?_⟩
          refine ⟨qin st0.length rfl (by omega) (by omega), ?_⟩
          rw [cl]
          subst hst''
          have ih' := ih (k + 1) (by omega) _ hst' (upd p st0.length (A 35 v.toNatClampNeg)) ⟨upd_at _ _ _, pileR_upd (Nat.le_refl _) hp⟩ (some (.int w)) (some (.int v))
          exact qT ih' (by rw [← ek, List.length_cons, ← el]; rfl) rfl rfl
        · exact absurd hs g
      · have g2 : w = 0 := g2
        rw [if_pos g2] at hst''
        refine ⟨qin st0.length rfl (by omega) (by omega), ?_⟩
        rw [cl]
        subst hst''
        have ih' := ih (k + 1) (by omega) _ hst' (upd p st0.length v) ⟨upd_at _ _ _, pileR_upd (Nat.le_refl _) hp⟩ (some (.int w)) (some (.int v))
        exact qT ih' (by rw [← ek, List.length_cons, ← el]; rfl) rfl rfl
theorem cM_worked {i m : Nat} {x : Int32} (hx : x = nI i) (hi : i < 14) (hok : okText (A 20) (142 + 200 * i) m) (h : ∀ p : Nat → Int32, Q (some (.int (f_val (A 20) (A 35) (142 + 200 * i) m))) (mem (va_up A 36 p) F X)) : pz_C yX10_worked KX10_worked [.ref 69, .int x] (mem A F X) Q := by
  subst hx
  refine pz_C_of rfl rfl rfl (Nat.le_of_ble_eq_true rfl) (pz_wp_ok (pz_Is_ok SX10_worked) [4] 100 ?_)
  have h' := tM_worked hi rfl hok h m 0 (by omega) [] rfl (A 36) trivial none none
  rw [vu_s] at h'
  exact h'
end MOD
