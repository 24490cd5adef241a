/-! text of both sides -/
theorem qm_cgt {n o s : Nat} {t t' : Nat → Int32} (h : ∀ j, j < n → t (o + s * j) = t' (o + s * j)) : qm n o s t = qm n o s t' := by
  funext j
  unfold qm
  by_cases g : j < n
  · rw [if_pos g, if_pos g, h j g]
  · rw [if_neg g, if_neg g]
set_option maxRecDepth 8000 in
theorem mem_gh {A : qA} {F : qF} {X : qX} {t : Nat → Int32} (ht : ∀ j, j < 142 → t j = A 0 j) : mem (va_up A 0 t) F X = mem A F X := by
  have v0 : va_up A 0 t 0 = t := vu_at _ _ _
  have e1 : qt_o 4 t = qt_o 4 (A 0) := by unfold qt_o; rw [ht 0 (by omega), ht 3 (by omega), ht 4 (by omega), ht 2 (by omega), ht 5 (by omega), ht 1 (by omega)]
  have e2 : qt_h t = qt_h (A 0) := by unfold qt_h; rw [qm_cgt (fun j hj => ht _ (by omega))]
  have e3 : qt_w t = qt_w (A 0) := by unfold qt_w; rw [qm_cgt (fun j hj => ht _ (by omega))]
  have e4 : qt_p t = qt_p (A 0) := by unfold qt_p; rw [qm_cgt (fun j hj => ht _ (by omega))]
  have e5 : qt_k t = qt_k (A 0) := by unfold qt_k; rw [qm_cgt (fun j hj => ht _ (by omega))]
  have e6 : qt_l t = qt_l (A 0) := by unfold qt_l; rw [qm_cgt (fun j hj => ht _ (by omega))]
  have e7 : qt_a t = qt_a (A 0) := by unfold qt_a; rw [qm_cgt (fun j hj => ht _ (by omega))]
  have e8 : qt_r t = qt_r (A 0) := by unfold qt_r; rw [qm_cgt (fun j hj => ht _ (by omega))]
  unfold mem
  rw [v0, e1, e2, e3, e4, e5, e6, e7, e8]
  rfl
theorem xr_inj {i j : Nat} (h : xr i = xr j) : i = j := by
  unfold xr at h
  by_cases a : i = 0 <;> by_cases b : j = 0
  · omega
  · rw [if_pos a, if_neg b] at h; omega
  · rw [if_neg a, if_pos b] at h; omega
  · rw [if_neg a, if_neg b] at h; omega
def rTn (X : qX) (t : Nat → Int32) (n : Nat) : Prop := ∀ k, k < n → ∃ i, rTx X t k i
theorem rTn_t {X : qX} {t t' : Nat → Int32} {n : Nat} (h : ∀ j, j ≠ 1 → j < 142 + 200 * n → t' j = t j) (ho : okS t) (hn : n ≤ f_nt t) (hr : rTn X t n) : rTn X t' n := by
  intro k hk
  obtain ⟨n1, n2, n3⟩ := ho.nt
  obtain ⟨m, key, ⟨q1, q2, -⟩, -⟩ := n3 k (by omega)
  have em0 : f_m t k = m := qcl m q1 (by omega)
  obtain ⟨i, a1, a2, a3, a4, a5, a6⟩ := hr k hk
  have em : f_m t' k = f_m t k := by unfold f_m; rw [h _ (by omega) (by omega)]
  refine ⟨i, a1, a2, by rw [h _ (by omega) (by omega)]; exact a3, by rw [h _ (by omega) (by omega)]; exact a4, by rw [h _ (by omega) (by omega)]; exact a5, fun j hj => ?_⟩
  rw [em] at hj
  rw [h (142 + 200 * k) (by omega) (by omega), h (142 + 200 * k + 4 + 2 * j) (by omega) (by omega), h (142 + 200 * k + 4 + 2 * j + 1) (by omega) (by omega)]
  exact a6 j hj
theorem rTn_x {X X' : qX} {t : Nat → Int32} {n d : Nat} (h1 : ∀ k, k < n → X'.1 k = X.1 k) (hc : X.2.2.1 ≤ X'.2.2.1) (hd : ∀ i, i ≤ X.2.2.1 → i ≠ d → X'.2.2.2.1 i = X.2.2.2.1 i ∧ X'.2.2.2.2 i = X.2.2.2.2 i) (hx : ∀ k r, X.1 k = some r → ∃ i, i ≤ X.2.2.1 ∧ r = xr i ∧ i ≠ d) (hr : rTn X t n) : rTn X' t n := by
  intro k hk
  obtain ⟨i, a1, a2, a3, a4, a5, a6⟩ := hr k hk
  obtain ⟨i', b1, b2, b3⟩ := hx k _ a2
  have : i = i' := xr_inj b2
  subst this
  obtain ⟨d1, d2⟩ := hd i a1 b3
  refine ⟨i, by omega, by rw [h1 k hk]; exact a2, by rw [d2]; exact a3, by rw [d2]; exact a4, by rw [d2]; exact a5, fun j hj => ?_⟩
  rw [d1]
  exact a6 j hj
theorem gT_pre {B : Int} {t t' : Nat → Int32} (h : ∀ j, j < 142 + 200 * f_nt t → t' j = t j) (ho : gT B t) : gT B t' := by
  obtain ⟨n1, n2, n3⟩ := ho.1.nt
  obtain ⟨⟨o1, o2, o3, o4, o5, o6⟩, v, m⟩ := ho
  refine ⟨⟨by rw [h 0 (by omega)]; exact o1, ⟨f_nt t, n1, by rw [h 1 (by omega)]; exact n2, fun i hi => okTx_cg (fun j a b => h j (by omega)) (n3 i hi)⟩, by rw [h 3 (by omega)]; exact o3, by rw [h 4 (by omega)]; exact o4, by rw [h 8 (by omega)]; exact o5, fun k hk => by rw [h _ (by omega)]; exact o6 k hk⟩, okV_cg (fun j hj => h j (by omega)) v, by rw [h 2 (by omega)]; exact m⟩
section LAW
variable {c : Nat} {A : qA} {F : qF} {X : qX}
theorem inv_text (hc : c < 512) (h : Inv c A F X) {A' : qA} {F' : qF} {X' : qX} (hA : ∀ i, i ≠ 0 → i ≠ 20 → A' i = A i) (hF : ∀ i, (i < 2 ∨ 8 ≤ i) → (i < 61 ∨ 72 ≤ i) → F' i = F i) (f2 : F' 2 = 0) (f61 : F' 61 = 0) (hg : gT (6000 * (c : Int)) (A' 20)) (hr : rTxs X' (A' 20)) (hr1 : ¬ F 60 = 0 → rTxs X' (A 21)) (hn : f_nt (A 20) ≤ f_nt (A' 20)) (hx : iX (c + 1) X') : Inv (c + 1) (va_up A' 0 (A' 20)) F' X' := by
  obtain ⟨-, ⟨t1, t2, t3, t4, t5⟩, hW, hP, hS, hL, hX⟩ := h
  have g60 : F' 60 = F 60 := hF 60 (by omega) (by omega)
  refine inv_mk hc ⟨rfl, hg.mono (by omega), hr, by rw [g60, hF 0 (by omega) (by omega)]; exact t4, fun g => ?_⟩ (hW.cg (hA 8 (by omega) (by omega)) (hA 38 (by omega) (by omega)) (hF 1 (by omega) (by omega)) (hF 72 (by omega) (by omega))) ⟨0, by omega, f2, f61, fun j hj => by omega, fun j hj => by omega⟩ (hS.cg (fun i hi => ?_) (fun i h1 h2 => hF i (by omega) (by omega))) (hL.cg (fun i hi => ?_) (fun i h1 h2 => hF i (by omega) (by omega))) hx
  · rw [g60] at g
    obtain ⟨u1, u2, u3, u4⟩ := t5 g
    show (∀ j, j < 142 → A' 1 j = A' 21 j) ∧ gT (6000 * (c : Int) + 6000) (A' 21) ∧ rTxs X' (A' 21) ∧ f_nt (A' 21) ≤ f_nt (A' 20)
    rw [hA 1 (by omega) (by omega), hA 21 (by omega) (by omega)]
    exact ⟨u1, u2.mono (by omega), hr1 g, by omega⟩
  · rw [vu_ne _ _ (by omega)]; exact hA i (by omega) (by omega)
  · rw [vu_ne _ _ (by omega)]; exact hA i (by omega) (by omega)
/-- after a reading that took no new text -/
theorem inv_text0 (hc : c < 512) (h : Inv c A F X) {d : Nat} (hd : ∀ k r, X.1 k = some r → ∃ i, i ≤ X.2.2.1 ∧ r = xr i ∧ i ≠ d) {A' : qA} {F1 F' : qF} {X' : qX} (hF1 : qagF [2, 3, 4, 5, 6, 7] F F1) (f2 : F1 2 = 0) (hx : xag X d X') (hE : kE A F1 (f_la (f_nt (A 20))) A' F') : Inv (c + 1) (va_up A' 0 (A' 20)) F' X' ∧ mem (va_up A' 0 (A' 20)) F' X' = mem A' F' X' := by
  obtain ⟨E1, E2, E3, E4⟩ := hE
  obtain ⟨-, ⟨t1, t2, t3, t4, t5⟩, -, -, -, -, hX⟩ := id h
  obtain ⟨x1, x2, x3, x4⟩ := hx
  obtain ⟨n1, n2, n3⟩ := t2.1.nt
  have hla : 142 + 200 * f_nt (A 20) ≤ f_la (f_nt (A 20)) := by
    unfold f_la
    by_cases z : f_nt (A 20) < 14
    · rw [if_pos z]; omega
    · rw [if_neg z]; omega
  have pre : ∀ j, j < 142 + 200 * f_nt (A 20) → A' 20 j = A 20 j := fun j hj => E2 j (by omega)
  have ent : f_nt (A' 20) = f_nt (A 20) := by unfold f_nt; rw [pre 1 (by omega)]
  have xx : ∀ {t : Nat → Int32} {n : Nat}, rTn X t n → rTn X' t n := fun hr => rTn_x (d := d) (fun k _ => by rw [x1]) (by omega) (fun i _ hi => x4 i hi) hd hr
  refine ⟨inv_text hc h (fun i h1 h2 => E1 i (by simp only [List.mem_cons, List.not_mem_nil, or_false]; omega)) (fun i h1 h2 => ?_) ?_ E4 (gT_pre pre t2) ?_ (fun g => ?_) (by omega) ?_, mem_gh (fun j hj => ?_)⟩
  · rw [E3 i (by simp only [List.mem_cons, List.not_mem_nil, or_false]; omega), hF1 i (by simp only [List.mem_cons, List.not_mem_nil, or_false]; omega)]
  · rw [E3 2 (by decide)]; exact f2
  · show rTn X' (A' 20) (f_nt (A' 20))
    rw [ent]
    exact rTn_t (fun j _ hj => pre j hj) t2.1 (Nat.le_refl _) (xx t3)
  · exact xx (t5 g).2.2.1
  · obtain ⟨d', y1, y2, y3, y4, y5⟩ := hX
    refine ⟨d', by omega, x2.trans y2, by omega, fun k r hk => ?_, fun k k' r hk hk' => y5 k k' r (by rw [← x1]; exact hk) (by rw [← x1]; exact hk')⟩
    rw [x3]
    exact y4 k r (by rw [← x1]; exact hk)
  · rw [E1 0 (by decide), t1]; exact pre j (by omega)
theorem J_text (hc : c < 512) (h : Inv c A F X) : J c yX9_text KX9_text yX10_text KX10_text [] A F X := by
  intro Q1 H
  obtain ⟨-, ⟨t1, t2, t3, t4, t5⟩, hW, ⟨n, p1, p2, p3, p4⟩, hS, hL, ⟨d, d1, d2, d3, d4, d5⟩⟩ := id h
  obtain ⟨n1, n2, n3⟩ := t2.1.nt
  have s61 : ∀ F' : qF, qagF [2, 3, 4, 5, 6, 7] F F' → F' 61 = nI n := fun F' hF => (hF 61 (by decide)).trans p3
  refine cP_text (T := A 34) (n := n) (i := d) (nt := f_nt (A 20)) p4 p1 p2 d2 d1 (by omega) (by rw [t1]; exact n2) n1 (fun e F1 X1 hk hF f2 hx => ?_) (fun key x F1 X1 hk g hF f2 hx => ?_) (fun key x F1 X1 X2 hk g hF f2 hx e0 e1 e2 e3 hor => ?_)
  · refine H _ A F1 X1 (fun Q2 H2 => cM_text (n := n) (nt := f_nt (A 20)) p1 (s61 F1 hF) n2 n1 (fun e' A' F' hk' hE => ?_) (fun key x A' F' hk' _ _ => ?_) (fun key x A' F' hk' _ _ _ _ _ => ?_))
    · rw [hk] at hk'
      cases hk'
      obtain ⟨i1, i2⟩ := inv_text0 hc h d4 hF f2 hx hE
      rw [← i2]
      exact H2 _ _ _ i1
    · rw [hk] at hk'; cases hk'
    · rw [hk] at hk'; cases hk'
  · refine H _ A F1 X1 (fun Q2 H2 => cM_text (n := n) (nt := f_nt (A 20)) p1 (s61 F1 hF) n2 n1 (fun e' A' F' hk' hE => ?_) (fun key x A' F' hk' _ hE => ?_) (fun key x A' F' hk' g' _ _ _ _ => absurd g' (by omega)))
    · rw [hk] at hk'; cases hk'
    · obtain ⟨i1, i2⟩ := inv_text0 hc h d4 hF f2 hx hE
      rw [← i2]
      exact H2 _ _ _ i1
  · refine H _ _ F1 X2 (fun Q2 H2 => cM_text (n := n) (nt := f_nt (A 20)) p1 (s61 F1 hF) n2 n1 (fun e' A' F' hk' hE => ?_) (fun key x A' F' hk' g' _ => absurd g (by omega)) (fun key' x' A' F' hk' _ E1 E3 E4 hT => ?_))
    · have hk' : k_read (A 34) n = .inr e' := hk'
      rw [hk] at hk'; cases hk'
    · have hk' : k_read (A 34) n = .inl (key', x') := hk'
      rw [hk] at hk'
      cases hk'
      have hT : f_told (A 20) (A' 20) (f_nt (A 20)) key x := hT
      obtain ⟨x1, x2, x3, x4⟩ := hx
      have T1 := hT.1
      have T6 := hT.2.2.2.2.2
      have pre : ∀ j, j ≠ 1 → j < 142 + 200 * f_nt (A 20) → A' 20 j = A 20 j := fun j a b => T6 j a (Or.inl b)
      have ent : f_nt (A' 20) = f_nt (A 20) + 1 := qcl _ T1 (by omega)
      -- what became of the texts' objects
      have key1 : X2.1 = va_up X.1 (f_nt (A 20)) (some (xr d)) ∧ X.2.2.1 ≤ X2.2.2.1 ∧ (∀ i, i ≤ X.2.2.1 → X2.2.2.2.1 i = X1.2.2.2.1 i ∧ X2.2.2.2.2 i = X1.2.2.2.2 i) ∧ iX (c + 1) X2 := by
        rcases hor with ⟨r, hr, rfl⟩ | ⟨hr, rfl⟩
        · obtain ⟨i', y1, y2, y3⟩ := d4 _ r hr
          refine ⟨by show va_up X1.1 _ _ = _; rw [x1], by show X.2.2.1 ≤ X1.2.2.1; omega, fun i _ => ⟨rfl, rfl⟩, i', by show i' ≤ X1.2.2.1; omega, y2, by show X1.2.2.1 ≤ c + 1; omega, fun k r' hk => ?_, fun k k' r' hk hk' => ?_⟩
          · have hk : va_up X1.1 (f_nt (A 20)) (some (xr d)) k = some r' := hk
            show ∃ i, i ≤ X1.2.2.1 ∧ r' = xr i ∧ i ≠ i'
            rw [x3]
            by_cases z : k = f_nt (A 20)
            · rw [z, vu_at] at hk
              cases hk
              exact ⟨d, d1, rfl, fun w => y3 w.symm⟩
            · rw [vu_ne _ _ z, x1] at hk
              obtain ⟨i, w1, w2, w3⟩ := d4 k r' hk
              refine ⟨i, w1, w2, fun w => z ?_⟩
              subst w
              exact d5 k _ r' hk (by rw [w2, ← y2]; exact hr)
          · have hk : va_up X1.1 (f_nt (A 20)) (some (xr d)) k = some r' := hk
            have hk' : va_up X1.1 (f_nt (A 20)) (some (xr d)) k' = some r' := hk'
            by_cases z : k = f_nt (A 20) <;> by_cases z' : k' = f_nt (A 20)
            · rw [z, z']
            · rw [z, vu_at] at hk
              rw [vu_ne _ _ z', x1] at hk'
              cases hk
              obtain ⟨i, w1, w2, w3⟩ := d4 k' _ hk'
              exact absurd (xr_inj w2).symm w3
            · rw [z', vu_at] at hk'
              rw [vu_ne _ _ z, x1] at hk
              cases hk'
              obtain ⟨i, w1, w2, w3⟩ := d4 k _ hk
              exact absurd (xr_inj w2).symm w3
            · rw [vu_ne _ _ z, x1] at hk
              rw [vu_ne _ _ z', x1] at hk'
              exact d5 k k' r' hk hk'
        · refine ⟨by show va_up X1.1 _ _ = _; rw [x1], by show X.2.2.1 ≤ X1.2.2.1 + 1; omega, fun i hi => ⟨?_, ?_⟩, X.2.2.1 + 1, by show X.2.2.1 + 1 ≤ X1.2.2.1 + 1; omega, rfl, by show X1.2.2.1 + 1 ≤ c + 1; omega, fun k r' hk => ?_, fun k k' r' hk hk' => ?_⟩
          · exact vu_ne _ _ (by rw [show (xT X1 (f_nt (A 20)) d).2.2.1 = X1.2.2.1 from rfl]; omega)
          · exact vu_ne _ _ (by rw [show (xT X1 (f_nt (A 20)) d).2.2.1 = X1.2.2.1 from rfl]; omega)
          · have hk : va_up X1.1 (f_nt (A 20)) (some (xr d)) k = some r' := hk
            show ∃ i, i ≤ X1.2.2.1 + 1 ∧ r' = xr i ∧ i ≠ X.2.2.1 + 1
            by_cases z : k = f_nt (A 20)
            · rw [z, vu_at] at hk
              cases hk
              exact ⟨d, by omega, rfl, by omega⟩
            · rw [vu_ne _ _ z, x1] at hk
              obtain ⟨i, w1, w2, w3⟩ := d4 k r' hk
              exact ⟨i, by omega, w2, by omega⟩
          · have hk : va_up X1.1 (f_nt (A 20)) (some (xr d)) k = some r' := hk
            have hk' : va_up X1.1 (f_nt (A 20)) (some (xr d)) k' = some r' := hk'
            by_cases z : k = f_nt (A 20) <;> by_cases z' : k' = f_nt (A 20)
            · rw [z, z']
            · rw [z, vu_at] at hk
              rw [vu_ne _ _ z', x1] at hk'
              cases hk
              obtain ⟨i, w1, w2, w3⟩ := d4 k' _ hk'
              exact absurd (xr_inj w2).symm w3
            · rw [z', vu_at] at hk'
              rw [vu_ne _ _ z, x1] at hk
              cases hk'
              obtain ⟨i, w1, w2, w3⟩ := d4 k _ hk
              exact absurd (xr_inj w2).symm w3
            · rw [vu_ne _ _ z, x1] at hk
              rw [vu_ne _ _ z', x1] at hk'
              exact d5 k k' r' hk hk'
      obtain ⟨k1, k2, k3, k4⟩ := key1
      have xx : ∀ {t : Nat → Int32} {m : Nat}, m ≤ f_nt (A 20) → rTn X t m → rTn X2 t m := fun hm hr => rTn_x (d := d) (fun k hk => by rw [k1, vu_ne _ _ (by omega)]) k2 (fun i hi hi2 => ⟨(k3 i hi).1.trans (x4 i hi2).1, (k3 i hi).2.trans (x4 i hi2).2⟩) d4 hr
      have hI := inv_text (A' := A') (F' := F') (X' := X2) hc h (fun i h1 h2 => (E1 i (by simp only [List.mem_cons, List.not_mem_nil, or_false]; omega)).trans (vu_ne _ _ h1)) (fun i h1 h2 => by rw [E3 i (by simp only [List.mem_cons, List.not_mem_nil, or_false]; omega), hF i (by simp only [List.mem_cons, List.not_mem_nil, or_false]; omega)]) (by rw [E3 2 (by decide)]; exact f2) E4 ⟨okS_told p1 hk t2.1 n2 g hT, okV_cg (fun j hj => pre j (by omega) (by omega)) t2.2.1, by rw [pre 2 (by omega) (by omega)]; exact t2.2.2⟩ (by
          show rTn X2 (A' 20) (f_nt (A' 20))
          rw [ent]
          intro k hk2
          by_cases z : k = f_nt (A 20)
          · rw [z]
            exact ⟨d, rTx_told p1 hk hT (by omega) (by rw [k1, vu_at]) (by rw [(k3 d d1).2]; exact e0) (by rw [(k3 d d1).2]; exact e1) (by rw [(k3 d d1).2]; exact e2) (fun k p hp => by rw [(k3 d d1).1]; exact e3 k p hp)⟩
          · exact rTn_t (fun j a b => pre j a b) t2.1 (Nat.le_refl _) (xx (Nat.le_refl _) t3) k (by omega)) (fun g => xx (t5 g).2.2.2 (t5 g).2.2.1) (by omega) k4
      have hm : mem (va_up A' 0 (A' 20)) F' X2 = mem A' F' X2 := mem_gh (fun j hj => by
        rw [E1 0 (by decide), vu_at]
        by_cases z : j = 1
        · rw [z, upd_at]; exact T1
        · rw [upd_ne _ _ z, t1]; exact pre j z (by omega))
      rw [← hm]
      exact H2 _ _ _ hI
end LAW
