/-! count, tell, check, keep, back, feed, trim of both sides -/
theorem iT.cg {B : Int} {A A' : qA} {F F' : qF} {X : qX} (h : iT B A F X) (h0 : A' 0 = A 0) (h1 : A' 1 = A 1) (h20 : A' 20 = A 20) (h21 : A' 21 = A 21) (f0 : F' 0 = F 0) (f60 : F' 60 = F 60) : iT (B + 6000) A' F' X := by
  unfold iT
  rw [h0, h1, h20, h21, f0, f60]
  obtain ⟨t1, t2, t3, t4, t5⟩ := h
  exact ⟨t1, t2.mono (by omega), t3, t4, fun g => ⟨(t5 g).1, (t5 g).2.1.mono (by omega), (t5 g).2.2⟩⟩
theorem inv_mk {c : Nat} {A : qA} {F : qF} {X : qX} (hc : c < 512) (hT : iT (6000 * (c : Int) + 6000) A F X) (hW : iW A F) (hP : iP A F) (hS : iS A F) (hL : iL A F) (hX : iX (c + 1) X) : Inv (c + 1) A F X := by
  refine ⟨by omega, ?_, hW, hP, hS, hL, hX⟩
  rw [show 6000 * ((c + 1 : Nat) : Int) = 6000 * (c : Int) + 6000 by omega]
  exact hT
theorem f_cmp_cw {w w' due : Nat → Int32} {many tot : Nat} (h : ∀ j, j < many → w j = w' j) : ∀ d k, f_cmp w due many tot d k = f_cmp w' due many tot d k
  | 0, k => rfl
  | d + 1, k => by
    rw [f_cmp, f_cmp, f_cmp_cw h d (k + 1)]
    by_cases g : k < many
    · rw [h k g]
    · rw [if_neg (fun z => g z.1), if_neg (fun z => g z.1)]
theorem s_check_cw {w w' t : Nat → Int32} {many n : Nat} (h : ∀ j, j < many → w j = w' j) : s_check w many t n = s_check w' many t n := by
  unfold s_check
  rw [f_cmp_cw h]
theorem rTxs_lt {X : qX} {t t' : Nat → Int32} (h : ∀ j, j < 2942 → t' j = t j) (ho : okS t) (hr : rTxs X t) : rTxs X t' := by
  intro k hk
  have e1 : f_nt t' = f_nt t := by unfold f_nt; rw [h 1 (by omega)]
  rw [e1] at hk
  obtain ⟨n1, n2, n3⟩ := ho.nt
  obtain ⟨m, key, ⟨q1, q2, -⟩, -⟩ := n3 k hk
  have em0 : f_m t k = m := qcl m q1 (by omega)
  obtain ⟨i, a1, a2, a3, a4, a5, a6⟩ := hr k hk
  have em : f_m t' k = f_m t k := by unfold f_m; rw [h _ (by omega)]
  refine ⟨i, a1, a2, by rw [h _ (by omega)]; exact a3, by rw [h _ (by omega)]; exact a4, by rw [h _ (by omega)]; exact a5, fun j hj => ?_⟩
  rw [em] at hj
  rw [h (142 + 200 * k) (by omega), h (142 + 200 * k + 4 + 2 * j) (by omega), h (142 + 200 * k + 4 + 2 * j + 1) (by omega)]
  exact a6 j hj
theorem qcp_lt {k j : Nat} (f g : Nat → Int32) (h : j < k) : qcp k f g j = f j := if_pos h
theorem f_byte_in (v : Int32) (k : Nat) : qIn 0 255 (f_byte v k) := by
  unfold f_byte
  obtain ⟨j, hj, e⟩ := pk_andE (v >>> ((24 - 8 * f_rem (nI k) 4) &&& 31)) (m := 255) 8 (by decide)
  rw [e]
  show 0 ≤ (nI j).toInt ∧ (nI j).toInt ≤ 255
  rw [nIi (by omega)]
  omega
theorem f_fd_in {tp : Nat → Int32} {n : Nat} {a b c : Int32} (h : ∀ j, j < n → qIn 0 255 (tp j)) : ∀ k, ∀ j, j < n + k → qIn 0 255 (f_fd tp n a b c k j)
  | 0, j, hj => h j (by omega)
  | k + 1, j, hj => by
    rw [f_fd]
    by_cases g : j = n + k
    · rw [g, upd_at]; exact f_byte_in _ _
    · rw [upd_ne _ _ g]; exact f_fd_in h k j (by omega)
section LAW
variable {c : Nat} {A : qA} {F : qF} {X : qX}
theorem J_count {a : Int32} (hc : c < 512) (h : Inv c A F X) : J c yX9_count KX9_count yX10_count KX10_count [.int a] A F X := by
  intro Q1 H
  obtain ⟨-, ht, ⟨w, w1, w2, w3, w4⟩, ⟨n, p1, p2, p3, p4⟩, -⟩ := id h
  refine cP_count ?_
  refine H _ A F X (fun Q2 H2 => cM_count ?_)
  rw [w2, p2, ht.1, ← w3, ← p3] at H2
  exact H2 A F X (inv_next hc h (fun _ _ => rfl) ht.1 (ht.2.1.mono (by omega)) (kp.refl _))
theorem J_tell {a : Int32} (hc : c < 512) (h : Inv c A F X) : J c yX9_tell KX9_tell yX10_tell KX10_tell [.int a] A F X := by
  intro Q1 H
  obtain ⟨-, ht, ⟨w, w1, w2, w3, w4⟩, hP, hS, hL, hX⟩ := id h
  refine cP_tell w2 w1 (fun g => ?_) (fun g => ?_)
  · refine H _ A F X (fun Q2 H2 => cM_tell w3 w1 (fun _ => ?_) (fun g' => absurd g' (by omega)))
    exact H2 A F X (inv_next hc h (fun _ _ => rfl) ht.1 (ht.2.1.mono (by omega)) (kp.refl _))
  · refine H _ _ _ X (fun Q2 H2 => cM_tell (n := w) ((upd_ne _ _ (by omega)).trans w3) w1 (fun g' => absurd g' (by omega)) (fun _ => ?_))
    refine H2 _ _ X (inv_mk hc (ht.cg rfl rfl rfl rfl rfl rfl) ⟨w + 1, by omega, ?_, ?_, ?_⟩ (hP.cg rfl rfl rfl rfl) (hS.cg (fun i hi => ?_) (fun i h1 h2 => ?_)) (hL.cg (fun i hi => ?_) (fun i h1 h2 => ?_)) hX.mono)
    · rw [upd_ne _ _ (by omega), upd_at]
    · rw [upd_at]
    · intro j hj
      rw [vu_at, vu_ne _ _ (by omega), vu_at, vu_ne _ _ (by omega)]
      by_cases z : j = w
      · rw [z, upd_at, upd_at]
      · rw [upd_ne _ _ z, upd_ne _ _ z]; exact w4 j (by omega)
    · rw [vu_ne _ _ (by omega), vu_ne _ _ (by omega)]
    · rw [upd_ne _ _ (by omega), upd_ne _ _ (by omega)]
    · rw [vu_ne _ _ (by omega), vu_ne _ _ (by omega)]
    · rw [upd_ne _ _ (by omega), upd_ne _ _ (by omega)]
theorem inv_w0 (hc : c < 512) (h : Inv c A F X) {A' : qA} (hA : ∀ i, i ∉ rscr → A' i = A i) (h0 : A' 0 = A 0) (h20 : A' 20 = A 20) : Inv (c + 1) A' (upd (upd F 1 0) 72 0) X := by
  obtain ⟨-, ht, hW, hP, hS, hL, hX⟩ := id h
  refine inv_mk hc (ht.cg h0 (hA 1 (by decide)) h20 (hA 21 (by decide)) rfl rfl) ⟨0, by omega, ?_, ?_, fun j hj => by omega⟩ (hP.cg (hA 5 (by decide)) (hA 34 (by decide)) rfl rfl) (hS.cg (fun i hi => hA i (by simp only [rscr, List.mem_cons, List.not_mem_nil, or_false]; omega)) (fun i h1 h2 => ?_)) (hL.cg (fun i hi => hA i (by simp only [rscr, List.mem_cons, List.not_mem_nil, or_false]; omega)) (fun i h1 h2 => ?_)) hX.mono
  · rw [upd_ne _ _ (by omega), upd_at]; rfl
  · rw [upd_at]; rfl
  · rw [upd_ne _ _ (by omega), upd_ne _ _ (by omega)]
  · rw [upd_ne _ _ (by omega), upd_ne _ _ (by omega)]
theorem J_check {a : Int32} (hc : c < 512) (h : Inv c A F X) : J c yX9_check KX9_check yX10_check KX10_check [.int a] A F X := by
  intro Q1 H
  obtain ⟨-, ht, ⟨w, w1, w2, w3, w4⟩, hP, hS, hL, hX⟩ := id h
  obtain ⟨t1, t2, t3, t4, t5⟩ := id ht
  have f72 : upd F 1 0 72 = nI w := (upd_ne _ _ (by omega)).trans w3
  have f60 : upd F 1 0 60 = F 60 := upd_ne _ _ (by omega)
  have hI : ∀ A1 : qA, A1 21 = A 21 → ¬ upd F 1 0 60 = 0 → okS (A1 21) := fun A1 e g => by rw [e]; exact (t5 (by rw [← f60]; exact g)).2.1.1
  refine cP_check (t := qcp 2942 (A 21) (A 20)) (B := 6000 * (c : Int)) w1 w2 (fun g => ?_) (by omega) (fun g => ?_) (fun g1 g2 => ?_) (fun g1 g2 A' hA' => ?_)
  · obtain ⟨u1, u2, u3, u4⟩ := t5 (by rw [← t4]; exact g)
    have eq : ∀ j, j < 2942 → qcp 2942 (A 21) (A 20) j = A 21 j := fun j hj => qcp_lt _ _ hj
    have g3 := gT_cg eq u2
    exact ⟨g3.1, g3.2.1, rTxs_lt eq u2.1 u3, g3.2.2, fun j hj => (eq j (by omega)).trans (u1 j hj).symm⟩
  · refine H _ A _ X (fun Q2 H2 => cM_check (many := w) w1 f72 (hI A rfl) (fun _ => ?_) (fun g' => absurd g' g) (fun g' => absurd g' g))
    exact H2 _ _ X (inv_w0 hc h (fun _ _ => rfl) rfl rfl)
  · refine H _ A _ X (fun Q2 H2 => cM_check (many := w) w1 f72 (hI A rfl) (fun g' => absurd g1 g') (fun _ _ => ?_) (fun _ g' => absurd ((f60.trans t4.symm).trans g2) g'))
    exact H2 _ _ X (inv_w0 hc h (fun _ _ => rfl) rfl rfl)
  · have e20 : A' 20 = A 20 := hA' 20 (by decide)
    have e21 : A' 21 = A 21 := hA' 21 (by decide)
    have e38 : A' 38 = A 38 := hA' 38 (by decide)
    refine H _ A' _ X (fun Q2 H2 => cM_check (many := w) w1 f72 (hI A' e21) (fun g' => absurd g1 g') (fun _ g' => absurd (t4.trans (f60.symm.trans g')) g2) (fun _ _ A2 hA2 => ?_))
    rw [e20, e21, e38, ← s_check_cw w4]
    refine H2 _ _ X (inv_w0 hc h (fun i hi => ?_) ((hA2 0 (by decide)).trans (hA' 0 (by decide))) ((hA2 20 (by decide)).trans e20))
    simp only [rscr, List.mem_cons, List.not_mem_nil, or_false] at hi
    rw [hA2 i (by simp only [List.mem_cons, List.not_mem_nil, or_false]; omega), hA' i (by simp only [List.mem_cons, List.not_mem_nil, or_false]; omega)]
theorem J_keep (hc : c < 512) (h : Inv c A F X) : J c yX9_keep KX9_keep yX10_keep KX10_keep [] A F X := by
  intro Q1 H
  obtain ⟨-, ht, hW, hP, hS, hL, hX⟩ := id h
  obtain ⟨t1, t2, t3, t4, t5⟩ := id ht
  refine cP_keep (t := A 0) (by rw [t1]; exact t2.1.2.2.2.1) (fun _ _ => rfl) ?_
  refine H _ _ _ X (fun Q2 H2 => cM_keep ?_)
  rw [vu_ne _ _ (by omega), vu_ne _ _ (by omega)]
  rw [show A 20 0 = A 0 0 by rw [t1]]
  have eq : ∀ j, j < 2942 → qcp 2942 (A 20) (A 21) j = A 20 j := fun j hj => qcp_lt _ _ hj
  refine H2 _ _ X (inv_mk hc ⟨t1, t2.mono (by omega), t3, ?_, fun _ => ?_⟩ (hW.cg rfl rfl rfl rfl) (hP.cg rfl rfl rfl rfl) (hS.cg (fun i hi => ?_) (fun i h1 h2 => ?_)) (hL.cg (fun i hi => ?_) (fun i h1 h2 => ?_)) hX.mono)
  · rw [upd_at, upd_ne _ _ (by omega), upd_at]
  · show (∀ j, j < 142 → A 0 j = qcp 2942 (A 20) (A 21) j) ∧ gT (6000 * (c : Int) + 6000) (qcp 2942 (A 20) (A 21)) ∧ rTxs X (qcp 2942 (A 20) (A 21)) ∧ f_nt (qcp 2942 (A 20) (A 21)) ≤ f_nt (A 20)
    refine ⟨fun j hj => by rw [t1, eq j (by omega)], (gT_cg eq t2).mono (by omega), rTxs_lt eq t2.1 t3, ?_⟩
    unfold f_nt
    rw [eq 1 (by omega)]
    exact Nat.le_refl _
  · rw [vu_ne _ _ (by omega), vu_ne _ _ (by omega)]
  · rw [upd_ne _ _ (by omega), upd_ne _ _ (by omega)]
  · rw [vu_ne _ _ (by omega), vu_ne _ _ (by omega)]
  · rw [upd_ne _ _ (by omega), upd_ne _ _ (by omega)]
theorem J_back (hc : c < 512) (h : Inv c A F X) : J c yX9_back KX9_back yX10_back KX10_back [] A F X := by
  intro Q1 H
  obtain ⟨-, ht, hW, hP, hS, hL, hX⟩ := id h
  obtain ⟨t1, t2, t3, t4, t5⟩ := id ht
  have eq : ∀ j, j < 2942 → qcp 2942 (A 21) (A 20) j = A 21 j := fun j hj => qcp_lt _ _ hj
  refine cP_back (t := qcp 2942 (A 21) (A 20)) (fun g => ?_) (fun g j hj => ?_) (fun g => ?_) (fun g => ?_)
  · obtain ⟨u1, u2, u3, u4⟩ := t5 (by rw [← t4]; exact g)
    rw [u1 4 (by omega)]
    exact u2.1.2.2.2.1
  · obtain ⟨u1, u2, u3, u4⟩ := t5 (by rw [← t4]; exact g)
    rw [eq j (by omega), u1 j hj]
  · refine H _ A F X (fun Q2 H2 => cM_back (fun _ => ?_) (fun g' => absurd (t4.symm.trans g) g'))
    exact H2 A F X (inv_next hc h (fun _ _ => rfl) ht.1 (ht.2.1.mono (by omega)) (kp.refl _))
  · obtain ⟨u1, u2, u3, u4⟩ := t5 (by rw [← t4]; exact g)
    refine H _ _ F X (fun Q2 H2 => cM_back (fun g' => absurd (t4.trans g') g) (fun _ => ?_))
    rw [vu_ne _ _ (by omega), vu_ne _ _ (by omega)]
    rw [eq 0 (by omega)] at H2
    refine H2 _ _ X (inv_mk hc ⟨?_, ?_, ?_, t4, fun _ => ?_⟩ (hW.cg rfl rfl rfl rfl) (hP.cg rfl rfl rfl rfl) (hS.cg (fun i hi => ?_) (fun i h1 h2 => rfl)) (hL.cg (fun i hi => ?_) (fun i h1 h2 => rfl)) hX.mono)
    · rfl
    · exact (gT_cg eq u2).mono (by omega)
    · exact rTxs_lt eq u2.1 u3
    · show (∀ j, j < 142 → A 1 j = A 21 j) ∧ gT (6000 * (c : Int) + 6000) (A 21) ∧ rTxs X (A 21) ∧ f_nt (A 21) ≤ f_nt (qcp 2942 (A 21) (A 20))
      refine ⟨u1, u2.mono (by omega), u3, ?_⟩
      unfold f_nt
      rw [eq 1 (by omega)]
      exact Nat.le_refl _
    · rw [vu_ne _ _ (by omega), vu_ne _ _ (by omega)]
    · rw [vu_ne _ _ (by omega), vu_ne _ _ (by omega)]
theorem J_trim {a : Int32} (hc : c < 512) (h : Inv c A F X) : J c yX9_trim KX9_trim yX10_trim KX10_trim [.int a] A F X := by
  intro Q1 H
  obtain ⟨-, ht, hW, ⟨n, p1, p2, p3, p4⟩, hS, hL, hX⟩ := id h
  refine cP_trim ?_
  refine H _ _ _ X (fun Q2 H2 => cM_trim ?_)
  rw [upd_ne _ _ (show (61 : Nat) ≠ 2 by omega), p2, p3]
  rw [p2] at H2
  have hn : ∃ m, m ≤ n ∧ (s_trim (nI n) a).2 = nI m := by
    unfold s_trim
    by_cases g : qIn 0 (nI n).toInt a
    · rw [if_pos g]
      rw [nIi (by omega)] at g
      obtain ⟨m, m1, m2, m3⟩ := qIn_nat g
      exact ⟨m, by omega, m3⟩
    · rw [if_neg g]; exact ⟨n, Nat.le_refl _, rfl⟩
  obtain ⟨m, m1, m2⟩ := hn
  rw [m2]
  refine H2 _ _ X (inv_mk hc (ht.cg rfl rfl rfl rfl ?_ ?_) (hW.cg rfl rfl ?_ ?_) ⟨m, by omega, ?_, ?_, fun j hj => p4.1 j (by omega), fun j hj => p4.2 j (by omega)⟩ (hS.cg (fun i hi => rfl) (fun i h1 h2 => ?_)) (hL.cg (fun i hi => rfl) (fun i h1 h2 => ?_)) hX.mono)
  all_goals first
    | (rw [upd_ne _ _ (by omega), upd_ne _ _ (by omega)]; done)
    | (rw [upd_ne _ _ (by omega), upd_at]; done)
    | (rw [upd_at]; done)
theorem J_feed {a b d : Int32} (hc : c < 512) (h : Inv c A F X) : J c yX9_feed KX9_feed yX10_feed KX10_feed [.int a, .int b, .int d] A F X := by
  intro Q1 H
  obtain ⟨-, ht, hW, ⟨n, p1, p2, p3, p4⟩, hS, hL, hX⟩ := id h
  refine cP_feed p2 p1 p4.1 (fun f hf => ?_)
  refine H _ _ _ X (fun Q2 H2 => cM_feed (n := n) ((upd_ne _ _ (by omega)).trans p3) p1 ?_)
  rw [vu_ne _ _ (show (34 : Nat) ≠ 5 by omega)]
  have hb : (s_feed (A 34) n a b d).2.1 ≤ 96 ∧ ∀ j, j < (s_feed (A 34) n a b d).2.1 → qIn 0 255 ((s_feed (A 34) n a b d).2.2 j) := by
    unfold s_feed
    by_cases g : 96 < n + 12
    · rw [if_pos g]; exact ⟨p1, p4.2⟩
    · rw [if_neg g]; exact ⟨by show n + 12 ≤ 96; omega, f_fd_in p4.2 12⟩
  generalize s_feed (A 34) n a b d = r at hf hb H2 ⊢
  refine H2 (va_up (va_up A 5 f) 34 r.2.2) (upd (upd F 2 (nI r.2.1)) 61 (nI r.2.1)) X (inv_mk hc (ht.cg rfl rfl rfl rfl ?_ ?_) (hW.cg rfl rfl ?_ ?_) ⟨r.2.1, hb.1, ?_, ?_, hf, hb.2⟩ (hS.cg (fun i hi => ?_) (fun i h1 h2 => ?_)) (hL.cg (fun i hi => ?_) (fun i h1 h2 => ?_)) hX.mono)
  all_goals first
    | (rw [upd_ne _ _ (by omega), upd_ne _ _ (by omega)]; done)
    | (rw [upd_ne _ _ (by omega), upd_at]; done)
    | (rw [upd_at]; done)
    | (rw [vu_ne _ _ (by omega), vu_ne _ _ (by omega)]; done)
end LAW
