/-! what every call keeps of a town -/
def gT (B : Int) (t : Nat → Int32) : Prop := okS t ∧ okV 20 B t ∧ qIn 0 9999 (t 2)
def kp (t t' : Nat → Int32) : Prop := ∀ j, (j = 1 ∨ 142 ≤ j) → t' j = t j
theorem kp.refl (t : Nat → Int32) : kp t t := fun _ _ => rfl
theorem kp.trans {a b c : Nat → Int32} (h : kp a b) (h' : kp b c) : kp a c := fun j hj => (h' j hj).trans (h j hj)
theorem gT.mono {B B' : Int} {t : Nat → Int32} (h : gT B t) (hB : B ≤ B') : gT B' t := ⟨h.1, h.2.1.mono (Int.le_refl _) hB, h.2.2⟩
theorem gT_cg {B : Int} {t t' : Nat → Int32} (h : ∀ j, j < 2942 → t' j = t j) (ho : gT B t) : gT B t' := ⟨okS_cg h ho.1, okV_cg (fun j hj => h j (by omega)) ho.2.1, by rw [h 2 (by omega)]; exact ho.2.2⟩
theorem f_come_out (t : Nat → Int32) {n : Nat} (a b : Int32) (hn : n < 8) {j : Nat} (hj : j ≠ 0) (hj2 : j < 118 ∨ 142 ≤ j) : f_come t n a b j = t j := by
  unfold f_come
  rw [upd_ne _ _ (by omega), upd_ne _ _ (by omega), upd_ne _ _ (by omega), upd_ne _ _ (by omega)]
theorem f_come_k (t : Nat → Int32) {n : Nat} (a b : Int32) {i : Nat} : f_come t n a b (118 + 3 * i + 0) = if i = n then a else t (118 + 3 * i + 0) := by
  unfold f_come
  by_cases h : i = n
  · subst h
    rw [if_pos rfl, upd_ne _ _ (by omega), upd_ne _ _ (by omega), upd_at]
  · rw [if_neg h, upd_ne _ _ (by omega), upd_ne _ _ (by omega), upd_ne _ _ (by omega), upd_ne _ _ (by omega)]
theorem f_come_c (t : Nat → Int32) {n : Nat} (a b : Int32) {i : Nat} : f_come t n a b (118 + 3 * i + 1) = if i = n then b else t (118 + 3 * i + 1) := by
  unfold f_come
  by_cases h : i = n
  · subst h
    rw [if_pos rfl, upd_ne _ _ (by omega), upd_at]
  · rw [if_neg h, upd_ne _ _ (by omega), upd_ne _ _ (by omega), upd_ne _ _ (by omega), upd_ne _ _ (by omega)]
theorem gT_come {B : Int} {t : Nat → Int32} {n : Nat} {k c : Int32} (h : gT B t) (h0 : t 0 = nI n) (hn : n < 8) (hk : qIn 0 5 k) (hc : ∃ d, d < 36 ∧ c = nI d) : gT B (f_come t n k c) ∧ kp t (f_come t n k c) := by
  obtain ⟨⟨o1, o2, o3, o4, o5, o6⟩, ⟨v1, v2, v3, v4, v5⟩, m⟩ := h
  have out : ∀ j, j ≠ 0 → (j < 118 ∨ 142 ≤ j) → f_come t n k c j = t j := fun j a b => f_come_out t k c hn a b
  have e0 : f_come t n k c 0 = nI (n + 1) := by
    unfold f_come
    rw [upd_ne _ _ (by omega), upd_ne _ _ (by omega), upd_ne _ _ (by omega), upd_at, h0]
    exact nI_1 n
  refine ⟨⟨⟨⟨n + 1, by omega, e0⟩, okTxs_congr (out 1 (by omega) (by omega)) (fun j hj => out j (by omega) (by omega)) o2, ?_, ?_, ?_, fun i hi => ?_⟩, ⟨fun d hd => ?_, ?_, ?_, fun i hi => ?_, ?_⟩, ?_⟩, fun j hj => out j (by omega) (by omega)⟩
  · rw [out 3 (by omega) (by omega)]; exact o3
  · rw [out 4 (by omega) (by omega)]; exact o4
  · rw [out 8 (by omega) (by omega)]; exact o5
  · rw [f_come_c]
    by_cases g : i = n
    · rw [if_pos g]; exact hc
    · rw [if_neg g]; exact o6 i hi
  · rw [out _ (by omega) (by omega), out _ (by omega) (by omega), out _ (by omega) (by omega)]; exact v1 d hd
  · rw [f_sI_cg 36 (fun c hc => out _ (by omega) (by omega))]; exact v2
  · rw [out 7 (by omega) (by omega)]; exact v3
  · rw [f_come_k]
    by_cases g : i = n
    · rw [if_pos g]; exact hk
    · rw [if_neg g]; exact v4 i hi
  · rw [out 6 (by omega) (by omega)]; exact v5
  · rw [out 2 (by omega) (by omega)]; exact m
theorem qIn_ex {x : Int32} {m : Nat} (h : qIn 0 ((m : Int) - 1) x) (hm : m < 2147483648) : ∃ d, d < m ∧ x = nI d := by
  obtain ⟨n, a, b, e⟩ := qIn_nat h
  exact ⟨n, by omega, e⟩
theorem g_eater {B : Int} {t : Nat → Int32} {k c : Int32} (h : gT B t) : gT B (s_eater t k c).2 ∧ kp t (s_eater t k c).2 := by
  unfold s_eater
  by_cases g : qIn 0 5 k ∧ qIn 0 35 c
  · rw [if_pos g]
    by_cases g2 : t 0 = 8
    · rw [if_pos g2]; exact ⟨h, kp.refl t⟩
    · rw [if_neg g2]
      obtain ⟨n1, n2⟩ := h.1.n
      have hlt : f_n t < 8 := by
        rcases Nat.lt_or_ge (f_n t) 8 with z | z
        · exact z
        · exact absurd (by rw [n2, show f_n t = 8 by omega]; rfl) g2
      exact gT_come h n2 hlt g.1 (qIn_ex (m := 36) g.2 (by omega))
  · rw [if_neg g]; exact ⟨h, kp.refl t⟩
theorem g_5 {B : Int} {t : Nat → Int32} {v : Int32} (h : gT B t) : gT B (upd t 5 v) ∧ kp t (upd t 5 v) := by
  refine ⟨⟨okS_congr' (fun j hj => upd_ne _ _ (by omega)) h.1, okV_cg (fun j hj => upd_ne _ _ (by omega)) h.2.1, ?_⟩, fun j hj => upd_ne _ _ (by omega)⟩
  rw [upd_ne _ _ (by omega)]; exact h.2.2
theorem g_deal1 {B : Int} {t : Nat → Int32} {n : Nat} (h : gT B t) (h0 : t 0 = nI n) (hn : n < 8) : gT B (f_deal1 t) ∧ kp t (f_deal1 t) := by
  have a := g_5 (v := f_z (t 5)) h
  have b := g_5 (v := f_z (f_dr t 5)) a.1
  have e : f_n t = n := qcl n h0 (by omega)
  obtain ⟨j, hj, ej⟩ := f_rem_g (f_dr t 5) (d := 6) (by omega) (by omega)
  have ej : f_rem (f_g (f_dr t 5)) 6 = nI j := ej
  obtain ⟨d, hd, ed⟩ := f_rem_g (f_dr (f_dr t) 5) (d := 36) (by omega) (by omega)
  have ed : f_rem (f_g (f_dr (f_dr t) 5)) 36 = nI d := ed
  have a' : gT B (f_dr t) ∧ kp t (f_dr t) := a
  have b' : gT B (f_dr (f_dr t)) ∧ kp (f_dr t) (f_dr (f_dr t)) := b
  have c := gT_come (n := n) (k := nI j) (c := nI d) b'.1 (by rw [f_dr_out _ (by omega), f_dr_out _ (by omega)]; exact h0) hn (by show 0 ≤ (nI j).toInt ∧ (nI j).toInt ≤ 5; rw [nIi (by omega)]; omega) ⟨d, hd, rfl⟩
  unfold f_deal1
  rw [e, ej, ed]
  exact ⟨c.1, (a'.2.trans b'.2).trans c.2⟩
theorem g_dl {B : Int} {t : Nat → Int32} {e : Nat} (h : gT B t) (h0 : t 0 = nI e) : ∀ k, e + k ≤ 8 → gT B (f_dl k t) ∧ kp t (f_dl k t)
  | 0, _ => ⟨h, kp.refl t⟩
  | k + 1, hk => by
    have ih := g_dl h h0 k (by omega)
    have s := g_deal1 ih.1 (f_dl_0 h0 k (by omega)) (by omega)
    exact ⟨s.1, ih.2.trans s.2⟩
theorem g_deal {B : Int} {t : Nat → Int32} {n : Int32} (h : gT B t) : gT B (s_deal t n).2 ∧ kp t (s_deal t n).2 := by
  unfold s_deal
  by_cases g : qIn 1 8 n
  · rw [if_pos g]
    obtain ⟨n1, n2⟩ := h.1.n
    have e := f_deal_eq n.toNatClampNeg t 0 (f_n t) n2 n1
    have e : f_deal n.toNatClampNeg t 0 = _ := e
    rw [e]
    exact g_dl h n2 _ (by omega)
  · rw [if_neg g]; exact ⟨h, kp.refl t⟩
theorem f_it_2 {t : Nat → Int32} {m : Nat} (ho : okS t) (h : t 2 = nI m) : ∀ k, f_it k t 2 = nI (m + k)
  | 0 => h
  | k + 1 => by
    have ih := f_it_2 ho h k
    have hk := okS_it ho k
    show f_pass (f_it k t) 2 = _
    generalize f_it k t = t1 at ih hk
    unfold f_pass f_tick
    rw [upd_at, f_mice_out _ (by omega) (by omega), (f_fed_ok hk).2 2 (by omega), ih]
    exact nI_1 (m + k)
theorem g_minutes {B : Int} {t : Nat → Int32} {n : Int32} (h : gT B t) (hB : B + 6000 < 1073741824) : gT (B + 6000) (s_minutes t n).2 ∧ kp t (s_minutes t n).2 := by
  unfold s_minutes
  by_cases g : qIn 1 60 n
  · rw [if_pos g]
    obtain ⟨m, m1, m2, m3⟩ := qIn_nat h.2.2
    have e := f_mins_eq n.toNatClampNeg t 0 m h.1 m3 (by omega)
    rw [e]
    obtain ⟨d, d1, d2, d3⟩ := qIn_nat (x := n) (hi := 60) ⟨by have := g.1; omega, g.2⟩
    have ed : n.toNatClampNeg = d := qcl d d3 d2
    rw [ed]
    show gT (B + 6000) (f_it (min d (9999 - m)) t) ∧ kp t (f_it (min d (9999 - m)) t)
    have hk : min d (9999 - m) ≤ 60 ∧ m + min d (9999 - m) ≤ 9999 := by omega
    generalize min d (9999 - m) = k at hk
    refine ⟨⟨okS_it h.1 k, (okV_it h.2.1 h.1 ⟨by omega, by omega⟩ k (by omega)).mono (Int.le_refl _) (by omega), ?_⟩, fun j hj => f_it_out h.1 k (by omega)⟩
    rw [f_it_2 h.1 m3 k]
    show 0 ≤ (nI (m + k)).toInt ∧ (nI (m + k)).toInt ≤ 9999
    rw [nIi (by omega)]
    omega
  · rw [if_neg g]; exact ⟨h.mono (by omega), kp.refl t⟩
theorem g_lays {B : Int} {t : Nat → Int32} {c w v : Int32} (h : gT B t) : gT (B + 6000) (s_lays t c w v).2 ∧ kp t (s_lays t c w v).2 := by
  unfold s_lays
  by_cases g : qIn 0 35 c ∧ qIn 0 2 w ∧ qIn 0 (if w = 2 then 999 else 20) v
  · rw [if_pos g]
    obtain ⟨g1, g2, g3⟩ := g
    obtain ⟨a1, a2, a3⟩ := qI (m := 36) g1 (by omega)
    obtain ⟨b1, b2, b3⟩ := qI (m := 3) g2 (by omega)
    generalize c.toNatClampNeg = d at a1 a2 a3 ⊢
    have hw : w = 2 ↔ w.toNatClampNeg = 2 := ⟨fun z => by rw [z]; rfl, fun z => by rw [b1, z]; rfl⟩
    rw [show (if w = 2 then (999 : Int) else 20) = if w.toNatClampNeg = 2 then 999 else 20 by simp only [hw]] at g3
    generalize w.toNatClampNeg = e at b1 b2 b3 g3 ⊢
    show gT (B + 6000) (upd t (10 + 36 * e + d) v) ∧ kp t (upd t (10 + 36 * e + d) v)
    refine ⟨⟨okS_congr' (fun j hj => upd_ne _ _ (by omega)) h.1, ?_, by rw [upd_ne _ _ (by omega)]; exact h.2.2⟩, fun j hj => upd_ne _ _ (by omega)⟩
    obtain ⟨v1, v2, v3, v4, v5⟩ := h.2.1
    by_cases q : e = 2
    · rw [if_pos q] at g3
      rw [q, show 10 + 36 * 2 + d = 82 + d by omega]
      have := (v1 d a2).2.2
      exact okV_part h.2.1 a2 g3.1 (by have := g3.2; omega)
    · rw [if_neg q] at g3
      refine ⟨fun j hj => ?_, ?_, ?_, fun k hk => ?_, ?_⟩
      · rw [upd_ne _ _ (show 82 + j ≠ 10 + 36 * e + d by omega)]
        obtain ⟨z1, z2, z3⟩ := v1 j hj
        refine ⟨?_, ?_, z3⟩
        · by_cases y : 10 + j = 10 + 36 * e + d
          · rw [y, upd_at]; exact g3
          · rw [upd_ne _ _ y]; exact z1
        · by_cases y : 46 + j = 10 + 36 * e + d
          · rw [y, upd_at]; exact g3
          · rw [upd_ne _ _ y]; exact z2
      · rw [f_sI_cg 36 (fun c hc => upd_ne _ _ (by omega))]; omega
      · rw [upd_ne _ _ (by omega)]; exact v3
      · rw [upd_ne _ _ (by omega)]; exact v4 k hk
      · rw [upd_ne _ _ (by omega)]; exact v5
  · rw [if_neg g]; exact ⟨h.mono (by omega), kp.refl t⟩
theorem g_turns {B : Int} {t : Nat → Int32} {e w : Int32} (h : gT B t) : gT B (s_turns t e w).2 ∧ kp t (s_turns t e w).2 := by
  unfold s_turns
  obtain ⟨n1, n2⟩ := h.1.n
  by_cases g : qIn 0 ((f_n t : Int) - 1) e ∧ qIn 0 5 w
  · rw [if_pos g]
    obtain ⟨a1, a2, a3⟩ := qI (m := 8) g.1 (by omega)
    generalize e.toNatClampNeg = d at a2 ⊢
    show gT B (upd t (118 + 3 * d + 0) w) ∧ kp t (upd t (118 + 3 * d + 0) w)
    obtain ⟨v1, v2, v3, v4, v5⟩ := h.2.1
    refine ⟨⟨okS_congr (fun j hj => upd_ne _ _ (by omega)) (fun k hk => by rw [upd_ne _ _ (by omega)]; exact h.1.2.2.2.2.2 k hk) h.1, ⟨fun j hj => ?_, ?_, ?_, fun k hk => ?_, ?_⟩, by rw [upd_ne _ _ (by omega)]; exact h.2.2⟩, fun j hj => upd_ne _ _ (by omega)⟩
    · rw [upd_ne _ _ (by omega), upd_ne _ _ (by omega), upd_ne _ _ (by omega)]; exact v1 j hj
    · rw [f_sI_cg 36 (fun c hc => upd_ne _ _ (by omega))]; exact v2
    · rw [upd_ne _ _ (by omega)]; exact v3
    · by_cases q : k = d
      · rw [q, upd_at]; exact g.2
      · rw [upd_ne _ _ (by omega)]; exact v4 k hk
    · rw [upd_ne _ _ (by omega)]; exact v5
  · rw [if_neg g]; exact ⟨h, kp.refl t⟩
theorem g_sends {B : Int} {t : Nat → Int32} {e c : Int32} (h : gT B t) : gT B (s_sends t e c).2 ∧ kp t (s_sends t e c).2 := by
  unfold s_sends
  obtain ⟨n1, n2⟩ := h.1.n
  by_cases g : qIn 0 ((f_n t : Int) - 1) e ∧ qIn 0 35 c
  · rw [if_pos g]
    obtain ⟨a1, a2, a3⟩ := qI (m := 8) g.1 (by omega)
    generalize e.toNatClampNeg = d at a2 ⊢
    show gT B (upd t (118 + 3 * d + 1) c) ∧ kp t (upd t (118 + 3 * d + 1) c)
    refine ⟨⟨okS_congr (fun j hj => upd_ne _ _ (by omega)) (fun k hk => ?_) h.1, okV_cg (fun j hj => upd_ne _ _ (by omega)) h.2.1, by rw [upd_ne _ _ (by omega)]; exact h.2.2⟩, fun j hj => upd_ne _ _ (by omega)⟩
    by_cases q : k = d
    · rw [q, upd_at]; exact qIn_ex (m := 36) g.2 (by omega)
    · rw [upd_ne _ _ (by omega)]; exact h.1.2.2.2.2.2 k hk
  · rw [if_neg g]; exact ⟨h, kp.refl t⟩
theorem g_cook {B : Int} {t : Nat → Int32} {c : Int32} (h : gT B t) : gT B (s_cook t c).2 ∧ kp t (s_cook t c).2 := by
  unfold s_cook
  by_cases g : qIn 0 35 c
  · rw [if_pos g]
    show gT B (upd (upd t 4 1) 3 c) ∧ kp t (upd (upd t 4 1) 3 c)
    have out : ∀ j, j ≠ 3 → j ≠ 4 → upd (upd t 4 1) 3 c j = t j := fun j a b => by rw [upd_ne _ _ a, upd_ne _ _ b]
    obtain ⟨o1, o2, o3, o4, o5, o6⟩ := h.1
    refine ⟨⟨⟨?_, okTxs_congr (out 1 (by omega) (by omega)) (fun j hj => out j (by omega) (by omega)) o2, ?_, ?_, ?_, fun k hk => ?_⟩, okV_cg (fun j hj => out j (by omega) (by omega)) h.2.1, ?_⟩, fun j hj => out j (by omega) (by omega)⟩
    · rw [out 0 (by omega) (by omega)]; exact o1
    · rw [upd_at]; exact qIn_ex (m := 36) g (by omega)
    · rw [upd_ne _ _ (by omega), upd_at]; exact Or.inr rfl
    · rw [out 8 (by omega) (by omega)]; exact o5
    · rw [out _ (by omega) (by omega)]; exact o6 k hk
    · rw [out 2 (by omega) (by omega)]; exact h.2.2
  · rw [if_neg g]; exact ⟨h, kp.refl t⟩
theorem g_4 {B : Int} {t : Nat → Int32} (h : gT B t) : gT B (upd t 4 0) ∧ kp t (upd t 4 0) := by
  refine ⟨⟨okS_cooks h.1, okV_cg (fun j hj => upd_ne _ _ (by omega)) h.2.1, ?_⟩, fun j hj => upd_ne _ _ (by omega)⟩
  rw [upd_ne _ _ (by omega)]; exact h.2.2
theorem g_8 {B : Int} {t : Nat → Int32} {v : Int32} (h : gT B t) (hv : qIn 0 9 v) : gT B (upd t 8 v) ∧ kp t (upd t 8 v) := by
  obtain ⟨o1, o2, o3, o4, o5, o6⟩ := h.1
  have out : ∀ j, j ≠ 8 → upd t 8 v j = t j := fun j a => upd_ne _ _ a
  refine ⟨⟨⟨?_, okTxs_congr (out 1 (by omega)) (fun j hj => out j (by omega)) o2, ?_, ?_, ?_, fun k hk => ?_⟩, okV_cg (fun j hj => out j (by omega)) h.2.1, ?_⟩, fun j hj => out j (by omega)⟩
  · rw [out 0 (by omega)]; exact o1
  · rw [out 3 (by omega)]; exact o3
  · rw [out 4 (by omega)]; exact o4
  · rw [upd_at]
    obtain ⟨d, hd, e⟩ := qIn_ex (m := 10) hv (by omega)
    exact ⟨d, by omega, e⟩
  · rw [out _ (by omega)]; exact o6 k hk
  · rw [out 2 (by omega)]; exact h.2.2
theorem g_7 {B : Int} {t : Nat → Int32} {v : Int32} (h : gT B t) (hv : qIn 0 99 v) : gT B (upd t 7 v) ∧ kp t (upd t 7 v) := by
  have out : ∀ j, j ≠ 7 → upd t 7 v j = t j := fun j a => upd_ne _ _ a
  obtain ⟨v1, v2, v3, v4, v5⟩ := h.2.1
  refine ⟨⟨okS_congr' (fun j hj => out j (by omega)) h.1, ⟨fun j hj => ?_, ?_, ?_, fun k hk => ?_, ?_⟩, ?_⟩, fun j hj => out j (by omega)⟩
  · rw [out _ (by omega), out _ (by omega), out _ (by omega)]; exact v1 j hj
  · rw [f_sI_cg 36 (fun c hc => out _ (by omega))]; exact v2
  · rw [upd_at]; exact hv
  · rw [out _ (by omega)]; exact v4 k hk
  · rw [out _ (by omega)]; exact v5
  · rw [out 2 (by omega)]; exact h.2.2
theorem g_6 {B : Int} {t : Nat → Int32} {v : Int32} (h : gT B t) (hv : qIn 0 9 v) : gT B (upd t 6 v) ∧ kp t (upd t 6 v) := by
  have out : ∀ j, j ≠ 6 → upd t 6 v j = t j := fun j a => upd_ne _ _ a
  obtain ⟨v1, v2, v3, v4, v5⟩ := h.2.1
  refine ⟨⟨okS_congr' (fun j hj => out j (by omega)) h.1, ⟨fun j hj => ?_, ?_, ?_, fun k hk => ?_, ?_⟩, ?_⟩, fun j hj => out j (by omega)⟩
  · rw [out _ (by omega), out _ (by omega), out _ (by omega)]; exact v1 j hj
  · rw [f_sI_cg 36 (fun c hc => out _ (by omega))]; exact v2
  · rw [out _ (by omega)]; exact v3
  · rw [out _ (by omega)]; exact v4 k hk
  · rw [upd_at]; exact hv
  · rw [out 2 (by omega)]; exact h.2.2
theorem g_9 {B : Int} {t : Nat → Int32} {v : Int32} (h : gT B t) : gT B (upd t 9 v) ∧ kp t (upd t 9 v) := by
  refine ⟨⟨okS_congr' (fun j hj => upd_ne _ _ (by omega)) h.1, okV_cg (fun j hj => upd_ne _ _ (by omega)) h.2.1, ?_⟩, fun j hj => upd_ne _ _ (by omega)⟩
  rw [upd_ne _ _ (by omega)]; exact h.2.2
theorem g_say {B : Int} {t : Nat → Int32} {w : Int32} (h : gT B t) : gT B (s_say t w).2 ∧ kp t (s_say t w).2 := by
  unfold s_say
  repeat' split
  · exact ⟨h, kp.refl t⟩
  · exact g_4 h
  · exact g_8 h (f_w_in (by decide))
  · exact g_7 h (f_w_in (by decide))
  · exact ⟨h, kp.refl t⟩
  · exact ⟨h, kp.refl t⟩
theorem g_rule {B : Int} {t : Nat → Int32} {w v : Int32} (h : gT B t) : gT B (s_rule t w v).2 ∧ kp t (s_rule t w v).2 := by
  unfold s_rule
  by_cases g : qIn 0 3 w ∧ qIn 0 (f_mr w).toInt v
  · rw [if_pos g]
    obtain ⟨d, hd, e⟩ := qIn_ex (m := 4) g.1 (by omega)
    have ed : w.toNatClampNeg = d := qcl d e (by omega)
    rw [ed]
    show gT B (upd t (6 + d) v) ∧ kp t (upd t (6 + d) v)
    have g2 := g.2
    rw [e] at g2
    match d, hd, g2 with
    | 0, _, g2 => exact g_6 h g2
    | 1, _, g2 => exact g_7 h g2
    | 2, _, g2 => exact g_8 h g2
    | 3, _, _ => exact g_9 h
  · rw [if_neg g]; exact ⟨h, kp.refl t⟩
theorem g_pr {B : Int} {row t : Nat → Int32} (h : gT B t) : ∀ z, z ≤ 24 → gT B (f_pr row t z).2 ∧ kp t (f_pr row t z).2
  | 0, _ => ⟨h, kp.refl t⟩
  | z + 1, hz => by
    obtain ⟨ih, ik⟩ := g_pr h z (by omega)
    show gT B (upd (f_pr row t z).2 (10 + z) (f_is row (f_pr row t z).2 z)) ∧ kp t (upd (f_pr row t z).2 (10 + z) (f_is row (f_pr row t z).2 z))
    generalize (f_pr row t z).2 = t1 at ih ik
    obtain ⟨v1, v2, v3, v4, v5⟩ := ih.2.1
    have hv : qIn 0 20 (f_is row t1 z) := by
      unfold f_is
      by_cases q : row z = -1000000005
      · rw [if_pos q]; exact (v1 z (by omega)).1
      · rw [if_neg q]; exact f_w_in (by decide)
    generalize f_is row t1 z = v at hv
    have out : ∀ j, j ≠ 10 + z → upd t1 (10 + z) v j = t1 j := fun j a => upd_ne _ _ a
    refine ⟨⟨okS_congr' (fun j hj => out j (by omega)) ih.1, ⟨fun j hj => ?_, ?_, ?_, fun k hk => ?_, ?_⟩, ?_⟩, fun j hj => (out j (by omega)).trans (ik j hj)⟩
    · rw [out (46 + j) (by omega), out (82 + j) (by omega)]
      obtain ⟨z1, z2, z3⟩ := v1 j hj
      refine ⟨?_, z2, z3⟩
      by_cases y : j = z
      · rw [y, upd_at]; exact hv
      · rw [out _ (by omega)]; exact z1
    · rw [f_sI_cg 36 (fun c hc => out _ (by omega))]; exact v2
    · rw [out _ (by omega)]; exact v3
    · rw [out _ (by omega)]; exact v4 k hk
    · rw [out _ (by omega)]; exact v5
    · rw [out 2 (by omega)]; exact ih.2.2
theorem rTxs_kp {X : qX} {t t' : Nat → Int32} (h : kp t t') (hr : rTxs X t) : rTxs X t' := by
  intro k hk
  have e1 : f_nt t' = f_nt t := by unfold f_nt; rw [h 1 (by omega)]
  rw [e1] at hk
  obtain ⟨i, a1, a2, a3, a4, a5, a6⟩ := hr k hk
  have em : f_m t' k = f_m t k := by unfold f_m; rw [h _ (by omega)]
  refine ⟨i, a1, a2, by rw [h _ (by omega)]; exact a3, by rw [h _ (by omega)]; exact a4, by rw [h _ (by omega)]; exact a5, fun j hj => ?_⟩
  rw [em] at hj
  rw [h _ (by omega), h (142 + 200 * k + 4 + 2 * j) (by omega), h (142 + 200 * k + 4 + 2 * j + 1) (by omega)]
  exact a6 j hj
