/-! how much there can be: no sum passes what an int holds -/
def f_sI (t : Nat → Int32) : Nat → Int
  | 0 => 0
  | c + 1 => f_sI t c + (t (82 + c)).toInt
theorem f_sI_upd (t : Nat → Int32) (c : Nat) (v : Int32) : ∀ n, f_sI (upd t (82 + c) v) n = f_sI t n + (if c < n then v.toInt - (t (82 + c)).toInt else 0)
  | 0 => by rw [f_sI, f_sI, if_neg (by omega)]; rfl
  | n + 1 => by
    rw [f_sI, f_sI, f_sI_upd t c v n]
    by_cases h : n = c
    · subst h
      rw [if_neg (by omega), if_pos (by omega), upd_at]
      omega
    · rw [upd_ne _ _ (by omega)]
      by_cases h2 : c < n
      · rw [if_pos h2, if_pos (by omega)]; omega
      · rw [if_neg h2, if_neg (by omega)]; omega
theorem f_sI_cg {t t' : Nat → Int32} : ∀ n, (∀ c, c < n → t' (82 + c) = t (82 + c)) → f_sI t' n = f_sI t n
  | 0, _ => rfl
  | n + 1, h => by rw [f_sI, f_sI, f_sI_cg n (fun c hc => h c (by omega)), h n (by omega)]
theorem f_sI_pos {t : Nat → Int32} : ∀ n, (∀ c, c < n → 0 ≤ (t (82 + c)).toInt) → 0 ≤ f_sI t n ∧ ∀ c, c < n → (t (82 + c)).toInt ≤ f_sI t n
  | 0, _ => ⟨Int.le_refl _, fun c hc => by omega⟩
  | n + 1, h => by
    obtain ⟨a, b⟩ := f_sI_pos n (fun c hc => h c (by omega))
    have hn := h n (by omega)
    rw [f_sI]
    refine ⟨by omega, fun c hc => ?_⟩
    by_cases e : c = n
    · subst e; omega
    · have := b c (by omega)
      omega
def okV (W B : Int) (t : Nat → Int32) : Prop := (∀ c, c < 36 → qIn 0 20 (t (10 + c)) ∧ qIn 0 W (t (46 + c)) ∧ 0 ≤ (t (82 + c)).toInt) ∧ f_sI t 36 ≤ B ∧ qIn 0 99 (t 7) ∧ (∀ k, k < 8 → qIn 0 5 (t (118 + 3 * k + 0))) ∧ qIn 0 9 (t 6)
theorem okV.part {W B : Int} {t : Nat → Int32} (h : okV W B t) {c : Nat} (hc : c < 36) : 0 ≤ (t (82 + c)).toInt ∧ (t (82 + c)).toInt ≤ B := by
  have := (f_sI_pos 36 (fun c hc => (h.1 c hc).2.2)).2 c hc
  have := h.2.1
  exact ⟨(h.1 c hc).2.2, by omega⟩
theorem okV.mono {W B W' B' : Int} {t : Nat → Int32} (h : okV W B t) (hW : W ≤ W') (hB : B ≤ B') : okV W' B' t := ⟨fun c hc => ⟨(h.1 c hc).1, ⟨(h.1 c hc).2.1.1, Int.le_trans (h.1 c hc).2.1.2 hW⟩, (h.1 c hc).2.2⟩, Int.le_trans h.2.1 hB, h.2.2⟩
theorem okV_cg {W B : Int} {t t' : Nat → Int32} (h : ∀ j, ((6 ≤ j ∧ j ≤ 7) ∨ (10 ≤ j ∧ j < 118) ∨ (118 ≤ j ∧ j < 142 ∧ j % 3 = 1)) → t' j = t j) (ho : okV W B t) : okV W B t' := by
  obtain ⟨o1, o2, o3, o4, o5⟩ := ho
  refine ⟨fun c hc => ?_, ?_, ?_, fun k hk => ?_, ?_⟩
  · rw [h _ (by omega), h _ (by omega), h _ (by omega)]; exact o1 c hc
  · rw [f_sI_cg 36 (fun c hc => h _ (by omega))]; exact o2
  · rw [h 7 (by omega)]; exact o3
  · rw [h _ (by omega)]; exact o4 k hk
  · rw [h 6 (by omega)]; exact o5
theorem okV.lev {W B : Int} {t : Nat → Int32} (h : okV W B t) (hW : W ≤ 25) (hB : B < 1073741824) {c : Nat} (hc : c < 36) : (f_lev t c).toInt = 10 * ((t (10 + c)).toInt + (t (46 + c)).toInt) + (t (82 + c)).toInt ∧ 0 ≤ (f_lev t c).toInt ∧ (f_lev t c).toInt ≤ 450 + B := by
  obtain ⟨⟨a1, a2⟩, ⟨b1, b2⟩, -⟩ := h.1 c hc
  obtain ⟨c1, c2⟩ := h.part hc
  have e1 : (t (10 + c) + t (46 + c)).toInt = (t (10 + c)).toInt + (t (46 + c)).toInt := i_add (by omega) (by omega)
  have e2 : ((10 : Int32) * (t (10 + c) + t (46 + c))).toInt = 10 * ((t (10 + c)).toInt + (t (46 + c)).toInt) := by
    rw [i_mul (by rw [e1]; show _ ≤ 10 * _; omega) (by rw [e1]; show 10 * _ < _; omega), e1]
    rfl
  have e3 : (f_lev t c).toInt = 10 * ((t (10 + c)).toInt + (t (46 + c)).toInt) + (t (82 + c)).toInt := by
    unfold f_lev
    rw [i_add (by rw [e2]; omega) (by rw [e2]; omega), e2]
  exact ⟨e3, by omega, by omega⟩
theorem f_w_in {x p : Int32} (hp : 0 ≤ p.toInt) : 0 ≤ (f_w x p).toInt ∧ (f_w x p).toInt ≤ p.toInt := by
  unfold f_w
  by_cases h : x < 0
  · rw [if_pos h]; exact ⟨by decide, hp⟩
  · rw [if_neg h]
    rw [i_lt, show (0 : Int32).toInt = 0 from rfl] at h
    by_cases h2 : p < x
    · rw [if_pos h2]; exact ⟨hp, Int.le_refl _⟩
    · rw [if_neg h2]
      rw [i_lt] at h2
      exact ⟨by omega, by omega⟩
/-- a part of the town changes: the sum with it -/
theorem okV_part {W B B' : Int} {t : Nat → Int32} (h : okV W B t) {c : Nat} (hc : c < 36) {v : Int32} (hv : 0 ≤ v.toInt) (hB : f_sI t 36 - (t (82 + c)).toInt + v.toInt ≤ B') : okV W B' (upd t (82 + c) v) := by
  obtain ⟨o1, o2, o3, o4, o5⟩ := h
  refine ⟨fun d hd => ?_, ?_, ?_, fun k hk => ?_, ?_⟩
  · rw [upd_ne _ _ (show 10 + d ≠ 82 + c by omega), upd_ne _ _ (show 46 + d ≠ 82 + c by omega)]
    refine ⟨(o1 d hd).1, (o1 d hd).2.1, ?_⟩
    by_cases e : d = c
    · subst e; rw [upd_at]; exact hv
    · rw [upd_ne _ _ (by omega)]; exact (o1 d hd).2.2
  · rw [f_sI_upd, if_pos hc]; omega
  · rw [upd_ne _ _ (by omega)]; exact o3
  · rw [upd_ne _ _ (by omega)]; exact o4 k hk
  · rw [upd_ne _ _ (by omega)]; exact o5
theorem okV_flow {W B : Int} {t : Nat → Int32} (h : okV W B t) (hB : B < 1073741824) {c : Nat} (hc : c < 36) : okV W B (f_flow t c) := by
  unfold f_flow
  split
  · exact h
  · dsimp only
    have ht := (f_low_some t hc).2
    generalize f_low t c = to at ht ⊢
    obtain ⟨p1, p2⟩ := h.part hc
    generalize hm : f_w ((f_lev t c - f_lev t to) / 2 / (1 + t 8)) (t (82 + c)) = m
    have m1 := f_w_in (x := (f_lev t c - f_lev t to) / 2 / (1 + t 8)) p1
    rw [hm] at m1
    clear hm
    have e1 : (t (82 + c) - m).toInt = (t (82 + c)).toInt - m.toInt := i_sub (by omega) (by omega)
    have h1 : okV W (f_sI t 36 - m.toInt) (upd t (82 + c) (t (82 + c) - m)) := okV_part h hc (by rw [e1]; omega) (by rw [e1]; omega)
    obtain ⟨q1, q2⟩ := h1.part ht
    have hs := h.2.1
    generalize upd t (82 + c) (t (82 + c) - m) = t1 at h1 q1 q2 ⊢
    have e2 : (t1 (82 + to) + m).toInt = (t1 (82 + to)).toInt + m.toInt := i_add (by omega) (by omega)
    refine okV_part h1 ht (by rw [e2]; omega) ?_
    have := h1.2.1
    rw [e2]
    omega
theorem okV_flows {W B : Int} {t : Nat → Int32} (h : okV W B t) (hB : B < 1073741824) : ∀ {n : Nat}, n ≤ 36 → okV W B (f_flows t n)
  | 0, _ => h
  | n + 1, hn => okV_flow (okV_flows h hB (by omega)) hB (by omega)
theorem f_pours_in {W B : Int} {t : Nat → Int32} (h : okV W B t) : qIn 0 99 (f_pours t) := by
  unfold f_pours
  split
  · exact h.2.2.1
  · exact f_w_in (by decide)
theorem okV_pour {W B : Int} {t : Nat → Int32} (h : okV W B t) (hs : okS t) (hB : B + 99 < 1073741824) : okV W (B + 99) (f_pour t) := by
  unfold f_pour
  obtain ⟨p1, -⟩ := hs.pot
  obtain ⟨a1, a2⟩ := f_pours_in h
  obtain ⟨b1, b2⟩ := h.part p1
  have hs' := h.2.1
  generalize f_pot t = c at p1 b1 b2 ⊢
  have hv : qIn 0 99 (if t 4 = 1 then f_pours t else 0) := by
    by_cases z : t 4 = 1
    · rw [if_pos z]; exact ⟨a1, a2⟩
    · rw [if_neg z]; exact ⟨by decide, by decide⟩
  obtain ⟨v1, v2⟩ := hv
  generalize (if t 4 = 1 then f_pours t else 0) = v at v1 v2 ⊢
  have e : (t (82 + c) + v).toInt = (t (82 + c)).toInt + v.toInt := i_add (by omega) (by omega)
  exact okV_part h p1 (by rw [e]; omega) (by rw [e]; omega)
theorem f_eats_in (k p : Int32) : 0 ≤ (f_eats k p).toInt := by
  unfold f_eats
  repeat' split
  all_goals decide
theorem okV_dine {W B : Int} {t : Nat → Int32} (h : okV W B t) {k c : Nat} (hk : k < 8) (hc : c < 36) : okV W B (f_dine t k c) := by
  unfold f_dine
  have h1 : okV W B (f_eaten t k c) := by
    unfold f_eaten
    obtain ⟨p1, p2⟩ := h.part hc
    have m1 := f_w_in (x := f_eats (t (118 + 3 * k + 0)) (t (82 + c))) p1
    have hm : f_ate t k c = f_w (f_eats (t (118 + 3 * k + 0)) (t (82 + c))) (t (82 + c)) := rfl
    rw [← hm] at m1
    have rp := i_rng (t (82 + c))
    have e1 : (t (82 + c) - f_ate t k c).toInt = (t (82 + c)).toInt - (f_ate t k c).toInt := i_sub (by omega) (by omega)
    have hs := h.2.1
    refine okV_cg (fun j hj => upd_ne _ _ (by omega)) (okV_part h hc (v := t (82 + c) - f_ate t k c) (by rw [e1]; omega) (by rw [e1]; omega))
  generalize f_eaten t k c = t1 at h1 ⊢
  unfold f_goes
  split
  · exact okV_cg (fun j hj => upd_ne _ _ (by omega)) h1
  · exact h1
theorem okV_dns {W B : Int} {t : Nat → Int32} (h : okV W B t) (hs : okS t) : ∀ {k : Nat}, k ≤ 8 → okV W B (f_dns t k).2
  | 0, _ => h
  | k + 1, hk => by
    have h1 := okV_dns h hs (k := k) (by omega)
    have hc := ((f_dns_ok t hs (k := k) (by omega)).1.cell (k := k) (by omega)).1
    exact okV_dine h1 (by omega) hc
theorem okV_mice {W B : Int} {t : Nat → Int32} (h : okV W B t) (hW : 0 ≤ W ∧ W ≤ 25) : okV W B (f_mice t) := by
  have hd : ∀ t : Nat → Int32, okV W B t → okV W B (f_dr t) := fun t h => okV_cg (fun j hj => f_dr_out t (by omega)) h
  unfold f_mice
  split
  · exact hd _ h
  · have h2 := hd _ (hd _ h)
    generalize f_dr (f_dr t) = t2 at h2 ⊢
    unfold f_bite
    obtain ⟨a1, a2, -⟩ := f_at_lt t2
    obtain ⟨c, e, hc⟩ : ∃ c, f_at t2 = 46 + c ∧ c < 36 := ⟨f_at t2 - 46, by omega, by omega⟩
    rw [e]
    obtain ⟨o1, o2, o3, o4, o5⟩ := h2
    have hw := (o1 c hc).2.1
    have es : (t2 (46 + c) - 1).toInt = (t2 (46 + c)).toInt - 1 := i_sub (x := t2 (46 + c)) (y := 1) (by rw [show (1 : Int32).toInt = 1 from rfl]; omega) (by rw [show (1 : Int32).toInt = 1 from rfl]; omega)
    have hv : qIn 0 W (f_w (t2 (46 + c) - 1) 25) := by
      unfold f_w
      by_cases z : t2 (46 + c) - 1 < 0
      · rw [if_pos z]; exact ⟨by decide, hW.1⟩
      · rw [if_neg z]
        rw [i_lt, es, show (0 : Int32).toInt = 0 from rfl] at z
        have : ¬ (25 : Int32) < t2 (46 + c) - 1 := by rw [i_lt, es, show (25 : Int32).toInt = 25 from rfl]; omega
        rw [if_neg this]
        show 0 ≤ (t2 (46 + c) - 1).toInt ∧ (t2 (46 + c) - 1).toInt ≤ W
        rw [es]
        omega
    refine ⟨fun d hd => ?_, ?_, ?_, fun k hk => ?_, ?_⟩
    · rw [upd_ne _ _ (show 10 + d ≠ 46 + c by omega), upd_ne _ _ (show 82 + d ≠ 46 + c by omega)]
      refine ⟨(o1 d hd).1, ?_, (o1 d hd).2.2⟩
      by_cases q : d = c
      · subst q; rw [upd_at]; exact hv
      · rw [upd_ne _ _ (by omega)]; exact (o1 d hd).2.1
    · rw [f_sI_cg 36 (fun d hd => upd_ne _ _ (by omega))]; exact o2
    · rw [upd_ne _ _ (by omega)]; exact o3
    · rw [upd_ne _ _ (by omega)]; exact o4 k hk
    · rw [upd_ne _ _ (by omega)]; exact o5
theorem okV_pass {W B : Int} {t : Nat → Int32} (h : okV W B t) (hs : okS t) (hW : 0 ≤ W ∧ W ≤ 25) (hB : B + 99 < 1073741824) : okV W (B + 99) (f_pass t) := by
  have h1 := okV_flows (okV_pour h hs hB) hB (n := 36) (by omega)
  have s1 := okS_flows (okS_pour hs) (n := 36) (by omega)
  have h2 := okV_mice (okV_dns h1 s1 (k := f_n t) hs.n.1) hW
  exact okV_cg (fun j hj => upd_ne _ _ (by omega)) h2
theorem okV_it {W B : Int} {t : Nat → Int32} (h : okV W B t) (hs : okS t) (hW : 0 ≤ W ∧ W ≤ 25) : ∀ n : Nat, B + 99 * (n : Int) < 1073741824 → okV W (B + 99 * (n : Int)) (f_it n t)
  | 0, _ => h.mono (Int.le_refl _) (by omega)
  | n + 1, hB => by
    have ih := okV_it h hs hW n (by omega)
    exact (okV_pass ih (okS_it hs n) hW (by omega)).mono (Int.le_refl _) (by omega)
