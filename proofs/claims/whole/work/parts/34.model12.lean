/-! the reference: behind, wets, deepest, walled, enough, fee, fine -/
def s_behind (t : Nat → Int32) (n w : Int32) : Int32 := if qIn 0 60 n ∧ qIn 0 37 w then (if w = 0 then f_sp (f_it n.toNatClampNeg t) 36 else if w = 1 then f_sa (f_it n.toNatClampNeg t) (f_n (f_it n.toNatClampNeg t)) else f_it n.toNatClampNeg t (82 + (w.toNatClampNeg - 2))) else BAD
def f_wets (c : Nat) : Nat → Nat → (Nat → Int32) → Int32
  | 0, _, _ => -1
  | d + 1, k, t => if t (82 + c) ≤ 0 then f_wets c d (k + 1) (f_pass t) else nI k
def s_wets (t : Nat → Int32) (c : Int32) : Int32 := if qIn 0 35 c then (if f_wets c.toNatClampNeg 201 0 t < 0 then -1000000005 else f_wets c.toNatClampNeg 201 0 t) else BAD
def f_best (t : Nat → Int32) : Nat → Nat
  | 0 => 0
  | c + 1 => if t (82 + c) ≤ t (82 + f_best t c) then f_best t c else c
theorem f_best_lt (t : Nat → Int32) : ∀ c, f_best t c < c + 1
  | 0 => Nat.zero_lt_one
  | c + 1 => by
    have := f_best_lt t c
    rw [f_best]
    by_cases h : t (82 + c) ≤ t (82 + f_best t c)
    · rw [if_pos h]; omega
    · rw [if_neg h]; omega
def s_deepest (t : Nat → Int32) (n w : Int32) : Int32 := if qIn 0 60 n ∧ qIn 0 1 w then (if w = 0 then nI (f_best (f_it n.toNatClampNeg t) 36) else f_it n.toNatClampNeg t (82 + f_best (f_it n.toNatClampNeg t) 36)) else BAD
def f_walv (t : Nat → Int32) (cell n c : Nat) : Int32 := f_it n (upd t (46 + c) (t (46 + c) + 5)) (82 + cell)
def f_wal (t : Nat → Int32) (cell n : Nat) : Nat → Int32 × Int32
  | 0 => (-1, 0)
  | c + 1 => if (f_wal t cell n c).1 < 0 ∨ f_walv t cell n c < (f_wal t cell n c).2 then (nI c, f_walv t cell n c) else f_wal t cell n c
def s_walled (t : Nat → Int32) (c n w : Int32) : Int32 := if qIn 0 35 c ∧ qIn 1 20 n ∧ qIn 0 1 w then (if w = 0 then (f_wal t c.toNatClampNeg n.toNatClampNeg 36).1 else (f_wal t c.toNatClampNeg n.toNatClampNeg 36).2) else BAD
def f_en (t : Nat → Int32) (cell n : Nat) : Nat → Int32
  | 0 => -1
  | k + 1 => if f_it (n - k) (upd (f_it k t) 4 0) (82 + cell) = 0 then nI k else f_en t cell n k
def s_enough (t : Nat → Int32) (c n : Int32) : Int32 := if qIn 0 35 c ∧ qIn 0 40 n then (if f_en t c.toNatClampNeg n.toNatClampNeg (n.toNatClampNeg + 1) < 0 then -1000000005 else f_en t c.toNatClampNeg n.toNatClampNeg (n.toNatClampNeg + 1)) else BAD
theorem okS_wall {t : Nat → Int32} (h : okS t) {c : Nat} (hc : c < 36) (v : Int32) : okS (upd t (46 + c) v) := okS_congr' (fun j hj => upd_ne _ _ (by omega)) h
theorem okS_cooks {t : Nat → Int32} (h : okS t) : okS (upd t 4 0) := by
  obtain ⟨o1, o2, o3, o4, o5, o6⟩ := h
  refine ⟨by rw [upd_ne _ _ (by omega)]; exact o1, okTxs_congr (upd_ne _ _ (by omega)) (fun j hj => upd_ne _ _ (by omega)) o2, by rw [upd_ne _ _ (by omega)]; exact o3, Or.inl (upd_at _ _ _), by rw [upd_ne _ _ (by omega)]; exact o5, fun k hk => by rw [upd_ne _ _ (by omega)]; exact o6 k hk⟩
/-- A1 has A's town laid by -/
def qby (A A1 : qA) : Prop := qag [20, 33, 35, 36] A A1 ∧ (∀ j, j < 142 → A1 33 j = A 20 j) ∧ (∀ j, 142 ≤ j → A1 20 j = A 20 j)
theorem qby.end {A A1 : qA} (h : qby A A1) (e : A1 20 = A 20) : qag [33, 35, 36] A A1 := fun i hi => by
  by_cases g : i = 20
  · rw [g]; exact e
  · exact h.1 i (by simp at hi ⊢; omega)
theorem qby.up {A A1 : qA} (h : qby A A1) {k : Nat} {v : Int32} (hk : k < 142) : qby A (va_up A1 20 (upd (A1 20) k v)) :=
  ⟨h.1.trans (qag.up (by simp)), fun j hj => by rw [vu_ne _ _ (by omega)]; exact h.2.1 j hj, fun j hj => by rw [vu_at, upd_ne _ _ (by omega)]; exact h.2.2 j hj⟩
section MOD
variable {A A1 : qA} {F : qF} {X : qX} {Q : pz_Q} {M : pz_M}
theorem cM_laysBy' (h : ∀ A1, qby A A1 → A1 20 = A 20 → Q none (mem A1 F X)) : pz_C yX10_laysBy KX10_laysBy [.ref 69] (mem A F X) Q := by
  refine cM_laysBy (h _ ⟨qag.up (by simp), fun j hj => ?_, fun j hj => ?_⟩ (vu_ne _ _ (by omega)))
  · rw [vu_at]; exact if_pos hj
  · rw [vu_ne _ _ (by omega)]
theorem cM_laysBack' (hb : qby A A1) (h : ∀ A2, qby A A2 → A2 20 = A 20 → Q none (mem A2 F X)) : pz_C yX10_laysBack KX10_laysBack [.ref 69] (mem A1 F X) Q := by
  have e : qcp 142 (A1 33) (A1 20) = A 20 := by
    funext j
    unfold qcp
    by_cases hj : j < 142
    · rw [if_pos hj]; exact hb.2.1 j hj
    · rw [if_neg hj]; exact hb.2.2 j (by omega)
  refine cM_laysBack (h _ ⟨hb.1.trans (qag.up (by simp)), fun j hj => ?_, fun j hj => ?_⟩ (by rw [vu_at]; exact e))
  · rw [vu_ne _ _ (by omega)]; exact hb.2.1 j hj
  · rw [vu_at, e]
theorem cM_many' {x : Int32} {n : Nat} (hx : x = nI n) (hn : n < 2147483648) (hb : qby A A1) (hok : okS (A1 20)) (h : ∀ A2 : qA, qby A A2 → A2 20 = f_it n (A1 20) → Q none (mem A2 F X)) : pz_C yX10_goesOnMany KX10_goesOnMany [.ref 69, .int x] (mem A1 F X) Q := by
  refine cM_many hx hn hok (fun A2 h1 h2 => h A2 ⟨hb.1.trans (h1.mono (by simp)), fun j hj => ?_, fun j hj => ?_⟩ h2)
  · rw [h1 33 (by simp)]; exact hb.2.1 j hj
  · rw [h2, f_it_out hok n (by omega)]; exact hb.2.2 j hj
set_option maxRecDepth 8000 in
theorem cM_behind {n w : Int32} (hok : okS (A 20)) (h : ∀ A' : qA, qag [33, 35, 36] A A' → Q (some (.int (s_behind (A 20) n w))) (mem A' F X)) : pz_C yX10_behind KX10_behind [.ref 69, .int n, .int w] (mem A F X) Q := by
  refine pz_C_of rfl rfl rfl (Nat.le_of_ble_eq_true rfl) (pz_wp_ok (pz_Is_ok SX10_behind) [] 100 ?_)
  unfold s_behind at h
  refine cM_isIn3 0 60 rfl rfl (fun g1 => ?_) (fun g1 => ?_)
  · refine br2 (by decide) ?_
    refine cM_isIn3 0 37 rfl rfl (fun g2 => ?_) (fun g2 => ?_)
    · refine br1 (by decide) ?_
      rw [if_pos ⟨g1, g2⟩] at h
      obtain ⟨a1, a2, a3⟩ := qI (m := 61) g1 (by omega)
      obtain ⟨b1, b2, b3⟩ := qI (m := 38) g2 (by omega)
      refine cM_laysBy' (fun A1 hb e1 => ?_)
      refine cM_many' a1 (by omega) hb (by rw [e1]; exact hok) (fun A2 hb2 e2 => ?_)
      rw [e1] at e2
      have ok2 : okS (A2 20) := by rw [e2]; exact okS_it hok _
      obtain ⟨n1, n2⟩ := ok2.n
      rw [← e2] at h
      refine ⟨fun g => ?_, fun g => ?_⟩
      · have g : ¬ w = 0 := g
        rw [if_neg g] at h
        refine ⟨fun g' => ?_, fun g' => ?_⟩
        · have g' : ¬ w = 1 := g'
          rw [if_neg g'] at h
          have w2 : 2 ≤ w.toNatClampNeg := by
            rcases Nat.lt_or_ge w.toNatClampNeg 2 with z | z
            · exfalso
              generalize w.toNatClampNeg = m at b1 z
              have : m = 0 ∨ m = 1 := by omega
              rcases this with e | e
              · subst e; exact g b1
              · subst e; exact g' b1
            · exact z
          have ew : w - 2 = nI (w.toNatClampNeg - 2) := by
            generalize w.toNatClampNeg = m at b1 w2
            subst b1
            exact nI_sub1 (b := 2) w2
          refine cM_parts ew (by omega) ?_
          exact cM_laysBack' hb2 (fun A3 hb3 e3 => h A3 (hb3.end e3))
        · have g' : w = 1 := g'
          rw [if_pos g'] at h
          refine cM_allAte n2 n1 ?_
          exact cM_laysBack' hb2 (fun A3 hb3 e3 => h A3 (hb3.end e3))
      · have g : w = 0 := g
        rw [if_pos g] at h
        refine cM_allParts ?_
        exact cM_laysBack' hb2 (fun A3 hb3 e3 => h A3 (hb3.end e3))
    · refine br2 (fun z => z rfl) ?_
      rw [if_neg (fun z => g2 z.2)] at h
      exact h A (qag.refl _ A)
  · refine br1 (fun z => z rfl) ?_
    rw [if_neg (fun z => g1 z.1)] at h
    exact h A (qag.refl _ A)
end MOD
