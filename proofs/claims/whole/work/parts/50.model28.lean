/-! the reference: lay, copy -/
def f_good (A : qA) (th k : Int32) : Prop := th = 0 ∨ th = 3 ∨ (th = 1 ∧ qIn 0 ((f_n (A 20) : Int) - 1) k) ∨ (th = 2 ∧ qIn 0 3 k)
def f_layA (A : qA) (s : Nat) (th k : Int32) : qA :=
  va_up (va_up (va_up (va_up (va_up A 26 (upd (A 26) s th)) 27 (upd (A 27) s (if th = 1 then A 20 (118 + 3 * k.toNatClampNeg + 0) else k))) 28 (upd (A 28) s (if th = 1 then f_worth (A 20 (118 + 3 * k.toNatClampNeg + 0)) (A 20 (118 + 3 * k.toNatClampNeg + 2)) else 0))) 29 (if th = 2 then upd (A 29) s (A 24 k.toNatClampNeg) else A 29)) 30 (if th = 2 then f_row 24 (24 * s) (fun j => A 25 (24 * k.toNatClampNeg + j)) (A 30) else A 30)
theorem lg_key (a b : Int64) : (lg_cmp a b < 0 ↔ a < b) ∧ (0 < lg_cmp a b ↔ b < a) := by
  unfold lg_cmp
  rcases Int.lt_trichotomy a.toInt b.toInt with h | h | h
  · have h' : ¬ b < a := by rw [Int64.lt_iff_toInt_lt]; omega
    have h'' : ¬ a = b := fun e => by rw [e] at h; omega
    have h3 : a < b := by rw [Int64.lt_iff_toInt_lt]; exact h
    rw [if_neg h', if_neg h'']
    exact ⟨⟨fun _ => h3, fun _ => by decide⟩, ⟨fun z => absurd z (by decide), fun z => absurd z h'⟩⟩
  · have h3 : a = b := Int64.toInt_inj.mp h
    subst h3
    have h' : ¬ a < a := by rw [Int64.lt_iff_toInt_lt]; omega
    rw [if_neg h', if_pos rfl]
    exact ⟨⟨fun z => absurd z (by decide), fun z => absurd z h'⟩, ⟨fun z => absurd z (by decide), fun z => absurd z h'⟩⟩
  · have h3 : b < a := by rw [Int64.lt_iff_toInt_lt]; exact h
    have h' : ¬ a < b := by rw [Int64.lt_iff_toInt_lt]; omega
    rw [if_pos h3]
    exact ⟨⟨fun z => absurd z (by decide), fun z => absurd z h'⟩, ⟨fun _ => h3, fun _ => by decide⟩⟩
theorem lg_sum (x y z : Int32) : 0 < lg_cmp (x.toInt64 + y.toInt64) z.toInt64 ↔ z.toInt < x.toInt + y.toInt := by
  have hx := i_rng x
  have hy := i_rng y
  rw [(lg_key _ _).2, Int64.lt_iff_toInt_lt, Int64.toInt_add, Int32.toInt_toInt64, Int32.toInt_toInt64, Int32.toInt_toInt64, Int.bmod_eq_of_le (by omega) (by omega)]
section MOD
variable {A A1 : qA} {F : qF} {X : qX} {Q : pz_Q} {M : pz_M}
set_option maxRecDepth 8000 in
theorem tM_lay_l {s k w : Int32} {sn kn : Nat} (hs : s = nI sn) (hsn : sn < 5) (hk : k = nI kn) (hkn : kn < 4) {x2 : Option Value} {y4 : Int32} (h : Q (some (.int w)) (mem (va_up A 30 (f_row 24 (24 * sn) (fun j => A 25 (24 * kn + j)) (A 30))) F X)) : ∀ (d i : Nat), i + d = 24 → pz_T z0 KX10_lay Q 150 (0, 0) [some (.ref 69), some (.int s), x2, some (.int k), some (.int y4), some (.int w), some (.int (nI i))] [] (mem (va_up A 30 (f_row i (24 * sn) (fun j => A 25 (24 * kn + j)) (A 30))) F X) := by
  intro d
  induction d with
  | zero =>
    intro i hi
    have hi : i = 24 := by omega
    subst hi
    refine pz_wp_ok (pz_Is_ok SX10_lay) [150] 100 ?_
    refine br1 (fun z => z (nI_le (Nat.le_refl _) (by omega))) ?_
    exact h
  | succ d ih =>
    intro i hi
    refine pz_wp_ok (pz_Is_ok SX10_lay) [150] 100 ?_
    refine br2 (n_ge (b := 24) (by omega) (by omega) (by omega)) ?_
    have e1 := e_24 hk (rfl : nI i = nI i)
    have e2 := e_24 hs (rfl : nI i = nI i)
    have c1 := qcl _ e1 (by omega)
    have c2 := qcl _ e2 (by omega)
    refine ⟨qin _ e1 (by omega) (by omega), ?_⟩
    refine ⟨qin _ e2 (by omega) (by omega), ?_⟩
    rw [c1, c2]
    refine qT (ih (i + 1) (by omega)) (by rw [← nI_1 i]; rfl) rfl ?_
    refine (mem_30 _ _ _ _).trans ?_
    rw [vu_vu, ← f_row_s]
    rfl
set_option maxRecDepth 8000 in
theorem tM_lay74 {s th k : Int32} (hs : qIn 0 4 s) (hok : okS (A 20)) (hg : f_good A th k) {y4 : Int32} {x5 x6 : Option Value} (h : Q (some (.int (A 26 s.toNatClampNeg))) (mem (f_layA A s.toNatClampNeg th k) F X)) : pz_T z0 KX10_lay Q 74 (0, 0) [some (.ref 69), some (.int s), some (.int th), some (.int k), some (.int y4), x5, x6] [] (mem A F X) := by
  obtain ⟨a1, a2, a3⟩ := qI (m := 5) hs (by omega)
  obtain ⟨n1, n2⟩ := hok.n
  unfold f_layA at h
  by_cases g1 : th = 1
  · subst g1
    have hk : qIn 0 ((f_n (A 20) : Int) - 1) k := by
      rcases hg with z | z | z | z
      · exact absurd z (by decide)
      · exact absurd z (by decide)
      · exact z.2
      · exact absurd z.1 (by decide)
    obtain ⟨b1, b2, b3⟩ := qI (m := 8) hk (by omega)
    rw [if_pos rfl, if_pos rfl, if_neg (by decide), if_neg (by decide)] at h
    refine pz_wp_ok (pz_Is_ok SX10_lay) [150] 100 ?_
    refine ⟨qin _ a1 a2 (by omega), ?_⟩
    refine ⟨qin _ a1 a2 (by omega), ?_⟩
    refine br2 (fun z => z rfl) ?_
    refine qC (cM_of (A := va_up A 26 (upd (A 26) s.toNatClampNeg 1)) (F := F) (X := X) (k := k.toNatClampNeg) (w := 0) b1 rfl b2 (by omega) ?_) rfl rfl
    refine ⟨qin _ a1 a2 (by omega), ?_⟩
    refine br2 (fun z => z rfl) ?_
    refine qC (cM_worth (A := va_up (va_up A 26 (upd (A 26) s.toNatClampNeg 1)) 27 (upd (A 27) s.toNatClampNeg (A 20 (118 + 3 * k.toNatClampNeg + 0)))) (F := F) (X := X) (k := k.toNatClampNeg) b1 b2 ?_) rfl rfl
    refine ⟨qin _ a1 a2 (by omega), ?_⟩
    refine br1 (by decide) ?_
    exact h
  · rw [if_neg g1, if_neg g1] at h
    by_cases g2 : th = 2
    · subst g2
      have hk : qIn 0 3 k := by
        rcases hg with z | z | z | z
        · exact absurd z (by decide)
        · exact absurd z (by decide)
        · exact absurd z.1 (by decide)
        · exact z.2
      obtain ⟨b1, b2, b3⟩ := qI (m := 4) hk (by omega)
      rw [if_pos rfl, if_pos rfl] at h
      refine pz_wp_ok (pz_Is_ok SX10_lay) [150] 100 ?_
      refine ⟨qin _ a1 a2 (by omega), ?_⟩
      refine ⟨qin _ a1 a2 (by omega), ?_⟩
      refine br1 (by decide) ?_
      refine ⟨qin _ a1 a2 (by omega), ?_⟩
      refine br1 (by decide) ?_
      refine ⟨qin _ a1 a2 (by omega), ?_⟩
      refine br2 (fun z => z rfl) ?_
      refine ⟨qin _ b1 b2 (by omega), ?_⟩
      refine ⟨qin _ a1 a2 (by omega), ?_⟩
      refine qT (tM_lay_l (A := va_up (va_up (va_up (va_up A 26 (upd (A 26) s.toNatClampNeg 2)) 27 (upd (A 27) s.toNatClampNeg k)) 28 (upd (A 28) s.toNatClampNeg 0)) 29 (upd (A 29) s.toNatClampNeg (A 24 k.toNatClampNeg))) (w := A 26 s.toNatClampNeg) a1 a2 b1 b2 h 24 0 (by omega)) rfl rfl ?_
      rw [f_row_0, vu_s]
      rfl
    · rw [if_neg g2, if_neg g2] at h
      refine pz_wp_ok (pz_Is_ok SX10_lay) [150] 100 ?_
      refine ⟨qin _ a1 a2 (by omega), ?_⟩
      refine ⟨qin _ a1 a2 (by omega), ?_⟩
      refine br1 g1 ?_
      refine ⟨qin _ a1 a2 (by omega), ?_⟩
      refine br1 g1 ?_
      refine ⟨qin _ a1 a2 (by omega), ?_⟩
      refine br1 g2 ?_
      exact h
set_option maxRecDepth 8000 in
theorem tM_lay41 {s th k : Int32} (hok : okS (A 20)) (hg : f_good A th k) (hb : ¬ qIn 0 4 s → Q (some (.int BAD)) (mem A F X)) (hn : qIn 0 4 s → th = 2 → A 23 k.toNatClampNeg < 0 → Q (some (.int (-1000000011))) (mem A F X)) (h : qIn 0 4 s → (th = 2 → ¬ A 23 k.toNatClampNeg < 0) → Q (some (.int (A 26 s.toNatClampNeg))) (mem (f_layA A s.toNatClampNeg th k) F X)) {x5 x6 : Option Value} : pz_T z0 KX10_lay Q 41 (0, 0) [some (.ref 69), some (.int s), some (.int th), some (.int k), some (.int 1), x5, x6] [] (mem A F X) := by
  refine pz_wp_ok (pz_Is_ok SX10_lay) [74] 100 ?_
  refine cM_isSlot (fun g => ?_) (fun g => ?_)
  · refine br2 (by decide) ?_
    refine br1 (by decide) ?_
    refine ⟨fun g2 => ?_, fun g2 => ?_⟩
    · have g2 : ¬ th = 2 := g2
      exact tM_lay74 g hok hg (h g (fun z => absurd z g2))
    · have g2 : th = 2 := g2
      have hk : qIn 0 3 k := by
        rcases hg with z | z | z | z
        · exact absurd (g2.symm.trans z) (by decide)
        · exact absurd (g2.symm.trans z) (by decide)
        · exact absurd (g2.symm.trans z.1) (by decide)
        · exact z.2
      obtain ⟨b1, b2, b3⟩ := qI (m := 4) hk (by omega)
      refine ⟨qin _ b1 b2 (by omega), ?_⟩
      refine ⟨fun g3 => ?_, fun g3 => ?_⟩
      · have g3 : (0 : Int32) ≤ A 23 k.toNatClampNeg := g3
        exact tM_lay74 g hok hg (h g (fun _ => i_nlt.mpr g3))
      · have g3 : ¬ (0 : Int32) ≤ A 23 k.toNatClampNeg := g3
        exact hn g g2 (i_nle.mp g3)
  · refine br1 (fun z => z rfl) ?_
    exact hb g
set_option maxRecDepth 8000 in
theorem tM_lay0 {s th k : Int32} (hb : Q (some (.int BAD)) (mem A F X)) {x5 x6 : Option Value} : pz_T z0 KX10_lay Q 41 (0, 0) [some (.ref 69), some (.int s), some (.int th), some (.int k), some (.int 0), x5, x6] [] (mem A F X) := by
  refine pz_wp_ok (pz_Is_ok SX10_lay) [74] 100 ?_
  refine cM_isSlot (fun g => ?_) (fun g => ?_)
  · refine br2 (by decide) ?_
    refine br2 (fun z => z rfl) ?_
    exact hb
  · refine br1 (fun z => z rfl) ?_
    exact hb
set_option maxRecDepth 8000 in
theorem cM_lay {s th k : Int32} (hok : okS (A 20)) (hb : ¬ (qIn 0 4 s ∧ f_good A th k) → Q (some (.int BAD)) (mem A F X)) (hn : qIn 0 4 s → th = 2 → qIn 0 3 k → A 23 k.toNatClampNeg < 0 → Q (some (.int (-1000000011))) (mem A F X)) (h : qIn 0 4 s → f_good A th k → (th = 2 → ¬ A 23 k.toNatClampNeg < 0) → Q (some (.int (A 26 s.toNatClampNeg))) (mem (f_layA A s.toNatClampNeg th k) F X)) : pz_C yX10_lay KX10_lay [.ref 69, .int s, .int th, .int k] (mem A F X) Q := by
  obtain ⟨n1, n2⟩ := hok.n
  have good : f_good A th k → ∀ x5 x6 : Option Value, pz_T z0 KX10_lay Q 41 (0, 0) [some (.ref 69), some (.int s), some (.int th), some (.int k), some (.int 1), x5, x6] [] (mem A F X) := fun hg x5 x6 => tM_lay41 hok hg (fun z => hb (fun y => z y.1)) (fun z1 z2 z3 => hn z1 z2 (by
    rcases hg with z | z | z | z
    · exact absurd (z2.symm.trans z) (by decide)
    · exact absurd (z2.symm.trans z) (by decide)
    · exact absurd (z2.symm.trans z.1) (by decide)
    · exact z.2) z3) (fun z => h z hg)
  refine pz_C_of rfl rfl rfl (Nat.le_of_ble_eq_true rfl) (pz_wp_ok (pz_Is_ok SX10_lay) [41] 100 ?_)
  refine ⟨fun g0 => ?_, fun g0 => ?_⟩
  · exact good (Or.inl g0) _ _
  have g0 : ¬ th = 0 := g0
  refine ⟨fun g3 => ?_, fun g3 => ?_⟩
  · exact good (Or.inr (Or.inl g3)) _ _
  have g3 : ¬ th = 3 := g3
  refine ⟨fun g1 => ?_, fun g1 => ?_⟩
  · have g1 : ¬ th = 1 := g1
    refine ⟨fun g2 => ?_, fun g2 => ?_⟩
    · have g2 : ¬ th = 2 := g2
      exact tM_lay0 (hb (fun z => z.2.elim g0 (fun y => y.elim g3 (fun y => y.elim (fun q => g1 q.1) (fun q => g2 q.1)))))
    · have g2 : th = 2 := g2
      refine cM_isSheet (fun g => ?_) (fun g => ?_)
      · refine br2 (by decide) ?_
        exact good (Or.inr (Or.inr (Or.inr ⟨g2, g⟩))) _ _
      · refine br1 (fun z => z rfl) ?_
        exact tM_lay0 (hb (fun z => z.2.elim g0 (fun y => y.elim g3 (fun y => y.elim (fun q => g1 q.1) (fun q => g q.2)))))
  · have g1 : th = 1 := g1
    refine cM_isEater n2 (by omega) (fun g => ?_) (fun g => ?_)
    · refine br1 (by decide) ?_
      exact good (Or.inr (Or.inr (Or.inl ⟨g1, g⟩))) _ _
    · refine br2 (fun z => z rfl) ?_
      refine ⟨fun g2 => ?_, fun g2 => ?_⟩
      · have g2 : ¬ th = 2 := g2
        exact tM_lay0 (hb (fun z => z.2.elim g0 (fun y => y.elim g3 (fun y => y.elim (fun q => g q.2) (fun q => g2 q.1)))))
      · have g2 : th = 2 := g2
        exact absurd (g1.symm.trans g2) (by decide)
/-- place, at, many within their rows -/
def f_cpok (p a m : Int32) (z1 z2 : Nat) : Prop := 0 ≤ p.toInt ∧ 0 ≤ a.toInt ∧ 0 ≤ m.toInt ∧ p.toInt + m.toInt ≤ (z1 : Int) ∧ a.toInt + m.toInt ≤ (z2 : Int)
set_option maxRecDepth 8000 in
theorem tM_copy2 {f t p a m : Int32} {tn an mn : Nat} {g : Nat → Int32} (ht : t = nI tn) (htn : tn < 4) (ha : a = nI an) (hm : m = nI mn) (hb : an + mn ≤ 24) (hg : ∀ j, j < mn → A 37 j = g j) (h : Q (some (.int m)) (mem (va_up A 25 (f_row mn (24 * tn + an) g (A 25))) F X)) : ∀ (d i : Nat), i + d = mn → pz_T z0 KX10_copy Q 150 (0, 0) [some (.ref 69), some (.int f), some (.int p), some (.int t), some (.int a), some (.int m), some (.int (nI i))] [] (mem (va_up A 25 (f_row i (24 * tn + an) g (A 25))) F X) := by
  intro d
  induction d with
  | zero =>
    intro i hi
    have hi : i = mn := by omega
    subst hi
    refine pz_wp_ok (pz_Is_ok SX10_copy) [150] 100 ?_
    refine br1 (fun z => z ?_) ?_
    · show m ≤ nI i
      rw [hm]
      exact nI_le (Nat.le_refl _) (by omega)
    exact h
  | succ d ih =>
    intro i hi
    refine pz_wp_ok (pz_Is_ok SX10_copy) [150] 100 ?_
    refine br2 (fun z => ?_) ?_
    · have z : m ≤ nI i := z
      rw [hm] at z
      exact n_ge (by omega) (by omega) (by omega) z
    have e : 24 * t + a + nI i = nI (24 * tn + an + i) := by
      rw [e_24 ht ha]; exact nI_add _ _
    have ce := qcl _ e (by omega)
    have ci := qcl (x := nI i) i rfl (by omega)
    refine ⟨qin i rfl (by omega) (by omega), ?_⟩
    refine ⟨qin _ e (by omega) (by omega), ?_⟩
    rw [ce, ci]
    refine qT (ih (i + 1) (by omega)) (by rw [← nI_1 i]; rfl) rfl ?_
    refine (mem_25 _ _ _ _).trans ?_
    rw [vu_vu, ← f_row_s, ← hg i (by omega)]
    rfl
set_option maxRecDepth 8000 in
theorem tM_copy1 {f t p a m : Int32} {fn pn tn an mn : Nat} (hf : f = nI fn) (hfn : fn < 4) (hp : p = nI pn) (ht : t = nI tn) (htn : tn < 4) (ha : a = nI an) (hm : m = nI mn) (hb1 : pn + mn ≤ 24) (hb : an + mn ≤ 24) (h : ∀ c : Nat → Int32, Q (some (.int m)) (mem (va_up (va_up A 37 c) 25 (f_row mn (24 * tn + an) (fun j => A 25 (24 * fn + pn + j)) (A 25))) F X)) : ∀ (d i : Nat), i + d = mn → ∀ c : Nat → Int32, (∀ j, j < i → c j = A 25 (24 * fn + pn + j)) → pz_T z0 KX10_copy Q 113 (0, 0) [some (.ref 69), some (.int f), some (.int p), some (.int t), some (.int a), some (.int m), some (.int (nI i))] [] (mem (va_up A 37 c) F X) := by
  intro d
  induction d with
  | zero =>
    intro i hi c hc
    have hi : i = mn := by omega
    subst hi
    refine pz_wp_ok (pz_Is_ok SX10_copy) [113, 150] 100 ?_
    refine br1 (fun z => z ?_) ?_
    · show m ≤ nI i
      rw [hm]
      exact nI_le (Nat.le_refl _) (by omega)
    refine qT (tM_copy2 (A := va_up A 37 c) (g := fun j => A 25 (24 * fn + pn + j)) ht htn ha hm hb hc (h c) i 0 (by omega)) rfl rfl ?_
    rw [f_row_0, vu_s]
  | succ d ih =>
    intro i hi c hc
    refine pz_wp_ok (pz_Is_ok SX10_copy) [113] 100 ?_
    refine br2 (fun z => ?_) ?_
    · have z : m ≤ nI i := z
      rw [hm] at z
      exact n_ge (by omega) (by omega) (by omega) z
    have e : 24 * f + p + nI i = nI (24 * fn + pn + i) := by
      rw [e_24 hf hp]; exact nI_add _ _
    have ce := qcl _ e (by omega)
    have ci := qcl (x := nI i) i rfl (by omega)
    refine ⟨qin _ e (by omega) (by omega), ?_⟩
    refine ⟨qin i rfl (by omega) (by omega), ?_⟩
    rw [ce, ci]
    refine qT (ih (i + 1) (by omega) (upd c i (A 25 (24 * fn + pn + i))) (fun j hj => ?_)) (by rw [← nI_1 i]; rfl) rfl ?_
    · by_cases hji : j = i
      · subst hji; exact upd_at _ _ _
      · rw [upd_ne _ _ hji]; exact hc j (by omega)
    · refine (mem_37 _ _ _ _).trans ?_
      rw [vu_vu]
      rfl
set_option maxRecDepth 8000 in
theorem cM_copy {f p t a m : Int32} (hT : okT A) (h1 : ¬ (qIn 0 3 f ∧ qIn 0 3 t) → Q (some (.int BAD)) (mem A F X)) (h2 : qIn 0 3 f → qIn 0 3 t → (A 23 f.toNatClampNeg < 0 ∨ A 23 t.toNatClampNeg < 0) → Q (some (.int (-1000000011))) (mem A F X)) (h3 : qIn 0 3 f → qIn 0 3 t → ¬ A 23 f.toNatClampNeg < 0 → ¬ A 23 t.toNatClampNeg < 0 → ¬ A 23 f.toNatClampNeg = A 23 t.toNatClampNeg → Q (some (.int (-1000000012))) (mem A F X))
    (h4 : qIn 0 3 f → qIn 0 3 t → ¬ A 23 f.toNatClampNeg < 0 → ¬ A 23 t.toNatClampNeg < 0 → A 23 f.toNatClampNeg = A 23 t.toNatClampNeg → ¬ f_cpok p a m (A 24 f.toNatClampNeg).toNatClampNeg (A 24 t.toNatClampNeg).toNatClampNeg → Q (some (.int (-1000000013))) (mem A F X))
    (h5 : qIn 0 3 f → qIn 0 3 t → ¬ A 23 f.toNatClampNeg < 0 → ¬ A 23 t.toNatClampNeg < 0 → A 23 f.toNatClampNeg = A 23 t.toNatClampNeg → f_cpok p a m (A 24 f.toNatClampNeg).toNatClampNeg (A 24 t.toNatClampNeg).toNatClampNeg → ∀ c : Nat → Int32, Q (some (.int m)) (mem (va_up (va_up A 37 c) 25 (f_row m.toNatClampNeg (24 * t.toNatClampNeg + a.toNatClampNeg) (fun j => A 25 (24 * f.toNatClampNeg + p.toNatClampNeg + j)) (A 25))) F X)) : pz_C yX10_copy KX10_copy [.ref 69, .int f, .int p, .int t, .int a, .int m] (mem A F X) Q := by
  refine pz_C_of rfl rfl rfl (Nat.le_of_ble_eq_true rfl) (pz_wp_ok (pz_Is_ok SX10_copy) [113] 100 ?_)
  refine cM_isSheet (fun g1 => ?_) (fun g1 => ?_)
  · refine br2 (by decide) ?_
    refine cM_isSheet (fun g2 => ?_) (fun g2 => ?_)
    · refine br1 (by decide) ?_
      have h2 := h2 g1 g2
      have h3 := h3 g1 g2
      have h4 := h4 g1 g2
      have h5 := h5 g1 g2
      obtain ⟨a1, a2, a3⟩ := qI (m := 4) g1 (by omega)
      obtain ⟨b1, b2, b3⟩ := qI (m := 4) g2 (by omega)
      obtain ⟨y1, z1, k1, q1⟩ := hT _ a2
      obtain ⟨y2, z2, k2, q2⟩ := hT _ b2
      have cz1 := qcl z1 q1 (by omega)
      have cz2 := qcl z2 q2 (by omega)
      have ez1 : (A 24 f.toNatClampNeg).toInt = (z1 : Int) := by rw [q1, nIi (by omega)]
      have ez2 : (A 24 t.toNatClampNeg).toInt = (z2 : Int) := by rw [q2, nIi (by omega)]
      rw [cz1, cz2] at h4 h5
      refine ⟨qin _ a1 a2 (by omega), ?_⟩
      refine ⟨fun g3 => ?_, fun g3 => ?_⟩
      · exact h2 (Or.inl g3)
      have g3 : ¬ A 23 f.toNatClampNeg < 0 := g3
      refine ⟨qin _ b1 b2 (by omega), ?_⟩
      refine ⟨fun g4 => ?_, fun g4 => ?_⟩
      · have g4 : (0 : Int32) ≤ A 23 t.toNatClampNeg := g4
        have g4 := i_nlt.mpr g4
        refine ⟨qin _ a1 a2 (by omega), ?_⟩
        refine ⟨qin _ b1 b2 (by omega), ?_⟩
        refine ⟨fun g5 => ?_, fun g5 => ?_⟩
        · have h4 := h4 g3 g4 g5
          have h5 := h5 g3 g4 g5
          have zz : ∀ x : Int32, x < 0 ↔ x.toInt < 0 := fun x => i_lt x 0
          refine ⟨fun g6 => ?_, fun g6 => ?_⟩
          · exact h4 (fun z => by have := (zz _).mp g6; have := z.1; omega)
          have g6 : ¬ p < 0 := g6
          rw [zz] at g6
          refine ⟨fun g7 => ?_, fun g7 => ?_⟩
          · exact h4 (fun z => by have := (zz _).mp g7; have := z.2.1; omega)
          have g7 : ¬ a < 0 := g7
          rw [zz] at g7
          refine ⟨fun g8 => ?_, fun g8 => ?_⟩
          · exact h4 (fun z => by have := (zz _).mp g8; have := z.2.2.1; omega)
          have g8 : ¬ m < 0 := g8
          rw [zz] at g8
          refine ⟨qin _ a1 a2 (by omega), ?_⟩
          refine ⟨fun g9 => ?_, fun g9 => ?_⟩
          · have g9 := (lg_sum p m (A 24 f.toNatClampNeg)).mp g9
            exact h4 (fun z => by have := z.2.2.2.1; omega)
          have g9 : ¬ (A 24 f.toNatClampNeg).toInt < p.toInt + m.toInt := fun z => g9 ((lg_sum p m (A 24 f.toNatClampNeg)).mpr z)
          refine ⟨qin _ b1 b2 (by omega), ?_⟩
          refine ⟨fun g10 => ?_, fun g10 => ?_⟩
          · have g10 : ¬ (A 24 t.toNatClampNeg).toInt < a.toInt + m.toInt := fun z => by
              have z := (lg_sum a m (A 24 t.toNatClampNeg)).mpr z
              have g10 : lg_cmp (a.toInt64 + m.toInt64) (A 24 t.toNatClampNeg).toInt64 ≤ 0 := g10
              rw [i_lt] at z
              rw [i_le] at g10
              omega
            have h5 := h5 ⟨by omega, by omega, by omega, by omega, by omega⟩
            obtain ⟨p1, p2, p3⟩ := qI (x := p) (hi := 24) (m := 25) ⟨by omega, by omega⟩ (by omega)
            obtain ⟨r1, r2, r3⟩ := qI (x := a) (hi := 24) (m := 25) ⟨by omega, by omega⟩ (by omega)
            obtain ⟨s1, s2, s3⟩ := qI (x := m) (hi := 24) (m := 25) ⟨by omega, by omega⟩ (by omega)
            have ep : p.toInt = p.toNatClampNeg := by
              generalize p.toNatClampNeg = q at p1 p3 ⊢
              rw [p1, nIi p3]
            have ea : a.toInt = a.toNatClampNeg := by
              generalize a.toNatClampNeg = q at r1 r3 ⊢
              rw [r1, nIi r3]
            have em : m.toInt = m.toNatClampNeg := by
              generalize m.toNatClampNeg = q at s1 s3 ⊢
              rw [s1, nIi s3]
            have := tM_copy1 (A := A) (Q := Q) (F := F) (X := X) a1 a2 p1 b1 b2 r1 s1 (by omega) (by omega) h5 m.toNatClampNeg 0 (by omega) (A 37) (fun j hj => by omega)
            rw [vu_s] at this
            exact this
          · have g10 : ¬ lg_cmp (a.toInt64 + m.toInt64) (A 24 t.toNatClampNeg).toInt64 ≤ 0 := g10
            have g10 := (lg_sum a m (A 24 t.toNatClampNeg)).mp (i_nle.mp g10)
            exact h4 (fun z => by have := z.2.2.2.2; omega)
        · exact h3 g3 g4 g5
      · have g4 : ¬ (0 : Int32) ≤ A 23 t.toNatClampNeg := g4
        exact h2 (Or.inr (i_nle.mp g4))
    · refine br2 (fun z => z rfl) ?_
      exact h1 (fun z => g2 z.2)
  · refine br1 (fun z => z rfl) ?_
    exact h1 (fun z => g1 z.1)
end MOD
