/-! the reference: mark, pour, reads -/
def okT (A : qA) : Prop := ∀ k, k < 4 → (A 23 k = -1 ∨ A 23 k = 0 ∨ A 23 k = 1) ∧ ∃ n, n ≤ 24 ∧ A 24 k = nI n
def v_mark (so : Int32) (sz : Nat) (p v : Int32) : Int32 × Option Int32 := if so < 0 then (-1000000011, none) else if ¬ qIn 0 ((sz : Int) - 1) p then (-1000000013, none) else if so = 0 ∧ v = -1000000005 then (-1000000012, none) else if so = 1 ∧ ¬ v = -1000000005 ∧ ¬ qIn (-99999) 99999 v then (BAD, none) else (1, some (if so = 0 then v <<< (16 &&& 31) >>> (16 &&& 31) else v))
def o_up (f : Nat → Int32) (k : Nat) (o : Option Int32) : Nat → Int32 := match o with
  | none => f
  | some v => upd f k v
def s_mark (A : qA) (s p v : Int32) : Int32 × (Nat → Int32) := if qIn 0 3 s then ((v_mark (A 23 s.toNatClampNeg) (A 24 s.toNatClampNeg).toNatClampNeg p v).1, o_up (A 25) (24 * s.toNatClampNeg + p.toNatClampNeg) (v_mark (A 23 s.toNatClampNeg) (A 24 s.toNatClampNeg).toNatClampNeg p v).2) else (BAD, A 25)
def f_is (row t : Nat → Int32) (k : Nat) : Int32 := if row k = -1000000005 then t (10 + k) else f_w (row k) 20
def f_pr (row t : Nat → Int32) : Nat → Int32 × (Nat → Int32)
  | 0 => (0, t)
  | k + 1 => ((f_pr row t k).1 + (if f_is row (f_pr row t k).2 k = (f_pr row t k).2 (10 + k) then 0 else 1), upd (f_pr row t k).2 (10 + k) (f_is row (f_pr row t k).2 k))
def s_pour (A : qA) (s : Int32) : Int32 × (Nat → Int32) := if qIn 0 3 s then (if A 23 s.toNatClampNeg < 0 then (-1000000011, A 20) else f_pr (fun j => A 25 (24 * s.toNatClampNeg + j)) (A 20) (A 24 s.toNatClampNeg).toNatClampNeg) else (BAD, A 20)
def f_rd (row t : Nat → Int32) : Nat → Nat → Int32
  | 0, _ => -1000000005
  | d + 1, k => if ¬ row k = -1000000005 ∧ ¬ row k = t (82 + k) then nI k else f_rd row t d (k + 1)
def s_reads (A : qA) (s : Int32) : Int32 := if qIn 0 3 s then (if A 23 s.toNatClampNeg < 0 then -1000000011 else f_rd (fun j => A 25 (24 * s.toNatClampNeg + j)) (A 20) (A 24 s.toNatClampNeg).toNatClampNeg 0) else BAD
theorem e_24 {s p : Int32} {sn pn : Nat} (a1 : s = nI sn) (b1 : p = nI pn) : (24 : Int32) * s + p = nI (24 * sn + pn) := by
  subst a1
  subst b1
  rw [show (24 : Int32) * nI sn = nI (24 * sn) from pk_mul 24 sn]
  exact nI_add _ _
section MOD
variable {A A1 : qA} {F : qF} {X : qX} {Q : pz_Q} {M : pz_M}
set_option maxRecDepth 8000 in
theorem tM_reads {s : Int32} {sn n : Nat} (hs : s = nI sn) (hsn : sn < 4) (hz : A 24 sn = nI n) (hn : n ≤ 24) {r : Int32} (h : Q (some (.int r)) (mem A F X)) : ∀ (d k : Nat), k + d = n → r = f_rd (fun j => A 25 (24 * sn + j)) (A 20) d k → ∀ x3 : Option Value, pz_T z0 KX10_reads Q 25 (0, 0) [some (.ref 69), some (.int s), some (.int (nI k)), x3] [] (mem A F X) := by
  have cs := qcl sn hs (by omega)
  have hz' : A 24 s.toNatClampNeg = nI n := by rw [cs]; exact hz
  intro d
  induction d with
  | zero =>
    intro k hk hr x3
    refine pz_wp_ok (pz_Is_ok SX10_reads) [25] 100 ?_
    refine ⟨qin sn hs (by omega) (by omega), ?_⟩
    refine br1 (fun z => z ?_) ?_
    · show A 24 s.toNatClampNeg ≤ nI k
      rw [hz']
      exact nI_le (by omega) (by omega)
    · subst hr
      exact h
  | succ d ih =>
    intro k hk hr x3
    rw [f_rd] at hr
    refine pz_wp_ok (pz_Is_ok SX10_reads) [25] 100 ?_
    refine ⟨qin sn hs (by omega) (by omega), ?_⟩
    refine br2 (fun z => ?_) ?_
    · have z : A 24 s.toNatClampNeg ≤ nI k := z
      rw [hz'] at z
      exact n_ge (by omega) (by omega) (by omega) z
    · have e := e_24 hs (rfl : nI k = nI k)
      have ce := qcl _ e (by omega)
      refine ⟨qin _ e (by omega) (by omega), ?_⟩
      have ek : nI k + 1 = nI (k + 1) := nI_1 k
      have er : A 25 (24 * s + nI k).toNatClampNeg = A 25 (24 * sn + k) := by rw [ce]
      refine ⟨fun g => ?_, fun g => ?_⟩
      · have g : A 25 (24 * s + nI k).toNatClampNeg = -1000000005 := g
        rw [er] at g
        rw [if_neg (fun z => z.1 g)] at hr
        refine qT (ih (k + 1) (by omega) hr (some (.int (A 25 (24 * s + nI k).toNatClampNeg)))) ?_ rfl rfl
        rw [← ek]
        rfl
      · have g : ¬ A 25 (24 * s + nI k).toNatClampNeg = -1000000005 := g
        rw [er] at g
        refine cM_parts rfl (by omega) ?_
        refine ⟨fun g2 => ?_, fun g2 => ?_⟩
        · have g2 : A 25 (24 * s + nI k).toNatClampNeg = A 20 (82 + k) := g2
          rw [er] at g2
          rw [if_neg (fun z => z.2 g2)] at hr
          refine qT (ih (k + 1) (by omega) hr (some (.int (A 25 (24 * s + nI k).toNatClampNeg)))) ?_ rfl rfl
          rw [← ek]
          rfl
        · have g2 : ¬ A 25 (24 * s + nI k).toNatClampNeg = A 20 (82 + k) := g2
          rw [er] at g2
          rw [if_pos ⟨g, g2⟩] at hr
          subst hr
          exact h
set_option maxRecDepth 8000 in
theorem cM_reads {s : Int32} (hT : okT A) (h : Q (some (.int (s_reads A s))) (mem A F X)) : pz_C yX10_reads KX10_reads [.ref 69, .int s] (mem A F X) Q := by
  refine pz_C_of rfl rfl rfl (Nat.le_of_ble_eq_true rfl) (pz_wp_ok (pz_Is_ok SX10_reads) [25] 100 ?_)
  unfold s_reads at h
  refine cM_isSheet (fun g1 => ?_) (fun g1 => ?_)
  · refine br1 (by decide) ?_
    rw [if_pos g1] at h
    obtain ⟨a1, a2, a3⟩ := qI (m := 4) g1 (by omega)
    obtain ⟨t1, n, t2, t3⟩ := hT _ a2
    refine ⟨qin _ a1 (by omega) (by omega), ?_⟩
    refine ⟨fun g => ?_, fun g => ?_⟩
    · have g : 0 ≤ A 23 s.toNatClampNeg := g
      rw [if_neg (i_nlt.mpr g)] at h
      have cn := qcl n t3 (by omega)
      rw [cn] at h
      exact tM_reads a1 a2 t3 t2 h n 0 (by omega) rfl none
    · have g : ¬ 0 ≤ A 23 s.toNatClampNeg := g
      rw [if_pos (i_nle.mp g)] at h
      exact h
  · refine br2 (fun z => z rfl) ?_
    rw [if_neg g1] at h
    exact h
set_option maxRecDepth 8000 in
theorem tM_pour {s : Int32} {sn n : Nat} (hs : s = nI sn) (hsn : sn < 4) (hz : A 24 sn = nI n) (hn : n ≤ 24) (h : Q (some (.int (f_pr (fun j => A 25 (24 * sn + j)) (A 20) n).1)) (mem (va_up A 20 (f_pr (fun j => A 25 (24 * sn + j)) (A 20) n).2) F X)) : ∀ (d k : Nat), k + d = n → ∀ x4 x5 : Option Value, pz_T z0 KX10_pour Q 27 (0, 0) [some (.ref 69), some (.int s), some (.int (f_pr (fun j => A 25 (24 * sn + j)) (A 20) k).1), some (.int (nI k)), x4, x5] [] (mem (va_up A 20 (f_pr (fun j => A 25 (24 * sn + j)) (A 20) k).2) F X) := by
  have cs := qcl sn hs (by omega)
  have hz' : A 24 s.toNatClampNeg = nI n := by rw [cs]; exact hz
  intro d
  induction d with
  | zero =>
    intro k hk x4 x5
    have hk : k = n := by omega
    subst hk
    refine pz_wp_ok (pz_Is_ok SX10_pour) [27] 100 ?_
    refine ⟨qin sn hs (by omega) (by omega), ?_⟩
    refine br1 (fun z => z ?_) h
    show A 24 s.toNatClampNeg ≤ nI k
    rw [hz']
    exact nI_le (by omega) (by omega)
  | succ d ih =>
    intro k hk x4 x5
    have ih' := ih (k + 1) (by omega)
    have hp : f_pr (fun j => A 25 (24 * sn + j)) (A 20) (k + 1) = ((f_pr (fun j => A 25 (24 * sn + j)) (A 20) k).1 + (if f_is (fun j => A 25 (24 * sn + j)) (f_pr (fun j => A 25 (24 * sn + j)) (A 20) k).2 k = (f_pr (fun j => A 25 (24 * sn + j)) (A 20) k).2 (10 + k) then 0 else 1), upd (f_pr (fun j => A 25 (24 * sn + j)) (A 20) k).2 (10 + k) (f_is (fun j => A 25 (24 * sn + j)) (f_pr (fun j => A 25 (24 * sn + j)) (A 20) k).2 k)) := rfl
    rw [hp] at ih'
    clear hp ih h
    generalize f_pr (fun j => A 25 (24 * sn + j)) (A 20) k = σ at ih' ⊢
    obtain ⟨a, t⟩ := σ
    dsimp only at ih' ⊢
    unfold f_is at ih'
    refine pz_wp_ok (pz_Is_ok SX10_pour) [27] 100 ?_
    refine ⟨qin sn hs (by omega) (by omega), ?_⟩
    refine br2 (fun z => ?_) ?_
    · have z : A 24 s.toNatClampNeg ≤ nI k := z
      rw [hz'] at z
      exact n_ge (by omega) (by omega) (by omega) z
    refine br2 (n_ge (b := 36) (by omega) (by omega) (by omega)) ?_
    have e := e_24 hs (rfl : nI k = nI k)
    have ce := qcl _ e (by omega)
    refine ⟨qin _ e (by omega) (by omega), ?_⟩
    have ek : nI k + 1 = nI (k + 1) := nI_1 k
    have er : A 25 (24 * s + nI k).toNatClampNeg = A 25 (24 * sn + k) := by rw [ce]
    have e10 : (10 : Int32) + nI k = nI (10 + k) := nI_add 10 k
    have c10 := qcl _ e10 (by omega)
    rw [← ek] at ih'
    refine ⟨fun g => ?_, fun g => ?_⟩
    · have g : ¬ A 25 (24 * s + nI k).toNatClampNeg = -1000000005 := g
      rw [er] at g
      rw [if_neg g] at ih'
      refine cM_within ?_
      refine cM_becomes (n := 10 + k) e10 (by omega) ?_
      rw [vu_at, vu_vu]
      have ew : f_w (A 25 (24 * s + nI k).toNatClampNeg) 20 = f_w (A 25 (24 * sn + k)) 20 := by rw [er]
      refine ⟨fun g2 => ?_, fun g2 => ?_⟩
      · have g2 : ¬ f_w (A 25 (24 * s + nI k).toNatClampNeg) 20 = t (10 + k) := g2
        rw [ew] at g2
        rw [if_neg g2] at ih'
        refine qT (ih' (some (.int (A 25 (24 * s + nI k).toNatClampNeg))) (some (.int (f_w (A 25 (24 * s + nI k).toNatClampNeg) 20)))) rfl rfl ?_
        show mem (va_up A 20 (upd t (10 + k) (f_w (A 25 (24 * s + nI k).toNatClampNeg) 20))) F X = mem (va_up A 20 (upd t (10 + k) (f_w (A 25 (24 * sn + k)) 20))) F X
        rw [er]
      · have g2 : f_w (A 25 (24 * s + nI k).toNatClampNeg) 20 = t (10 + k) := g2
        rw [ew] at g2
        rw [if_pos g2] at ih'
        refine qT (ih' (some (.int (A 25 (24 * s + nI k).toNatClampNeg))) (some (.int (f_w (A 25 (24 * s + nI k).toNatClampNeg) 20)))) rfl rfl ?_
        show mem (va_up A 20 (upd t (10 + k) (f_w (A 25 (24 * s + nI k).toNatClampNeg) 20))) F X = mem (va_up A 20 (upd t (10 + k) (f_w (A 25 (24 * sn + k)) 20))) F X
        rw [er]
    · have g : A 25 (24 * s + nI k).toNatClampNeg = -1000000005 := g
      rw [er] at g
      rw [if_pos g] at ih'
      refine ⟨qin _ e10 (by omega) (by omega), ?_⟩
      refine cM_becomes (n := 10 + k) e10 (by omega) ?_
      rw [vu_at, vu_vu]
      have et : t ((10 : Int32) + nI k).toNatClampNeg = t (10 + k) := by rw [c10]
      rw [if_pos rfl] at ih'
      refine br2 (fun z => z et) ?_
      refine qT (ih' (some (.int (A 25 (24 * s + nI k).toNatClampNeg))) (some (.int (t ((10 : Int32) + nI k).toNatClampNeg)))) rfl rfl ?_
      rw [← et]
set_option maxRecDepth 8000 in
theorem cM_pour {s : Int32} (hT : okT A) (h : Q (some (.int (s_pour A s).1)) (mem (va_up A 20 (s_pour A s).2) F X)) : pz_C yX10_pour KX10_pour [.ref 69, .int s] (mem A F X) Q := by
  refine pz_C_of rfl rfl rfl (Nat.le_of_ble_eq_true rfl) (pz_wp_ok (pz_Is_ok SX10_pour) [27] 100 ?_)
  unfold s_pour at h
  refine cM_isSheet (fun g1 => ?_) (fun g1 => ?_)
  · refine br1 (by decide) ?_
    rw [if_pos g1] at h
    obtain ⟨a1, a2, a3⟩ := qI (m := 4) g1 (by omega)
    obtain ⟨t1, n, t2, t3⟩ := hT _ a2
    refine ⟨qin _ a1 (by omega) (by omega), ?_⟩
    refine ⟨fun g => ?_, fun g => ?_⟩
    · have g : 0 ≤ A 23 s.toNatClampNeg := g
      rw [if_neg (i_nlt.mpr g)] at h
      have cn := qcl n t3 (by omega)
      rw [cn] at h
      have hh := tM_pour a1 a2 t3 t2 h n 0 (by omega) none none
      rw [f_pr, vu_s] at hh
      exact hh
    · have g : ¬ 0 ≤ A 23 s.toNatClampNeg := g
      rw [if_pos (i_nle.mp g), vu_s] at h
      exact h
  · refine br2 (fun z => z rfl) ?_
    rw [if_neg g1, vu_s] at h
    exact h
end MOD
