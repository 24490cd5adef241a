/-! the reference: stood, lay, copy -/
def f_dif (row t : Nat → Int32) : Nat → Int32
  | 0 => 0
  | k + 1 => f_dif row t k + (if row k = -1000000005 then 0 else if row k < t (82 + k) then t (82 + k) - row k else row k - t (82 + k))
def f_stt (t : Nat → Int32) (n c : Nat) : Nat → Int32 := f_it n (upd (upd t 3 (nI c)) 4 1)
def f_stv (row t : Nat → Int32) (sz n c : Nat) : Int32 := f_dif row (f_stt t n c) sz
def f_std (row t : Nat → Int32) (sz n : Nat) : Nat → Int32 × Int32
  | 0 => (-1, 0)
  | c + 1 => if (f_std row t sz n c).1 < 0 ∨ f_stv row t sz n c < (f_std row t sz n c).2 then (nI c, f_stv row t sz n c) else f_std row t sz n c
def f_pikk (w : Int32) (x : Int32 × Int32) : Int32 := if w = 0 then x.1 else x.2
def s_stood (A : qA) (s n w : Int32) : Int32 := if qIn 0 3 s ∧ qIn 0 20 n ∧ qIn 0 1 w then (if A 23 s.toNatClampNeg < 0 then -1000000011 else f_pikk w (f_std (fun j => A 25 (24 * s.toNatClampNeg + j)) (A 20) (A 24 s.toNatClampNeg).toNatClampNeg n.toNatClampNeg 36)) else BAD
theorem okS_st {t : Nat → Int32} (h : okS t) {c : Nat} (hc : c < 36) : okS (upd (upd t 3 (nI c)) 4 1) := by
  obtain ⟨o1, o2, o3, o4, o5, o6⟩ := h
  have e : ∀ j, j ≠ 3 → j ≠ 4 → upd (upd t 3 (nI c)) 4 1 j = t j := fun j h1 h2 => by rw [upd_ne _ _ h2, upd_ne _ _ h1]
  refine ⟨by rw [e 0 (by omega) (by omega)]; exact o1, okTxs_congr (e 1 (by omega) (by omega)) (fun j hj => e j (by omega) (by omega)) o2, ⟨c, hc, by rw [upd_ne _ _ (by omega), upd_at]⟩, Or.inr (upd_at _ _ _), by rw [e 8 (by omega) (by omega)]; exact o5, fun k hk => by rw [e _ (by omega) (by omega)]; exact o6 k hk⟩
/-- n elements of f lie from o on -/
def f_row (n o : Nat) (f g : Nat → Int32) : Nat → Int32 := fun j => if o ≤ j ∧ j < o + n then f (j - o) else g j
theorem f_row_0 (o : Nat) (f g : Nat → Int32) : f_row 0 o f g = g := by
  funext j
  exact if_neg (by omega)
theorem f_row_s (n o : Nat) (f g : Nat → Int32) : upd (f_row n o f g) (o + n) (f n) = f_row (n + 1) o f g := by
  funext j
  unfold upd f_row
  by_cases h : j = o + n
  · subst h
    rw [if_pos rfl, if_pos (by omega)]
    congr 1
    omega
  · rw [if_neg h]
    by_cases h2 : o ≤ j ∧ j < o + n
    · rw [if_pos h2, if_pos (by omega)]
    · rw [if_neg h2, if_neg (by omega)]
section MOD
variable {A A1 : qA} {F : qF} {X : qX} {Q : pz_Q} {M : pz_M}
set_option maxRecDepth 8000 in
theorem tM_stood_i {s : Int32} {sn z : Nat} (hs : s = nI sn) (hsn : sn < 4) (hz : A 24 sn = nI z) (hz2 : z ≤ 24) {b2 b3 b4 b5 : Option Value} {c6 : Int32} (h : ∀ x8 x9 : Option Value, pz_T z0 KX10_stood Q 149 (0, 0) [some (.ref 69), some (.int s), b2, b3, b4, b5, some (.int c6), some (.int (f_dif (fun j => A 25 (24 * sn + j)) (A 20) z)), x8, x9] [] (mem A F X)) : ∀ (d k : Nat), k + d = z → ∀ x9 : Option Value, pz_T z0 KX10_stood Q 91 (0, 0) [some (.ref 69), some (.int s), b2, b3, b4, b5, some (.int c6), some (.int (f_dif (fun j => A 25 (24 * sn + j)) (A 20) k)), some (.int (nI k)), x9] [] (mem A F X) := by
  have cs := qcl sn hs (by omega)
  have hz' : A 24 s.toNatClampNeg = nI z := by rw [cs]; exact hz
  intro d
  induction d with
  | zero =>
    intro k hk x9
    have hk : k = z := by omega
    subst hk
    refine pz_wp_ok (pz_Is_ok SX10_stood) [91, 149] 100 ?_
    refine ⟨qin sn hs (by omega) (by omega), ?_⟩
    refine br1 (fun z => z ?_) (h _ _)
    show A 24 s.toNatClampNeg ≤ nI k
    rw [hz']
    exact nI_le (by omega) (by omega)
  | succ d ih =>
    intro k hk x9
    refine pz_wp_ok (pz_Is_ok SX10_stood) [91, 149] 100 ?_
    refine ⟨qin sn hs (by omega) (by omega), ?_⟩
    refine br2 (fun z => ?_) ?_
    · have z : A 24 s.toNatClampNeg ≤ nI k := z
      rw [hz'] at z
      exact n_ge (by omega) (by omega) (by omega) z
    have e := e_24 hs (rfl : nI k = nI k)
    have ce := qcl _ e (by omega)
    refine ⟨qin _ e (by omega) (by omega), ?_⟩
    have ek : nI k + 1 = nI (k + 1) := nI_1 k
    have er : A 25 (24 * s + nI k).toNatClampNeg = A 25 (24 * sn + k) := by rw [ce]
    have ih' := ih (k + 1) (by omega) (some (.int (A 25 (24 * sn + k))))
    rw [f_dif] at ih'
    generalize f_dif (fun j => A 25 (24 * sn + j)) (A 20) k = sm at ih' ⊢
    refine ⟨fun g => ?_, fun g => ?_⟩
    · have g : ¬ A 25 (24 * s + nI k).toNatClampNeg = -1000000005 := g
      rw [er] at g
      rw [if_neg g] at ih'
      refine cM_parts rfl (by omega) ?_
      refine cM_off ?_
      refine qT ih' ?_ rfl rfl
      rw [← ek, ← er]
      rfl
    · have g : A 25 (24 * s + nI k).toNatClampNeg = -1000000005 := g
      rw [er] at g
      rw [if_pos g] at ih'
      refine qT ih' ?_ rfl rfl
      rw [← ek, ← er]
      rfl
set_option maxRecDepth 8000 in
theorem tM_stood {s n w : Int32} {sn nn z : Nat} (hs : s = nI sn) (hsn : sn < 4) (hn : n = nI nn) (hnn : nn < 2147483648) (hz : A 24 sn = nI z) (hz2 : z ≤ 24) (hok : okS (A 20)) (h : ∀ A' : qA, qag [33, 35, 36] A A' → Q (some (.int (f_pikk w (f_std (fun j => A 25 (24 * sn + j)) (A 20) z nn 36)))) (mem A' F X)) : ∀ (d k : Nat), k + d = 36 → ∀ A1 : qA, qby A A1 → A1 20 = A 20 → ∀ x7 x8 x9 : Option Value, pz_T z0 KX10_stood Q 58 (0, 0) [some (.ref 69), some (.int s), some (.int n), some (.int w), some (.int (f_std (fun j => A 25 (24 * sn + j)) (A 20) z nn k).1), some (.int (f_std (fun j => A 25 (24 * sn + j)) (A 20) z nn k).2), some (.int (nI k)), x7, x8, x9] [] (mem A1 F X) := by
  intro d
  induction d with
  | zero =>
    intro k hk A1 hb e1 x7 x8 x9
    have hk : k = 36 := by omega
    subst hk
    generalize f_std (fun j => A 25 (24 * sn + j)) (A 20) z nn 36 = w0 at h ⊢
    unfold f_pikk at h
    refine pz_wp_ok (pz_Is_ok SX10_stood) [58] 100 ?_
    refine br1 (fun z => z (nI_le (Nat.le_refl _) (by omega))) ?_
    refine ⟨fun g => ?_, fun g => ?_⟩
    · have g : ¬ w = 0 := g
      rw [if_neg g] at h
      exact h A1 (hb.end e1)
    · have g : w = 0 := g
      rw [if_pos g] at h
      exact h A1 (hb.end e1)
  | succ d ih =>
    intro k hk A1 hb e1 x7 x8 x9
    refine pz_wp_ok (pz_Is_ok SX10_stood) [58, 91] 100 ?_
    refine br2 (n_ge (b := 36) (by omega) (by omega) (by omega)) ?_
    refine ⟨qin 3 rfl (by omega) (by omega), ?_⟩
    refine ⟨qin 4 rfl (by omega) (by omega), ?_⟩
    refine qC (cM_many' (A := A) (A1 := va_up A1 20 (upd (upd (A1 20) 3 (nI k)) 4 1)) hn hnn ?_ (by rw [vu_at, e1]; exact okS_st hok (by omega)) (fun A2 hb2 e2 => ?_)) rfl rfl
    · have := (hb.up (k := 3) (v := nI k) (by omega)).up (k := 4) (v := 1) (by omega)
      rw [vu_at, vu_vu] at this
      exact this
    rw [vu_at, e1] at e2
    have e24 : A2 24 sn = nI z := by rw [hb2.1 24 (by simp)]; exact hz
    have e25 : A2 25 = A 25 := hb2.1 25 (by simp)
    have ev : f_dif (fun j => A2 25 (24 * sn + j)) (A2 20) z = f_stv (fun j => A 25 (24 * sn + j)) (A 20) z nn k := by rw [e2, e25]; rfl
    refine tM_stood_i (A := A2) hs hsn e24 hz2 (fun y8 y9 => ?_) z 0 (by omega) x9
    rw [ev]
    refine pz_wp_ok (pz_Is_ok SX10_stood) [58] 100 ?_
    refine cM_laysBack' hb2 (fun A3 hb3 e3 => ?_)
    have ek : nI k + 1 = nI (k + 1) := nI_1 k
    have hw : f_std (fun j => A 25 (24 * sn + j)) (A 20) z nn (k + 1) = if (f_std (fun j => A 25 (24 * sn + j)) (A 20) z nn k).1 < 0 ∨ f_stv (fun j => A 25 (24 * sn + j)) (A 20) z nn k < (f_std (fun j => A 25 (24 * sn + j)) (A 20) z nn k).2 then (nI k, f_stv (fun j => A 25 (24 * sn + j)) (A 20) z nn k) else f_std (fun j => A 25 (24 * sn + j)) (A 20) z nn k := rfl
    have ih' := ih (k + 1) (by omega) A3 hb3 e3 (some (.int (f_stv (fun j => A 25 (24 * sn + j)) (A 20) z nn k))) y8 y9
    rw [← ek] at ih'
    generalize f_std (fun j => A 25 (24 * sn + j)) (A 20) z nn (k + 1) = w1 at hw ih'
    generalize f_std (fun j => A 25 (24 * sn + j)) (A 20) z nn k = w0 at hw ⊢
    generalize f_stv (fun j => A 25 (24 * sn + j)) (A 20) z nn k = v at hw ih' ⊢
    refine ⟨fun g => ?_, fun g => ?_⟩
    · have g : w0.1 < 0 := g
      rw [if_pos (Or.inl g)] at hw
      subst hw
      exact ih'
    · have g : ¬ w0.1 < 0 := g
      refine ⟨fun g2 => ?_, fun g2 => ?_⟩
      · have g2 : w0.2 ≤ v := g2
        have g3 : ¬ v < w0.2 := fun z => by rw [i_lt] at z; rw [i_le] at g2; omega
        rw [if_neg (fun z => z.elim g g3)] at hw
        subst hw
        exact ih'
      · have g2 : ¬ w0.2 ≤ v := g2
        have g3 : v < w0.2 := by rw [i_lt]; rw [i_le] at g2; omega
        rw [if_pos (Or.inr g3)] at hw
        subst hw
        exact ih'
set_option maxRecDepth 8000 in
theorem cM_stood {s n w : Int32} (hT : okT A) (hok : okS (A 20)) (h : ∀ A' : qA, qag [33, 35, 36] A A' → Q (some (.int (s_stood A s n w))) (mem A' F X)) : pz_C yX10_stood KX10_stood [.ref 69, .int s, .int n, .int w] (mem A F X) Q := by
  refine pz_C_of rfl rfl rfl (Nat.le_of_ble_eq_true rfl) (pz_wp_ok (pz_Is_ok SX10_stood) [58] 100 ?_)
  unfold s_stood at h
  refine cM_isSheet (fun g1 => ?_) (fun g1 => ?_)
  · refine br2 (by decide) ?_
    refine cM_isIn3 0 20 rfl rfl (fun g2 => ?_) (fun g2 => ?_)
    · refine br2 (by decide) ?_
      refine cM_isIn3 0 1 rfl rfl (fun g3 => ?_) (fun g3 => ?_)
      · refine br1 (by decide) ?_
        rw [if_pos ⟨g1, g2, g3⟩] at h
        obtain ⟨a1, a2, a3⟩ := qI (m := 4) g1 (by omega)
        obtain ⟨b1, b2, b3⟩ := qI (m := 21) g2 (by omega)
        obtain ⟨c1, z, c2, c3⟩ := hT s.toNatClampNeg a2
        have cz := qcl z c3 (by omega)
        refine ⟨qin _ a1 a2 (by omega), ?_⟩
        refine ⟨fun g => ?_, fun g => ?_⟩
        · have g : (0 : Int32) ≤ A 23 s.toNatClampNeg := g
          rw [if_neg (i_nlt.mpr g), cz] at h
          refine cM_laysBy' (fun A1 hb e1 => ?_)
          exact tM_stood a1 a2 b1 (by omega) c3 c2 hok h 36 0 (by omega) A1 hb e1 none none none
        · have g : ¬ (0 : Int32) ≤ A 23 s.toNatClampNeg := g
          rw [if_pos (i_nle.mp g)] at h
          exact h A (qag.refl _ A)
      · refine br2 (fun z => z rfl) ?_
        rw [if_neg (fun z => g3 z.2.2)] at h
        exact h A (qag.refl _ A)
    · refine br1 (fun z => z rfl) ?_
      rw [if_neg (fun z => g2 z.2.1)] at h
      exact h A (qag.refl _ A)
  · refine br1 (fun z => z rfl) ?_
    rw [if_neg (fun z => g1 z.1)] at h
    exact h A (qag.refl _ A)
end MOD
