/-! the pot's reader: the grammar -/
def xag (X0 : qX) (i : Nat) (X : qX) : Prop := X.1 = X0.1 ∧ X.2.1 = X0.2.1 ∧ X.2.2.1 = X0.2.2.1 ∧ ∀ j, j ≠ i → X.2.2.2.1 j = X0.2.2.2.1 j ∧ X.2.2.2.2 j = X0.2.2.2.2 j
def pB (F0 : qF) (X0 : qX) (i : Nat) (F : qF) (X : qX) : Prop := qagF [3, 4, 5, 6, 7] F0 F ∧ xag X0 i X ∧ ∃ m, m ≤ 96 ∧ X.2.2.2.2 i 0 = nI m
/-- the pot's memory says the state of a reading -/
def pP (F0 : qF) (X0 : qX) (i n key : Nat) (F : qF) (X : qX) (x : kS) (dp tn : Nat) : Prop := qagF [3, 4, 5, 6, 7] F0 F ∧ xag X0 i X ∧ rR F n x.1 ∧ F 6 = nI dp ∧ F 7 = nI tn ∧ X.2.2.2.2 i 0 = nI x.2.2.length ∧ X.2.2.2.2 i 1 = nI key ∧ X.2.2.2.2 i 2 = nI x.2.1 ∧ ∀ k p, x.2.2[k]? = some p → X.2.2.2.1 i k = encS key p.1 p.2
def pG (A : qA) (X0 : qX) (T : Nat → Int32) (i n key : Nat) : Prop := rT (A 5) T n ∧ n ≤ 96 ∧ key < 3 ∧ i ≤ X0.2.2.1 ∧ X0.2.1 = xr i
def pC (y : MethodName) (K : pz_K) (A : qA) (F0 : qF) (X0 : qX) (T : Nat → Int32) (i n key : Nat) (p : kS → kQ) (dp tn : Nat) : Prop := ∀ (F : qF) (X : qX) (x : kS) (Q : pz_Q), pP F0 X0 i n key F X x dp tn → k_ok T n x.1 → x.2.2.length ≤ x.1.2.1 → (∀ (F' : qF) (X' : qX) (y : kS), p x = .inl y → pP F0 X0 i n key F' X' y dp tn → Q (some (.int 1)) (mem A F' X')) → (∀ (F' : qF) (X' : qX) (e : Nat), p x = .inr e → pB F0 X0 i F' X' → F' 4 = nI e → Q (some (.int 0)) (mem A F' X')) → pz_C y K [.ref 36] (mem A F X) Q
theorem rR_ag {F F' : qF} {n : Nat} {x : Nat × Nat × Nat} (h : rR F n x) (hF : ∀ j, 2 ≤ j → j ≤ 5 → F' j = F j) : rR F' n x := by
  obtain ⟨h1, h2, h3, h4⟩ := h
  exact ⟨by rw [hF 2 (by omega) (by omega)]; exact h1, by rw [hF 3 (by omega) (by omega)]; exact h2, by rw [hF 4 (by omega) (by omega)]; exact h3, by rw [hF 5 (by omega) (by omega)]; exact h4⟩
section PGRAM
variable {A : qA} {F0 F : qF} {X0 X : qX} {Q : pz_Q} {T : Nat → Int32} {i n key dp tn : Nat} {x : kS}
theorem pP.d (hG : pG A X0 T i n key) (hP : pP F0 X0 i n key F X x dp tn) : X.2.1 = xr i ∧ i ≤ X.2.2.1 := by
  obtain ⟨-, ⟨x1, x2, x3, -⟩, -⟩ := hP
  exact ⟨by rw [x2]; exact hG.2.2.2.2, by rw [x3]; exact hG.2.2.2.1⟩
theorem pB.d (hG : pG A X0 T i n key) (hP : pB F0 X0 i F X) : X.2.1 = xr i ∧ i ≤ X.2.2.1 := by
  obtain ⟨-, ⟨x1, x2, x3, -⟩, -⟩ := hP
  exact ⟨by rw [x2]; exact hG.2.2.2.2, by rw [x3]; exact hG.2.2.2.1⟩
theorem xag_up {g f : Nat → Int32} (h : xag X0 i X) : xag X0 i (xF (xC X i g) i f) := by
  obtain ⟨x1, x2, x3, x4⟩ := h
  refine ⟨x1, x2, x3, fun j hj => ?_⟩
  exact ⟨(vu_ne _ _ hj).trans (x4 j hj).1, (vu_ne _ _ hj).trans (x4 j hj).2⟩
theorem xag_uf {f : Nat → Int32} (h : xag X0 i X) : xag X0 i (xF X i f) := by
  obtain ⟨x1, x2, x3, x4⟩ := h
  exact ⟨x1, x2, x3, fun j hj => ⟨(x4 j hj).1, (vu_ne _ _ hj).trans (x4 j hj).2⟩⟩
theorem pP.toB (hn : n ≤ 96) (hP : pP F0 X0 i n key F X x dp tn) (hl : x.2.2.length ≤ 96) : pB F0 X0 i F X := ⟨hP.1, hP.2.1, _, hl, hP.2.2.2.2.2.1⟩
theorem pP_add {w v c : Int32} (hG : pG A X0 T i n key) (hP : pP F0 X0 i n key F X x dp tn) (hl : x.2.2.length ≤ 95) (hc : c = encS key w v) (h : ∀ X' : qX, pP F0 X0 i n key F X' (k_ad x w v) dp tn → Q none (mem A F X')) : pz_C yX6_adds KX6_adds [.ref X.2.1, .int c] (mem A F X) Q := by
  obtain ⟨d1, d2⟩ := hP.d hG
  obtain ⟨a1, a2, a3, a4, a5, a6, a7, a8, a9⟩ := hP
  rw [d1]
  refine cX_adds d2 (by omega) a6 (fun _ => h _ ⟨a1, xag_up a2, a3, a4, a5, ?_, ?_, ?_, fun k p hk => ?_⟩) (fun z => by omega)
  · rw [xF_at, upd_at]
    show _ = nI (x.2.2 ++ [(w, v)]).length
    rw [List.length_append, List.length_singleton]
  · rw [xF_at, upd_ne _ _ (by omega)]; exact a7
  · rw [xF_at, upd_ne _ _ (by omega)]; exact a8
  · have e : (xF (xC X i (upd (X.2.2.2.1 i) x.2.2.length c)) i (upd (X.2.2.2.2 i) 0 (nI (x.2.2.length + 1)))).2.2.2.1 i = upd (X.2.2.2.1 i) x.2.2.length c := vu_at _ _ _
    rw [e]
    rcases k_get_app hk with ⟨k1, k2⟩ | ⟨k1, k2⟩
    · rw [upd_ne _ _ (by omega)]; exact a9 k p k2
    · subst k1
      subst k2
      rw [upd_at]; exact hc
theorem pB_add {c : Int32} (hG : pG A X0 T i n key) (hP : pB F0 X0 i F X) (h : ∀ X' : qX, pB F0 X0 i F X' → Q none (mem A F X')) : pz_C yX6_adds KX6_adds [.ref X.2.1, .int c] (mem A F X) Q := by
  obtain ⟨d1, d2⟩ := hP.d hG
  obtain ⟨a1, a2, m, m1, m2⟩ := hP
  rw [d1]
  exact cX_adds d2 m1 m2 (fun z => h _ ⟨a1, xag_up a2, m + 1, by omega, by rw [xF_at, upd_at]⟩) (fun z => h _ ⟨a1, a2, m, m1, m2⟩)
theorem pP_next (hG : pG A X0 T i n key) (hP : pP F0 X0 i n key F X x dp tn) (hk : k_ok T n x.1) (h : ∀ F' : qF, pP F0 X0 i n key F' X (k_nx T n x) dp tn → Q none (mem A F' X)) : pz_C yX3_goesOn KX3_goesOn [.ref 36] (mem A F X) Q := by
  obtain ⟨a1, a2, ⟨r1, r2, r3, r4⟩, a4, a5, a6⟩ := hP
  refine cR_goesOn (srt := x.1.1) (e := x.1.2.2) hG.1 hG.2.1 hk.2.1 hk.2.2.1 r1 r2 r4 (fun F' hF hR => h F' ⟨a1.trans (fun j hj => hF j (by simp at hj ⊢; omega)), a2, hR, ?_, ?_, a6⟩)
  · rw [hF 6 (by simp)]; exact a4
  · rw [hF 7 (by simp)]; exact a5
theorem pP_sign {c : Int32} (hG : pG A X0 T i n key) (hP : pP F0 X0 i n key F X x dp tn) (hk : k_ok T n x.1) (hc : qIn 0 127 c) (h1 : x.1.1 = 3 ∧ T x.1.2.1 = c → Q (some (.int 1)) (mem A F X)) (h0 : ¬ (x.1.1 = 3 ∧ T x.1.2.1 = c) → Q (some (.int 0)) (mem A F X)) : pz_C yX3_isSign KX3_isSign [.ref 36, .int c] (mem A F X) Q := cR_isSign hG.1 hG.2.1 hP.2.2.1 hk hc h1 h0
theorem pP_dp {v : Int32} {d' : Nat} (hv : v = nI d') (hP : pP F0 X0 i n key F X x dp tn) : pP F0 X0 i n key (upd F 6 v) X x d' tn := by
  obtain ⟨a1, a2, a3, a4, a5, a6⟩ := hP
  exact ⟨a1.trans (qagF.up (by simp)), a2, rR_ag a3 (fun j h1 h2 => upd_ne _ _ (by omega)), by rw [upd_at]; exact hv, by rw [upd_ne _ _ (by omega)]; exact a5, a6⟩
theorem pP_tn {v : Int32} {t' : Nat} (hv : v = nI t') (hP : pP F0 X0 i n key F X x dp tn) : pP F0 X0 i n key (upd F 7 v) X x dp t' := by
  obtain ⟨a1, a2, a3, a4, a5, a6⟩ := hP
  exact ⟨a1.trans (qagF.up (by simp)), a2, rR_ag a3 (fun j h1 h2 => upd_ne _ _ (by omega)), by rw [upd_ne _ _ (by omega)]; exact a4, by rw [upd_at]; exact hv, a6⟩
theorem pB_up {v : Int32} {k : Nat} (hk : k = 6 ∨ k = 7) (hP : pB F0 X0 i F X) : pB F0 X0 i (upd F k v) X := ⟨hP.1.trans (qagF.up (by rcases hk with e | e <;> subst e <;> simp)), hP.2⟩
theorem pP_byte (hG : pG A X0 T i n key) (hP : pP F0 X0 i n key F X x dp tn) (hk : k_ok T n x.1) (h3 : x.1.1 = 3) (hc : qIn 0 127 (T x.1.2.1)) : F 4 = nI x.1.2.1 ∧ x.1.2.1 < 96 ∧ A 5 (F 4).toNatClampNeg = T x.1.2.1 := by
  have hlt := hk.2.2.2.1 (by omega)
  have h2 := hk.2.1
  have hn := hG.2.1
  have r3 := hP.2.2.1.2.2.1
  have cs := qcl _ r3 (by omega)
  refine ⟨r3, by omega, ?_⟩
  rw [cs, hG.1.1 _ (by omega)]
  exact b_letter hc
set_option maxRecDepth 8000 in
theorem tP_readsOr0 {dr j : Nat} (hj : j ≤ 96) {A : qA} {F : qF} {X : qX} (h : Q (some (.int 0)) (mem A F X)) : pz_T z0 (KX3_readsOr (dr + 1)) Q 7 (0, 0) [some (.ref 36), some (.int 0), some (.int (nI j))] [] (mem A F X) := by
  refine pz_wp_ok (pz_Is_ok (SX3_readsOr dr)) [] 100 ?_
  refine ⟨fun _ => ⟨Or.inl rfl, h⟩, fun _ => ?_⟩
  exact br1 (fun z => z rfl) ⟨Or.inl rfl, h⟩
set_option maxRecDepth 8000 in
theorem tP_readsOr (hG : pG A X0 T i n key) {dr : Nat} {p : kS → kQ} (hp : k_sub T n key p) (hc : pC yX3_readsAnd (KX3_readsAnd dr) A F0 X0 T i n key p dp tn) : ∀ (d j : Nat), j + d = 96 → ∀ (x : kS) (F : qF) (X : qX), pP F0 X0 i n key F X x dp tn → k_ok T n x.1 → x.2.2.length ≤ x.1.2.1 → (∀ (F' : qF) (X' : qX) (y : kS), k_loop T n p ok_or d x = .inl y → pP F0 X0 i n key F' X' y dp tn → Q (some (.int 1)) (mem A F' X')) → (∀ (F' : qF) (X' : qX) (e : Nat), k_loop T n p ok_or d x = .inr e → pB F0 X0 i F' X' → F' 4 = nI e → Q (some (.int 0)) (mem A F' X')) → pz_T z0 (KX3_readsOr (dr + 1)) Q 7 (0, 0) [some (.ref 36), some (.int 1), some (.int (nI j))] [] (mem A F X) := by
  have hn := hG.2.1
  intro d
  induction d with
  | zero =>
    intro j hj x F X hP hk hl h1 h0
    have hj : j = 96 := by omega
    subst hj
    refine pz_wp_ok (pz_Is_ok (SX3_readsOr dr)) [7] 100 ?_
    refine br1 (fun z => z (nI_le (Nat.le_refl _) (by omega))) ?_
    exact ⟨Or.inr rfl, h1 F X x rfl hP⟩
  | succ d ih =>
    intro j hj x F X hP hk hl h1 h0
    obtain ⟨a1, a2⟩ := k_ok_nx hk
    have al := k_nx_len hk hl
    have ej : nI j + 1 = nI (j + 1) := nI_1 j
    refine pz_wp_ok (pz_Is_ok (SX3_readsOr dr)) [7, 41] 100 ?_
    refine br2 (n_ge (b := 96) (by omega) (by omega) (by omega)) ?_
    refine br2 (by decide) ?_
    refine pP_sign hG hP hk ⟨by decide, by decide⟩ (fun g => ?_) (fun g => ?_)
    · refine br2 (by decide) ?_
      have hin : k_in T x ok_or = true := k_in_i.mpr ⟨g.1, decide_eq_true g.2⟩
      refine pP_next hG hP hk (fun F1 hP1 => ?_)
      refine hc F1 X _ _ hP1 a1 al (fun F2 X2 y hy hP2 => ?_) (fun F2 X2 e he hB hb => ?_)
      · obtain ⟨r1, r2, r3, r4⟩ := k_room hp hk hl g.1 hy
        obtain ⟨d1, d2⟩ := hP2.d hG
        refine pz_T_cv0 (r := X2.2.1) (S' := []) (pz_Is_ok (SX3_readsOr dr) (41, pz_cv0 yX6_adds KX6_adds 4 2 44) (List.mem_of_getElem? (i := 22) rfl)) rfl (mem_xd d1 d2) rfl ?_
        refine pP_add (w := 2) (v := 124) hG hP2 (by omega) rfl (fun X3 hP3 => ?_)
        have hL := k_loop_l (d := d) hin hy
        rw [g.2] at hL
        rw [hL] at h1 h0
        refine pz_wp_ok (pz_Is_ok (SX3_readsOr dr)) [7] 100 ?_
        have ih' := ih (j + 1) (by omega) (k_ad y 2 124) F2 X3 hP3 r1 (by show (y.2.2 ++ [_]).length ≤ y.1.2.1; rw [List.length_append, List.length_singleton]; exact r3) h1 h0
        exact qT ih' (by rw [← ej]; rfl) rfl rfl
      · obtain ⟨d1, d2⟩ := hB.d hG
        refine pz_T_cv0 (r := X2.2.1) (S' := []) (pz_Is_ok (SX3_readsOr dr) (41, pz_cv0 yX6_adds KX6_adds 4 2 44) (List.mem_of_getElem? (i := 22) rfl)) rfl (mem_xd d1 d2) rfl ?_
        refine pB_add hG hB (fun X3 hB3 => ?_)
        refine pz_wp_ok (pz_Is_ok (SX3_readsOr dr)) [7] 100 ?_
        exact qT (tP_readsOr0 (j := j + 1) (by omega) (h0 F2 X3 e (k_loop_r hin he) hB3 hb)) (by rw [← ej]; rfl) rfl rfl
    · refine br1 (fun z => z rfl) ?_
      exact ⟨Or.inr rfl, h1 F X x (k_loop_no (fun z => g ⟨(k_in_i.mp z).1, of_decide_eq_true (k_in_i.mp z).2⟩) _) hP⟩
set_option maxRecDepth 8000 in
theorem cP_readsOr (hG : pG A X0 T i n key) {dr : Nat} {p : kS → kQ} (hp : k_sub T n key p) (hc : pC yX3_readsAnd (KX3_readsAnd dr) A F0 X0 T i n key p dp tn) : pC yX3_readsOr (KX3_readsOr (dr + 1)) A F0 X0 T i n key (k_chain T n 96 ok_or p) dp tn := by
  intro F X x Q hP hk hl h1 h0
  refine pz_C_of rfl rfl rfl (Nat.le_of_ble_eq_true rfl) (pz_wp_ok (pz_Is_ok (SX3_readsOr dr)) [7] 100 ?_)
  refine hc F X x _ hP hk hl (fun F2 X2 y hy hP2 => ?_) (fun F2 X2 e he hB hb => ?_)
  · obtain ⟨r1, r2, r3, r4⟩ := k_room0 hp hk hl hy
    rw [k_chain_l hy] at h1 h0
    exact tP_readsOr hG hp hc 96 0 (by omega) y F2 X2 hP2 r1 r3 h1 h0
  · exact tP_readsOr0 (j := 0) (by omega) (h0 F2 X2 e (k_chain_r he) hB hb)
set_option maxRecDepth 8000 in
theorem tP_readsAnd0 {dr j : Nat} (hj : j ≤ 96) {A : qA} {F : qF} {X : qX} (h : Q (some (.int 0)) (mem A F X)) : pz_T z0 (KX3_readsAnd (dr + 1)) Q 7 (0, 0) [some (.ref 36), some (.int 0), some (.int (nI j))] [] (mem A F X) := by
  refine pz_wp_ok (pz_Is_ok (SX3_readsAnd dr)) [] 100 ?_
  refine ⟨fun _ => ⟨Or.inl rfl, h⟩, fun _ => ?_⟩
  exact br1 (fun z => z rfl) ⟨Or.inl rfl, h⟩
set_option maxRecDepth 8000 in
theorem tP_readsAnd (hG : pG A X0 T i n key) {dr : Nat} {p : kS → kQ} (hp : k_sub T n key p) (hc : pC yX3_readsTest (KX3_readsTest dr) A F0 X0 T i n key p dp tn) : ∀ (d j : Nat), j + d = 96 → ∀ (x : kS) (F : qF) (X : qX), pP F0 X0 i n key F X x dp tn → k_ok T n x.1 → x.2.2.length ≤ x.1.2.1 → (∀ (F' : qF) (X' : qX) (y : kS), k_loop T n p ok_and d x = .inl y → pP F0 X0 i n key F' X' y dp tn → Q (some (.int 1)) (mem A F' X')) → (∀ (F' : qF) (X' : qX) (e : Nat), k_loop T n p ok_and d x = .inr e → pB F0 X0 i F' X' → F' 4 = nI e → Q (some (.int 0)) (mem A F' X')) → pz_T z0 (KX3_readsAnd (dr + 1)) Q 7 (0, 0) [some (.ref 36), some (.int 1), some (.int (nI j))] [] (mem A F X) := by
  have hn := hG.2.1
  intro d
  induction d with
  | zero =>
    intro j hj x F X hP hk hl h1 h0
    have hj : j = 96 := by omega
    subst hj
    refine pz_wp_ok (pz_Is_ok (SX3_readsAnd dr)) [7] 100 ?_
    refine br1 (fun z => z (nI_le (Nat.le_refl _) (by omega))) ?_
    exact ⟨Or.inr rfl, h1 F X x rfl hP⟩
  | succ d ih =>
    intro j hj x F X hP hk hl h1 h0
    obtain ⟨a1, a2⟩ := k_ok_nx hk
    have al := k_nx_len hk hl
    have ej : nI j + 1 = nI (j + 1) := nI_1 j
    refine pz_wp_ok (pz_Is_ok (SX3_readsAnd dr)) [7, 41] 100 ?_
    refine br2 (n_ge (b := 96) (by omega) (by omega) (by omega)) ?_
    refine br2 (by decide) ?_
    refine pP_sign hG hP hk ⟨by decide, by decide⟩ (fun g => ?_) (fun g => ?_)
    · refine br2 (by decide) ?_
      have hin : k_in T x ok_and = true := k_in_i.mpr ⟨g.1, decide_eq_true g.2⟩
      refine pP_next hG hP hk (fun F1 hP1 => ?_)
      refine hc F1 X _ _ hP1 a1 al (fun F2 X2 y hy hP2 => ?_) (fun F2 X2 e he hB hb => ?_)
      · obtain ⟨r1, r2, r3, r4⟩ := k_room hp hk hl g.1 hy
        obtain ⟨d1, d2⟩ := hP2.d hG
        refine pz_T_cv0 (r := X2.2.1) (S' := []) (pz_Is_ok (SX3_readsAnd dr) (41, pz_cv0 yX6_adds KX6_adds 4 2 44) (List.mem_of_getElem? (i := 22) rfl)) rfl (mem_xd d1 d2) rfl ?_
        refine pP_add (w := 2) (v := 38) hG hP2 (by omega) rfl (fun X3 hP3 => ?_)
        have hL := k_loop_l (d := d) hin hy
        rw [g.2] at hL
        rw [hL] at h1 h0
        refine pz_wp_ok (pz_Is_ok (SX3_readsAnd dr)) [7] 100 ?_
        have ih' := ih (j + 1) (by omega) (k_ad y 2 38) F2 X3 hP3 r1 (by show (y.2.2 ++ [_]).length ≤ y.1.2.1; rw [List.length_append, List.length_singleton]; exact r3) h1 h0
        exact qT ih' (by rw [← ej]; rfl) rfl rfl
      · obtain ⟨d1, d2⟩ := hB.d hG
        refine pz_T_cv0 (r := X2.2.1) (S' := []) (pz_Is_ok (SX3_readsAnd dr) (41, pz_cv0 yX6_adds KX6_adds 4 2 44) (List.mem_of_getElem? (i := 22) rfl)) rfl (mem_xd d1 d2) rfl ?_
        refine pB_add hG hB (fun X3 hB3 => ?_)
        refine pz_wp_ok (pz_Is_ok (SX3_readsAnd dr)) [7] 100 ?_
        exact qT (tP_readsAnd0 (j := j + 1) (by omega) (h0 F2 X3 e (k_loop_r hin he) hB3 hb)) (by rw [← ej]; rfl) rfl rfl
    · refine br1 (fun z => z rfl) ?_
      exact ⟨Or.inr rfl, h1 F X x (k_loop_no (fun z => g ⟨(k_in_i.mp z).1, of_decide_eq_true (k_in_i.mp z).2⟩) _) hP⟩
set_option maxRecDepth 8000 in
theorem cP_readsAnd (hG : pG A X0 T i n key) {dr : Nat} {p : kS → kQ} (hp : k_sub T n key p) (hc : pC yX3_readsTest (KX3_readsTest dr) A F0 X0 T i n key p dp tn) : pC yX3_readsAnd (KX3_readsAnd (dr + 1)) A F0 X0 T i n key (k_chain T n 96 ok_and p) dp tn := by
  intro F X x Q hP hk hl h1 h0
  refine pz_C_of rfl rfl rfl (Nat.le_of_ble_eq_true rfl) (pz_wp_ok (pz_Is_ok (SX3_readsAnd dr)) [7] 100 ?_)
  refine hc F X x _ hP hk hl (fun F2 X2 y hy hP2 => ?_) (fun F2 X2 e he hB hb => ?_)
  · obtain ⟨r1, r2, r3, r4⟩ := k_room0 hp hk hl hy
    rw [k_chain_l hy] at h1 h0
    exact tP_readsAnd hG hp hc 96 0 (by omega) y F2 X2 hP2 r1 r3 h1 h0
  · exact tP_readsAnd0 (j := 0) (by omega) (h0 F2 X2 e (k_chain_r he) hB hb)
set_option maxRecDepth 8000 in
theorem cP_readsTest (hG : pG A X0 T i n key) {dr : Nat} {p : kS → kQ} (hp : k_sub T n key p) (hc : pC yX3_readsSum (KX3_readsSum dr) A F0 X0 T i n key p dp tn) : pC yX3_readsTest (KX3_readsTest (dr + 1)) A F0 X0 T i n key (k_chain T n 1 ok_cmp p) dp tn := by
  intro F0' X0' x0 Q hP0 hk0 hl0 h1 h0
  have hn := hG.2.1
  refine pz_C_of rfl rfl rfl (Nat.le_of_ble_eq_true rfl) (pz_wp_ok (pz_Is_ok (SX3_readsTest dr)) [36] 100 ?_)
  refine hc F0' X0' x0 _ hP0 hk0 hl0 (fun F X x hx hP => ?_) (fun F2 X2 e he hB hb => ?_)
  · obtain ⟨hk, r2, hl, r4⟩ := k_room0 hp hk0 hl0 hx
    rw [k_chain_l hx] at h1 h0
    obtain ⟨a1, a2⟩ := k_ok_nx hk
    have al := k_nx_len hk hl
    refine br2 (by decide) ?_
    have go : x.1.1 = 3 → (T x.1.2.1 = 60 ∨ T x.1.2.1 = 61 ∨ T x.1.2.1 = 62) → ∀ x2 : Option Value, pz_T z0 (KX3_readsTest (dr + 1)) Q 36 (0, 0) [some (.ref 36), some (.int 1), x2] [] (mem A F X) := fun g3 gc x2 => by
      have hin : k_in T x ok_cmp = true := k_in_i.mpr ⟨g3, decide_eq_true gc⟩
      have hc7 : qIn 0 127 (T x.1.2.1) := by rcases gc with e | e | e <;> rw [e] <;> exact ⟨by decide, by decide⟩
      obtain ⟨q1, q2, q3⟩ := pP_byte hG hP hk g3 hc7
      refine pz_wp_ok (pz_Is_ok (SX3_readsTest dr)) [61] 100 ?_
      refine ⟨qin _ q1 (by omega) (by omega), ?_⟩
      rw [q3]
      refine pP_next hG hP hk (fun F1 hP1 => ?_)
      refine hc F1 X _ _ hP1 a1 al (fun F2 X2 y hy hP2 => ?_) (fun F2 X2 e he hB hb => ?_)
      · obtain ⟨r1, r2, r3, r4⟩ := k_room hp hk hl g3 hy
        obtain ⟨d1, d2⟩ := hP2.d hG
        refine pz_T_cv0 (r := X2.2.1) (S' := []) (pz_Is_ok (SX3_readsTest dr) (61, pz_cv0 yX6_adds KX6_adds 4 2 64) (List.mem_of_getElem? (i := 32) rfl)) rfl (mem_xd d1 d2) rfl ?_
        refine pP_add (w := 2) (v := T x.1.2.1) hG hP2 (by omega) rfl (fun X3 hP3 => ?_)
        rw [k_loop_l hin hy] at h1 h0
        refine pz_wp_ok (pz_Is_ok (SX3_readsTest dr)) [] 100 ?_
        exact ⟨Or.inr rfl, h1 F2 X3 _ rfl hP3⟩
      · obtain ⟨d1, d2⟩ := hB.d hG
        refine pz_T_cv0 (r := X2.2.1) (S' := []) (pz_Is_ok (SX3_readsTest dr) (61, pz_cv0 yX6_adds KX6_adds 4 2 64) (List.mem_of_getElem? (i := 32) rfl)) rfl (mem_xd d1 d2) rfl ?_
        refine pB_add hG hB (fun X3 hB3 => ?_)
        refine pz_wp_ok (pz_Is_ok (SX3_readsTest dr)) [] 100 ?_
        exact ⟨Or.inl rfl, h0 F2 X3 e (k_loop_r hin he) hB3 hb⟩
    refine pP_sign hG hP hk ⟨by decide, by decide⟩ (fun g => ?_) (fun g => ?_)
    · refine br1 (by decide) ?_
      exact go g.1 (Or.inl g.2) _
    refine br2 (fun z => z rfl) ?_
    refine pP_sign hG hP hk ⟨by decide, by decide⟩ (fun g' => ?_) (fun g' => ?_)
    · refine br1 (by decide) ?_
      exact go g'.1 (Or.inr (Or.inl g'.2)) _
    refine br2 (fun z => z rfl) ?_
    refine pP_sign hG hP hk ⟨by decide, by decide⟩ (fun g'' => ?_) (fun g'' => ?_)
    · refine br2 (by decide) ?_
      exact go g''.1 (Or.inr (Or.inr g''.2)) _
    refine br1 (fun z => z rfl) ?_
    exact ⟨Or.inr rfl, h1 F X x (k_loop_no (fun z => (of_decide_eq_true (k_in_i.mp z).2).elim (fun q => g ⟨(k_in_i.mp z).1, q⟩) (fun q => q.elim (fun q => g' ⟨(k_in_i.mp z).1, q⟩) (fun q => g'' ⟨(k_in_i.mp z).1, q⟩))) _) hP⟩
  · refine br1 (fun z => z rfl) ?_
    exact ⟨Or.inl rfl, h0 F2 X2 e (k_chain_r he) hB hb⟩
set_option maxRecDepth 8000 in
theorem tP_readsSum0 {dr j : Nat} (hj : j ≤ 96) {x3 : Option Value} {A : qA} {F : qF} {X : qX} (h : Q (some (.int 0)) (mem A F X)) : pz_T z0 (KX3_readsSum (dr + 1)) Q 7 (0, 0) [some (.ref 36), some (.int 0), some (.int (nI j)), x3] [] (mem A F X) := by
  refine pz_wp_ok (pz_Is_ok (SX3_readsSum dr)) [] 100 ?_
  refine ⟨fun _ => ⟨Or.inl rfl, h⟩, fun _ => ?_⟩
  exact br1 (fun z => z rfl) ⟨Or.inl rfl, h⟩
set_option maxRecDepth 8000 in
theorem tP_readsSum (hG : pG A X0 T i n key) {dr : Nat} {p : kS → kQ} (hp : k_sub T n key p) (hc : pC yX3_readsTerm (KX3_readsTerm dr) A F0 X0 T i n key p dp tn) : ∀ (d j : Nat), j + d = 96 → ∀ (x : kS) (F : qF) (X : qX) (x3 : Option Value), pP F0 X0 i n key F X x dp tn → k_ok T n x.1 → x.2.2.length ≤ x.1.2.1 → (∀ (F' : qF) (X' : qX) (y : kS), k_loop T n p ok_sum d x = .inl y → pP F0 X0 i n key F' X' y dp tn → Q (some (.int 1)) (mem A F' X')) → (∀ (F' : qF) (X' : qX) (e : Nat), k_loop T n p ok_sum d x = .inr e → pB F0 X0 i F' X' → F' 4 = nI e → Q (some (.int 0)) (mem A F' X')) → pz_T z0 (KX3_readsSum (dr + 1)) Q 7 (0, 0) [some (.ref 36), some (.int 1), some (.int (nI j)), x3] [] (mem A F X) := by
  have hn := hG.2.1
  intro d
  induction d with
  | zero =>
    intro j hj x F X x3 hP hk hl h1 h0
    have hj : j = 96 := by omega
    subst hj
    refine pz_wp_ok (pz_Is_ok (SX3_readsSum dr)) [7] 100 ?_
    refine br1 (fun z => z (nI_le (Nat.le_refl _) (by omega))) ?_
    exact ⟨Or.inr rfl, h1 F X x rfl hP⟩
  | succ d ih =>
    intro j hj x F X x3 hP hk hl h1 h0
    obtain ⟨a1, a2⟩ := k_ok_nx hk
    have al := k_nx_len hk hl
    have ej : nI j + 1 = nI (j + 1) := nI_1 j
    have go : x.1.1 = 3 → (T x.1.2.1 = 43 ∨ T x.1.2.1 = 45) → pz_T z0 (KX3_readsSum (dr + 1)) Q 35 (0, 0) [some (.ref 36), some (.int 1), some (.int (nI j)), x3] [] (mem A F X) := fun g3 gc => by
      have hin : k_in T x ok_sum = true := k_in_i.mpr ⟨g3, decide_eq_true gc⟩
      have hc7 : qIn 0 127 (T x.1.2.1) := by rcases gc with e | e <;> rw [e] <;> exact ⟨by decide, by decide⟩
      obtain ⟨q1, q2, q3⟩ := pP_byte hG hP hk g3 hc7
      refine pz_wp_ok (pz_Is_ok (SX3_readsSum dr)) [7, 60] 100 ?_
      refine ⟨qin _ q1 (by omega) (by omega), ?_⟩
      rw [q3]
      refine pP_next hG hP hk (fun F1 hP1 => ?_)
      refine hc F1 X _ _ hP1 a1 al (fun F2 X2 y hy hP2 => ?_) (fun F2 X2 e he hB hb => ?_)
      · obtain ⟨r1, r2, r3, r4⟩ := k_room hp hk hl g3 hy
        obtain ⟨d1, d2⟩ := hP2.d hG
        refine pz_T_cv0 (r := X2.2.1) (S' := []) (pz_Is_ok (SX3_readsSum dr) (60, pz_cv0 yX6_adds KX6_adds 4 2 63) (List.mem_of_getElem? (i := 33) rfl)) rfl (mem_xd d1 d2) rfl ?_
        refine pP_add (w := 2) (v := (T x.1.2.1)) hG hP2 (by omega) rfl (fun X3 hP3 => ?_)
        have hL := k_loop_l (d := d) hin hy
        skip
        rw [hL] at h1 h0
        refine pz_wp_ok (pz_Is_ok (SX3_readsSum dr)) [7] 100 ?_
        have ih' := ih (j + 1) (by omega) (k_ad y 2 (T x.1.2.1)) F2 X3 (some (.int (T x.1.2.1))) hP3 r1 (by show (y.2.2 ++ [_]).length ≤ y.1.2.1; rw [List.length_append, List.length_singleton]; exact r3) h1 h0
        exact qT ih' (by rw [← ej]; rfl) rfl rfl
      · obtain ⟨d1, d2⟩ := hB.d hG
        refine pz_T_cv0 (r := X2.2.1) (S' := []) (pz_Is_ok (SX3_readsSum dr) (60, pz_cv0 yX6_adds KX6_adds 4 2 63) (List.mem_of_getElem? (i := 33) rfl)) rfl (mem_xd d1 d2) rfl ?_
        refine pB_add hG hB (fun X3 hB3 => ?_)
        refine pz_wp_ok (pz_Is_ok (SX3_readsSum dr)) [7] 100 ?_
        exact qT (tP_readsSum0 (j := j + 1) (by omega) (h0 F2 X3 e (k_loop_r hin he) hB3 hb)) (by rw [← ej]; rfl) rfl rfl
    refine pz_wp_ok (pz_Is_ok (SX3_readsSum dr)) [7, 35] 100 ?_
    refine br2 (n_ge (b := 96) (by omega) (by omega) (by omega)) ?_
    refine br2 (by decide) ?_
    refine pP_sign hG hP hk ⟨by decide, by decide⟩ (fun g => ?_) (fun g => ?_)
    · refine br1 (by decide) ?_
      exact go g.1 (Or.inl g.2)
    refine br2 (fun z => z rfl) ?_
    refine pP_sign hG hP hk ⟨by decide, by decide⟩ (fun g' => ?_) (fun g' => ?_)
    · refine br2 (by decide) ?_
      exact go g'.1 (Or.inr g'.2)
    refine br1 (fun z => z rfl) ?_
    exact ⟨Or.inr rfl, h1 F X x (k_loop_no (fun z => (of_decide_eq_true (k_in_i.mp z).2).elim (fun q => g ⟨(k_in_i.mp z).1, q⟩) (fun q => g' ⟨(k_in_i.mp z).1, q⟩)) _) hP⟩
set_option maxRecDepth 8000 in
theorem cP_readsSum (hG : pG A X0 T i n key) {dr : Nat} {p : kS → kQ} (hp : k_sub T n key p) (hc : pC yX3_readsTerm (KX3_readsTerm dr) A F0 X0 T i n key p dp tn) : pC yX3_readsSum (KX3_readsSum (dr + 1)) A F0 X0 T i n key (k_chain T n 96 ok_sum p) dp tn := by
  intro F X x Q hP hk hl h1 h0
  refine pz_C_of rfl rfl rfl (Nat.le_of_ble_eq_true rfl) (pz_wp_ok (pz_Is_ok (SX3_readsSum dr)) [7] 100 ?_)
  refine hc F X x _ hP hk hl (fun F2 X2 y hy hP2 => ?_) (fun F2 X2 e he hB hb => ?_)
  · obtain ⟨r1, r2, r3, r4⟩ := k_room0 hp hk hl hy
    rw [k_chain_l hy] at h1 h0
    exact tP_readsSum hG hp hc 96 0 (by omega) y F2 X2 none hP2 r1 r3 h1 h0
  · exact tP_readsSum0 (j := 0) (by omega) (h0 F2 X2 e (k_chain_r he) hB hb)
set_option maxRecDepth 8000 in
theorem tP_readsTerm0 {dr j : Nat} (hj : j ≤ 96) {x3 : Option Value} {A : qA} {F : qF} {X : qX} (h : Q (some (.int 0)) (mem A F X)) : pz_T z0 (KX3_readsTerm (dr + 1)) Q 7 (0, 0) [some (.ref 36), some (.int 0), some (.int (nI j)), x3] [] (mem A F X) := by
  refine pz_wp_ok (pz_Is_ok (SX3_readsTerm dr)) [] 100 ?_
  refine ⟨fun _ => ⟨Or.inl rfl, h⟩, fun _ => ?_⟩
  exact br1 (fun z => z rfl) ⟨Or.inl rfl, h⟩
set_option maxRecDepth 8000 in
theorem tP_readsTerm (hG : pG A X0 T i n key) {dr : Nat} {p : kS → kQ} (hp : k_sub T n key p) (hc : pC yX3_readsPiece (KX3_readsPiece dr) A F0 X0 T i n key p dp tn) : ∀ (d j : Nat), j + d = 96 → ∀ (x : kS) (F : qF) (X : qX) (x3 : Option Value), pP F0 X0 i n key F X x dp tn → k_ok T n x.1 → x.2.2.length ≤ x.1.2.1 → (∀ (F' : qF) (X' : qX) (y : kS), k_loop T n p ok_mul d x = .inl y → pP F0 X0 i n key F' X' y dp tn → Q (some (.int 1)) (mem A F' X')) → (∀ (F' : qF) (X' : qX) (e : Nat), k_loop T n p ok_mul d x = .inr e → pB F0 X0 i F' X' → F' 4 = nI e → Q (some (.int 0)) (mem A F' X')) → pz_T z0 (KX3_readsTerm (dr + 1)) Q 7 (0, 0) [some (.ref 36), some (.int 1), some (.int (nI j)), x3] [] (mem A F X) := by
  have hn := hG.2.1
  intro d
  induction d with
  | zero =>
    intro j hj x F X x3 hP hk hl h1 h0
    have hj : j = 96 := by omega
    subst hj
    refine pz_wp_ok (pz_Is_ok (SX3_readsTerm dr)) [7] 100 ?_
    refine br1 (fun z => z (nI_le (Nat.le_refl _) (by omega))) ?_
    exact ⟨Or.inr rfl, h1 F X x rfl hP⟩
  | succ d ih =>
    intro j hj x F X x3 hP hk hl h1 h0
    obtain ⟨a1, a2⟩ := k_ok_nx hk
    have al := k_nx_len hk hl
    have ej : nI j + 1 = nI (j + 1) := nI_1 j
    have go : x.1.1 = 3 → (T x.1.2.1 = 42 ∨ T x.1.2.1 = 47) → pz_T z0 (KX3_readsTerm (dr + 1)) Q 35 (0, 0) [some (.ref 36), some (.int 1), some (.int (nI j)), x3] [] (mem A F X) := fun g3 gc => by
      have hin : k_in T x ok_mul = true := k_in_i.mpr ⟨g3, decide_eq_true gc⟩
      have hc7 : qIn 0 127 (T x.1.2.1) := by rcases gc with e | e <;> rw [e] <;> exact ⟨by decide, by decide⟩
      obtain ⟨q1, q2, q3⟩ := pP_byte hG hP hk g3 hc7
      refine pz_wp_ok (pz_Is_ok (SX3_readsTerm dr)) [7, 60] 100 ?_
      refine ⟨qin _ q1 (by omega) (by omega), ?_⟩
      rw [q3]
      refine pP_next hG hP hk (fun F1 hP1 => ?_)
      refine hc F1 X _ _ hP1 a1 al (fun F2 X2 y hy hP2 => ?_) (fun F2 X2 e he hB hb => ?_)
      · obtain ⟨r1, r2, r3, r4⟩ := k_room hp hk hl g3 hy
        obtain ⟨d1, d2⟩ := hP2.d hG
        refine pz_T_cv0 (r := X2.2.1) (S' := []) (pz_Is_ok (SX3_readsTerm dr) (60, pz_cv0 yX6_adds KX6_adds 4 2 63) (List.mem_of_getElem? (i := 33) rfl)) rfl (mem_xd d1 d2) rfl ?_
        refine pP_add (w := 2) (v := (T x.1.2.1)) hG hP2 (by omega) rfl (fun X3 hP3 => ?_)
        have hL := k_loop_l (d := d) hin hy
        skip
        rw [hL] at h1 h0
        refine pz_wp_ok (pz_Is_ok (SX3_readsTerm dr)) [7] 100 ?_
        have ih' := ih (j + 1) (by omega) (k_ad y 2 (T x.1.2.1)) F2 X3 (some (.int (T x.1.2.1))) hP3 r1 (by show (y.2.2 ++ [_]).length ≤ y.1.2.1; rw [List.length_append, List.length_singleton]; exact r3) h1 h0
        exact qT ih' (by rw [← ej]; rfl) rfl rfl
      · obtain ⟨d1, d2⟩ := hB.d hG
        refine pz_T_cv0 (r := X2.2.1) (S' := []) (pz_Is_ok (SX3_readsTerm dr) (60, pz_cv0 yX6_adds KX6_adds 4 2 63) (List.mem_of_getElem? (i := 33) rfl)) rfl (mem_xd d1 d2) rfl ?_
        refine pB_add hG hB (fun X3 hB3 => ?_)
        refine pz_wp_ok (pz_Is_ok (SX3_readsTerm dr)) [7] 100 ?_
        exact qT (tP_readsTerm0 (j := j + 1) (by omega) (h0 F2 X3 e (k_loop_r hin he) hB3 hb)) (by rw [← ej]; rfl) rfl rfl
    refine pz_wp_ok (pz_Is_ok (SX3_readsTerm dr)) [7, 35] 100 ?_
    refine br2 (n_ge (b := 96) (by omega) (by omega) (by omega)) ?_
    refine br2 (by decide) ?_
    refine pP_sign hG hP hk ⟨by decide, by decide⟩ (fun g => ?_) (fun g => ?_)
    · refine br1 (by decide) ?_
      exact go g.1 (Or.inl g.2)
    refine br2 (fun z => z rfl) ?_
    refine pP_sign hG hP hk ⟨by decide, by decide⟩ (fun g' => ?_) (fun g' => ?_)
    · refine br2 (by decide) ?_
      exact go g'.1 (Or.inr g'.2)
    refine br1 (fun z => z rfl) ?_
    exact ⟨Or.inr rfl, h1 F X x (k_loop_no (fun z => (of_decide_eq_true (k_in_i.mp z).2).elim (fun q => g ⟨(k_in_i.mp z).1, q⟩) (fun q => g' ⟨(k_in_i.mp z).1, q⟩)) _) hP⟩
set_option maxRecDepth 8000 in
theorem cP_readsTerm (hG : pG A X0 T i n key) {dr : Nat} {p : kS → kQ} (hp : k_sub T n key p) (hc : pC yX3_readsPiece (KX3_readsPiece dr) A F0 X0 T i n key p dp tn) : pC yX3_readsTerm (KX3_readsTerm (dr + 1)) A F0 X0 T i n key (k_chain T n 96 ok_mul p) dp tn := by
  intro F X x Q hP hk hl h1 h0
  refine pz_C_of rfl rfl rfl (Nat.le_of_ble_eq_true rfl) (pz_wp_ok (pz_Is_ok (SX3_readsTerm dr)) [7] 100 ?_)
  refine hc F X x _ hP hk hl (fun F2 X2 y hy hP2 => ?_) (fun F2 X2 e he hB hb => ?_)
  · obtain ⟨r1, r2, r3, r4⟩ := k_room0 hp hk hl hy
    rw [k_chain_l hy] at h1 h0
    exact tP_readsTerm hG hp hc 96 0 (by omega) y F2 X2 none hP2 r1 r3 h1 h0
  · exact tP_readsTerm0 (j := 0) (by omega) (h0 F2 X2 e (k_chain_r he) hB hb)
end PGRAM
