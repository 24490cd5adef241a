/-! the reference: the grammar -/
def kB (A0 : qA) (F0 : qF) (a : Nat) (A : qA) (F : qF) : Prop := qag [20] A0 A ∧ (∀ j, (j < a ∨ a + 192 ≤ j) → A 20 j = A0 20 j) ∧ qagF [62, 63, 64, 65, 66, 67, 68, 69, 71] F0 F
/-- the reference's memory says the state of a reading -/
def kP (A0 : qA) (F0 : qF) (a n : Nat) (A : qA) (F : qF) (x : kS) (dp tn : Nat) : Prop := kB A0 F0 a A F ∧ kR (A0 34) F n x.1 ∧ F 67 = nI dp ∧ F 68 = nI tn ∧ F 69 = nI x.2.2.length ∧ F 71 = nI x.2.1 ∧ ∀ k p, x.2.2[k]? = some p → A 20 (a + 2 * k) = p.1 ∧ A 20 (a + 2 * k + 1) = p.2
def kG (F0 : qF) (a n : Nat) : Prop := F0 70 = nI a ∧ a + 192 ≤ 3142 ∧ n ≤ 96
def kC (y : MethodName) (K : pz_K) (A0 : qA) (F0 : qF) (X : qX) (a n key : Nat) (p : kS → kQ) (dp tn : Nat) : Prop := ∀ (A : qA) (F : qF) (x : kS) (Q : pz_Q), kP A0 F0 a n A F x dp tn → k_ok (A0 34) n x.1 → x.2.2.length ≤ x.1.2.1 → (∀ (A' : qA) (F' : qF) (y : kS), p x = .inl y → kP A0 F0 a n A' F' y dp tn → Q (some (.int 1)) (mem A' F' X)) → (∀ (A' : qA) (F' : qF) (e : Nat), p x = .inr e → kB A0 F0 a A' F' → F' 62 = nI e → Q (some (.int 0)) (mem A' F' X)) → pz_C y K [.ref 69, .int (nI key)] (mem A F X) Q
theorem k_get_app {l : List (Int32 × Int32)} {z p : Int32 × Int32} {k : Nat} (h : (l ++ [z])[k]? = some p) : (k < l.length ∧ l[k]? = some p) ∨ (k = l.length ∧ p = z) := by
  by_cases h1 : k < l.length
  · rw [List.getElem?_append_left h1] at h
    exact Or.inl ⟨h1, h⟩
  · by_cases h2 : k = l.length
    · subst h2
      rw [List.getElem?_concat_length] at h
      exact Or.inr ⟨rfl, (Option.some.inj h).symm⟩
    · rw [List.getElem?_eq_none (by rw [List.length_append, List.length_singleton]; omega)] at h
      cases h
theorem kR_ag {T : Nat → Int32} {F F' : qF} {n : Nat} {x : Nat × Nat × Nat} (h : kR T F n x) (hF : ∀ i, 61 ≤ i → i ≤ 66 → F' i = F i) : kR T F' n x := by
  obtain ⟨h1, h2, h3, h4, h5, h6, h7⟩ := h
  refine ⟨by rw [hF 61 (by omega) (by omega)]; exact h1, by rw [hF 62 (by omega) (by omega)]; exact h2, by rw [hF 63 (by omega) (by omega)]; exact h3, by rw [hF 64 (by omega) (by omega)]; exact h4, by rw [hF 65 (by omega) (by omega)]; exact h5, by rw [hF 66 (by omega) (by omega)]; exact h6, by rw [hF 66 (by omega) (by omega)]; exact h7⟩
section GRAM
variable {A0 A : qA} {F0 F : qF} {X : qX} {Q : pz_Q} {a n key dp tn : Nat} {x : kS}
theorem kP_step {w v : Int32} (hG : kG F0 a n) (hP : kP A0 F0 a n A F x dp tn) (hl : x.2.2.length ≤ 95) (h : ∀ (A' : qA) (F' : qF), kP A0 F0 a n A' F' (k_ad x w v) dp tn → Q none (mem A' F' X)) : pz_C yX10_step KX10_step [.ref 69, .int w, .int v] (mem A F X) Q := by
  obtain ⟨⟨b1, b2, b3⟩, r, d1, d2, d3, d4, d5⟩ := hP
  have g70 : F 70 = nI a := by rw [b3 70 (by simp)]; exact hG.1
  have hb := hG.2.1
  refine cM_step (l := x.2.2.length) (a := a) d3 g70 (by omega) (h _ _ ⟨⟨b1.trans (qag.up (by simp)), fun j hj => ?_, b3.trans (qagF.up (by simp))⟩, kR_ag r (fun i h1 h2 => upd_ne _ _ (by omega)), by rw [upd_ne _ _ (by omega)]; exact d1, by rw [upd_ne _ _ (by omega)]; exact d2, ?_, by rw [upd_ne _ _ (by omega)]; exact d4, fun k p hk => ?_⟩)
  · rw [vu_at, upd_ne _ _ (by omega), upd_ne _ _ (by omega)]
    exact b2 j hj
  · rw [upd_at]
    show _ = nI (x.2.2 ++ [(w, v)]).length
    rw [List.length_append, List.length_singleton]
  · rw [vu_at]
    rcases k_get_app hk with ⟨k1, k2⟩ | ⟨k1, k2⟩
    · rw [upd_ne _ _ (by omega), upd_ne _ _ (by omega), upd_ne _ _ (by omega), upd_ne _ _ (by omega)]
      exact d5 k p k2
    · subst k1
      subst k2
      rw [upd_ne _ _ (by omega), upd_at, upd_at]
      exact ⟨rfl, rfl⟩
theorem kP_next (hG : kG F0 a n) (hP : kP A0 F0 a n A F x dp tn) (hk : k_ok (A0 34) n x.1) (h : ∀ F' : qF, kP A0 F0 a n A F' (k_nx (A0 34) n x) dp tn → Q none (mem A F' X)) : pz_C yX10_nextToken KX10_nextToken [.ref 69] (mem A F X) Q := by
  obtain ⟨⟨b1, b2, b3⟩, r, d1, d2, d3, d4, d5⟩ := hP
  obtain ⟨r1, r2, r3, r4, r5⟩ := r
  have e34 : A 34 = A0 34 := b1 34 (by simp)
  refine cM_nextToken (srt := x.1.1) (e := x.1.2.2) hG.2.2 hk.2.1 hk.2.2.1 (fun z => ?_) r1 r3 r4 (fun F' hF hR => h F' ⟨⟨b1, b2, b3.trans (fun i hi => hF i (by simp at hi ⊢; omega))⟩, by rw [e34] at hR; exact hR, ?_, ?_, ?_, ?_, d5⟩)
  · have := hk.2.2.2.1 (by omega)
    omega
  · rw [hF 67 (by simp)]; exact d1
  · rw [hF 68 (by simp)]; exact d2
  · rw [hF 69 (by simp)]; exact d3
  · rw [hF 71 (by simp)]; exact d4
theorem kP_sign {c : Int32} (hP : kP A0 F0 a n A F x dp tn) (hk : k_ok (A0 34) n x.1) (h1 : x.1.1 = 3 ∧ A0 34 x.1.2.1 = c → Q (some (.int 1)) (mem A F X)) (h0 : ¬ (x.1.1 = 3 ∧ A0 34 x.1.2.1 = c) → Q (some (.int 0)) (mem A F X)) : pz_C yX10_isSign KX10_isSign [.ref 69, .int c] (mem A F X) Q := by
  obtain ⟨⟨b1, b2, b3⟩, ⟨r1, r2, r3, r4, r5, r6, r7⟩, d⟩ := hP
  have h5 := hk.2.2.1
  have e : (F 64 = 3 ∧ F 66 = c) ↔ (x.1.1 = 3 ∧ A0 34 x.1.2.1 = c) := by
    constructor
    · rintro ⟨z1, z2⟩
      rw [r4] at z1
      have z1 : x.1.1 = 3 := (nI_eq (a := x.1.1) (b := 3) (by omega) (by omega)).mp z1
      rw [r7 z1] at z2
      exact ⟨z1, z2⟩
    · rintro ⟨z1, z2⟩
      rw [r7 z1, r4, z1]
      exact ⟨rfl, z2⟩
  exact cM_isSign (fun z => h1 (e.mp z)) (fun z => h0 (fun y => z (e.mpr y)))
theorem kP_letter (hP : kP A0 F0 a n A F x dp tn) (h3 : x.1.1 = 3) : F 66 = A0 34 x.1.2.1 := hP.2.1.2.2.2.2.2.2 h3
theorem kP_begin (hP : kP A0 F0 a n A F x dp tn) : F 62 = nI x.1.2.1 := hP.2.1.2.1
theorem k_room {p : kS → kQ} {T : Nat → Int32} (hp : k_sub T n key p) (hk : k_ok T n x.1) (hl : x.2.2.length ≤ x.1.2.1) (h3 : x.1.1 = 3) {y : kS} (hy : p (k_nx T n x) = .inl y) : k_ok T n y.1 ∧ x.1.2.1 < y.1.2.1 ∧ y.2.2.length + 1 ≤ y.1.2.1 ∧ y.1.2.1 ≤ n := by
  obtain ⟨a1, a2⟩ := k_ok_nx hk
  have hlt := hk.2.2.2.1 (by omega)
  obtain ⟨b1, b2, ds, b3, b4, b5, b6⟩ := (hp _ a1).1 y hy
  have e : y.2.2.length = x.2.2.length + ds.length := by rw [b3, List.length_append]; rfl
  have := b1.1
  have := b1.2.1
  exact ⟨b1, by omega, by omega, by omega⟩
theorem k_room0 {p : kS → kQ} {T : Nat → Int32} (hp : k_sub T n key p) (hk : k_ok T n x.1) (hl : x.2.2.length ≤ x.1.2.1) {y : kS} (hy : p x = .inl y) : k_ok T n y.1 ∧ x.1.2.1 < y.1.2.1 ∧ y.2.2.length ≤ y.1.2.1 ∧ y.1.2.1 ≤ n := by
  obtain ⟨b1, b2, ds, b3, b4, b5, b6⟩ := (hp _ hk).1 y hy
  have e : y.2.2.length = x.2.2.length + ds.length := by rw [b3, List.length_append]
  have := b1.1
  have := b1.2.1
  exact ⟨b1, by omega, by omega, by omega⟩
theorem k_nx_len {T : Nat → Int32} (hk : k_ok T n x.1) (hl : x.2.2.length ≤ x.1.2.1) : (k_nx T n x).2.2.length ≤ (k_nx T n x).1.2.1 := by
  obtain ⟨a1, a2⟩ := k_ok_nx hk
  have := hk.1
  show x.2.2.length ≤ _
  omega
theorem k_chain_r {T : Nat → Int32} {d : Nat} {ok : Int32 → Bool} {p : kS → kQ} {e : Nat} (h : p x = .inr e) : k_chain T n d ok p x = .inr e := by unfold k_chain; rw [h]
theorem k_chain_l {T : Nat → Int32} {d : Nat} {ok : Int32 → Bool} {p : kS → kQ} {y : kS} (h : p x = .inl y) : k_chain T n d ok p x = k_loop T n p ok d y := by unfold k_chain; rw [h]
theorem k_loop_no {T : Nat → Int32} {ok : Int32 → Bool} {p : kS → kQ} (h : ¬ k_in T x ok = true) : ∀ d, k_loop T n p ok d x = .inl x
  | 0 => rfl
  | _ + 1 => if_neg h
theorem k_loop_r {T : Nat → Int32} {d : Nat} {ok : Int32 → Bool} {p : kS → kQ} {e : Nat} (h : k_in T x ok = true) (hp : p (k_nx T n x) = .inr e) : k_loop T n p ok (d + 1) x = .inr e := by rw [k_loop, if_pos h, hp]
theorem k_loop_l {T : Nat → Int32} {d : Nat} {ok : Int32 → Bool} {p : kS → kQ} {y : kS} (h : k_in T x ok = true) (hp : p (k_nx T n x) = .inl y) : k_loop T n p ok (d + 1) x = k_loop T n p ok d (k_ad y 2 (T x.1.2.1)) := by rw [k_loop, if_pos h, hp]
set_option maxRecDepth 8000 in
theorem tM_either (hG : kG F0 a n) {dr : Nat} {p : kS → kQ} (hp : k_sub (A0 34) n key p) (hc : kC yX10_both (KX10_both dr) A0 F0 X a n key p dp tn) : ∀ (d : Nat) (x : kS) (A : qA) (F : qF), 97 ≤ d + x.1.2.1 → kP A0 F0 a n A F x dp tn → k_ok (A0 34) n x.1 → x.2.2.length ≤ x.1.2.1 → (∀ (A' : qA) (F' : qF) (y : kS), k_loop (A0 34) n p ok_or d x = .inl y → kP A0 F0 a n A' F' y dp tn → Q (some (.int 1)) (mem A' F' X)) → (∀ (A' : qA) (F' : qF) (e : Nat), k_loop (A0 34) n p ok_or d x = .inr e → kB A0 F0 a A' F' → F' 62 = nI e → Q (some (.int 0)) (mem A' F' X)) → pz_T z0 (KX10_either (dr + 1)) Q 10 (0, 0) [some (.ref 69), some (.int (nI key))] [] (mem A F X) := by
  have hn := hG.2.2
  intro d
  induction d with
  | zero =>
    intro x A F hd hP hk hl h1 h0
    have no : ¬ x.1.1 = 3 := fun z => by
      have := hk.2.2.2.1 (by omega)
      have := hk.2.1
      omega
    refine pz_wp_ok (pz_Is_ok (SX10_either dr)) [10] 100 ?_
    refine kP_sign hP hk (fun g => absurd g.1 no) (fun g => ?_)
    refine br1 (fun z => z rfl) ?_
    exact ⟨Or.inr rfl, h1 A F x (k_loop_no (fun z => no (k_in_i.mp z).1) 0) hP⟩
  | succ d ih =>
    intro x A F hd hP hk hl h1 h0
    obtain ⟨a1, a2⟩ := k_ok_nx hk
    have al := k_nx_len hk hl
    refine pz_wp_ok (pz_Is_ok (SX10_either dr)) [10] 100 ?_
    refine kP_sign hP hk (fun g => ?_) (fun g => ?_)
    · refine br2 (by decide) ?_
      have hin : k_in (A0 34) x ok_or = true := k_in_i.mpr ⟨g.1, decide_eq_true g.2⟩
      refine kP_next hG hP hk (fun F1 hP1 => ?_)
      refine hc A F1 _ _ hP1 a1 al (fun A2 F2 y hy hP2 => ?_) (fun A2 F2 e he hB hb => ?_)
      · refine br1 (by decide) ?_
        obtain ⟨r1, r2, r3, r4⟩ := k_room hp hk hl g.1 hy
        refine kP_step hG hP2 (by omega) (fun A3 F3 hP3 => ?_)
        have hL := k_loop_l (d := d) hin hy
        rw [g.2] at hL
        rw [hL] at h1 h0
        exact ih (k_ad y 2 124) A3 F3 (by show 97 ≤ d + y.1.2.1; omega) hP3 r1 (by show (y.2.2 ++ [_]).length ≤ y.1.2.1; rw [List.length_append, List.length_singleton]; exact r3) h1 h0
      · refine br2 (fun z => z rfl) ?_
        exact ⟨Or.inl rfl, h0 A2 F2 e (k_loop_r hin he) hB hb⟩
    · refine br1 (fun z => z rfl) ?_
      exact ⟨Or.inr rfl, h1 A F x (k_loop_no (fun z => g ⟨(k_in_i.mp z).1, of_decide_eq_true (k_in_i.mp z).2⟩) _) hP⟩
set_option maxRecDepth 8000 in
theorem cM_either (hG : kG F0 a n) {dr : Nat} {p : kS → kQ} (hp : k_sub (A0 34) n key p) (hc : kC yX10_both (KX10_both dr) A0 F0 X a n key p dp tn) : kC yX10_either (KX10_either (dr + 1)) A0 F0 X a n key (k_chain (A0 34) n 96 ok_or p) dp tn := by
  intro A F x Q hP hk hl h1 h0
  refine pz_C_of rfl rfl rfl (Nat.le_of_ble_eq_true rfl) (pz_wp_ok (pz_Is_ok (SX10_either dr)) [10] 100 ?_)
  refine hc A F x _ hP hk hl (fun A2 F2 y hy hP2 => ?_) (fun A2 F2 e he hB hb => ?_)
  · refine br1 (by decide) ?_
    obtain ⟨r1, r2, r3, r4⟩ := k_room0 hp hk hl hy
    rw [k_chain_l hy] at h1 h0
    exact tM_either hG hp hc 96 y A2 F2 (by omega) hP2 r1 r3 h1 h0
  · refine br2 (fun z => z rfl) ?_
    exact ⟨Or.inl rfl, h0 A2 F2 e (k_chain_r he) hB hb⟩
set_option maxRecDepth 8000 in
theorem tM_both (hG : kG F0 a n) {dr : Nat} {p : kS → kQ} (hp : k_sub (A0 34) n key p) (hc : kC yX10_test (KX10_test dr) A0 F0 X a n key p dp tn) : ∀ (d : Nat) (x : kS) (A : qA) (F : qF), 97 ≤ d + x.1.2.1 → kP A0 F0 a n A F x dp tn → k_ok (A0 34) n x.1 → x.2.2.length ≤ x.1.2.1 → (∀ (A' : qA) (F' : qF) (y : kS), k_loop (A0 34) n p ok_and d x = .inl y → kP A0 F0 a n A' F' y dp tn → Q (some (.int 1)) (mem A' F' X)) → (∀ (A' : qA) (F' : qF) (e : Nat), k_loop (A0 34) n p ok_and d x = .inr e → kB A0 F0 a A' F' → F' 62 = nI e → Q (some (.int 0)) (mem A' F' X)) → pz_T z0 (KX10_both (dr + 1)) Q 10 (0, 0) [some (.ref 69), some (.int (nI key))] [] (mem A F X) := by
  have hn := hG.2.2
  intro d
  induction d with
  | zero =>
    intro x A F hd hP hk hl h1 h0
    have no : ¬ x.1.1 = 3 := fun z => by
      have := hk.2.2.2.1 (by omega)
      have := hk.2.1
      omega
    refine pz_wp_ok (pz_Is_ok (SX10_both dr)) [10] 100 ?_
    refine kP_sign hP hk (fun g => absurd g.1 no) (fun g => ?_)
    refine br1 (fun z => z rfl) ?_
    exact ⟨Or.inr rfl, h1 A F x (k_loop_no (fun z => no (k_in_i.mp z).1) 0) hP⟩
  | succ d ih =>
    intro x A F hd hP hk hl h1 h0
    obtain ⟨a1, a2⟩ := k_ok_nx hk
    have al := k_nx_len hk hl
    refine pz_wp_ok (pz_Is_ok (SX10_both dr)) [10] 100 ?_
    refine kP_sign hP hk (fun g => ?_) (fun g => ?_)
    · refine br2 (by decide) ?_
      have hin : k_in (A0 34) x ok_and = true := k_in_i.mpr ⟨g.1, decide_eq_true g.2⟩
      refine kP_next hG hP hk (fun F1 hP1 => ?_)
      refine hc A F1 _ _ hP1 a1 al (fun A2 F2 y hy hP2 => ?_) (fun A2 F2 e he hB hb => ?_)
      · refine br1 (by decide) ?_
        obtain ⟨r1, r2, r3, r4⟩ := k_room hp hk hl g.1 hy
        refine kP_step hG hP2 (by omega) (fun A3 F3 hP3 => ?_)
        have hL := k_loop_l (d := d) hin hy
        rw [g.2] at hL
        rw [hL] at h1 h0
        exact ih (k_ad y 2 38) A3 F3 (by show 97 ≤ d + y.1.2.1; omega) hP3 r1 (by show (y.2.2 ++ [_]).length ≤ y.1.2.1; rw [List.length_append, List.length_singleton]; exact r3) h1 h0
      · refine br2 (fun z => z rfl) ?_
        exact ⟨Or.inl rfl, h0 A2 F2 e (k_loop_r hin he) hB hb⟩
    · refine br1 (fun z => z rfl) ?_
      exact ⟨Or.inr rfl, h1 A F x (k_loop_no (fun z => g ⟨(k_in_i.mp z).1, of_decide_eq_true (k_in_i.mp z).2⟩) _) hP⟩
set_option maxRecDepth 8000 in
theorem cM_both (hG : kG F0 a n) {dr : Nat} {p : kS → kQ} (hp : k_sub (A0 34) n key p) (hc : kC yX10_test (KX10_test dr) A0 F0 X a n key p dp tn) : kC yX10_both (KX10_both (dr + 1)) A0 F0 X a n key (k_chain (A0 34) n 96 ok_and p) dp tn := by
  intro A F x Q hP hk hl h1 h0
  refine pz_C_of rfl rfl rfl (Nat.le_of_ble_eq_true rfl) (pz_wp_ok (pz_Is_ok (SX10_both dr)) [10] 100 ?_)
  refine hc A F x _ hP hk hl (fun A2 F2 y hy hP2 => ?_) (fun A2 F2 e he hB hb => ?_)
  · refine br1 (by decide) ?_
    obtain ⟨r1, r2, r3, r4⟩ := k_room0 hp hk hl hy
    rw [k_chain_l hy] at h1 h0
    exact tM_both hG hp hc 96 y A2 F2 (by omega) hP2 r1 r3 h1 h0
  · refine br2 (fun z => z rfl) ?_
    exact ⟨Or.inl rfl, h0 A2 F2 e (k_chain_r he) hB hb⟩
set_option maxRecDepth 8000 in
theorem cM_test (hG : kG F0 a n) {dr : Nat} {p : kS → kQ} (hp : k_sub (A0 34) n key p) (hc : kC yX10_sum (KX10_sum dr) A0 F0 X a n key p dp tn) : kC yX10_test (KX10_test (dr + 1)) A0 F0 X a n key (k_chain (A0 34) n 1 ok_cmp p) dp tn := by
  intro A0' F0' x0 Q hP0 hk0 hl0 h1 h0
  have hn := hG.2.2
  refine pz_C_of rfl rfl rfl (Nat.le_of_ble_eq_true rfl) (pz_wp_ok (pz_Is_ok (SX10_test dr)) [37] 100 ?_)
  refine hc A0' F0' x0 _ hP0 hk0 hl0 (fun A F x hx hP => ?_) (fun A2 F2 e he hB hb => ?_)
  · refine br1 (by decide) ?_
    obtain ⟨hk, r2, hl, r4⟩ := k_room0 hp hk0 hl0 hx
    rw [k_chain_l hx] at h1 h0
    obtain ⟨a1, a2⟩ := k_ok_nx hk
    have al := k_nx_len hk hl
    have go : x.1.1 = 3 → (A0 34 x.1.2.1 = 60 ∨ A0 34 x.1.2.1 = 61 ∨ A0 34 x.1.2.1 = 62) → ∀ x2 : Option Value, pz_T z0 (KX10_test (dr + 1)) Q 37 (0, 0) [some (.ref 69), some (.int (nI key)), x2] [] (mem A F X) := fun g3 gc x2 => by
      have hin : k_in (A0 34) x ok_cmp = true := k_in_i.mpr ⟨g3, decide_eq_true gc⟩
      have hlet := kP_letter hP g3
      refine pz_wp_ok (pz_Is_ok (SX10_test dr)) [] 100 ?_
      refine kP_next hG hP hk (fun F1 hP1 => ?_)
      refine hc A F1 _ _ hP1 a1 al (fun A2 F2 y hy hP2 => ?_) (fun A2 F2 e he hB hb => ?_)
      · refine br1 (by decide) ?_
        obtain ⟨r1, r2, r3, r4⟩ := k_room hp hk hl g3 hy
        refine kP_step hG hP2 (by omega) (fun A3 F3 hP3 => ?_)
        rw [hlet] at hP3
        rw [k_loop_l hin hy] at h1 h0
        exact ⟨Or.inr rfl, h1 A3 F3 _ rfl hP3⟩
      · refine br2 (fun z => z rfl) ?_
        exact ⟨Or.inl rfl, h0 A2 F2 e (k_loop_r hin he) hB hb⟩
    refine kP_sign hP hk (fun g => ?_) (fun g => ?_)
    · refine br1 (by decide) ?_
      exact go g.1 (Or.inl g.2) _
    refine br2 (fun z => z rfl) ?_
    refine kP_sign hP hk (fun g' => ?_) (fun g' => ?_)
    · refine br1 (by decide) ?_
      exact go g'.1 (Or.inr (Or.inl g'.2)) _
    refine br2 (fun z => z rfl) ?_
    refine kP_sign hP hk (fun g'' => ?_) (fun g'' => ?_)
    · refine br2 (by decide) ?_
      exact go g''.1 (Or.inr (Or.inr g''.2)) _
    refine br1 (fun z => z rfl) ?_
    exact ⟨Or.inr rfl, h1 A F x (k_loop_no (fun z => (of_decide_eq_true (k_in_i.mp z).2).elim (fun q => g ⟨(k_in_i.mp z).1, q⟩) (fun q => q.elim (fun q => g' ⟨(k_in_i.mp z).1, q⟩) (fun q => g'' ⟨(k_in_i.mp z).1, q⟩))) _) hP⟩
  · refine br2 (fun z => z rfl) ?_
    exact ⟨Or.inl rfl, h0 A2 F2 e (k_chain_r he) hB hb⟩
set_option maxRecDepth 8000 in
theorem tM_sum (hG : kG F0 a n) {dr : Nat} {p : kS → kQ} (hp : k_sub (A0 34) n key p) (hc : kC yX10_term (KX10_term dr) A0 F0 X a n key p dp tn) : ∀ (d : Nat) (x : kS) (A : qA) (F : qF) (x2 : Option Value), 97 ≤ d + x.1.2.1 → kP A0 F0 a n A F x dp tn → k_ok (A0 34) n x.1 → x.2.2.length ≤ x.1.2.1 → (∀ (A' : qA) (F' : qF) (y : kS), k_loop (A0 34) n p ok_sum d x = .inl y → kP A0 F0 a n A' F' y dp tn → Q (some (.int 1)) (mem A' F' X)) → (∀ (A' : qA) (F' : qF) (e : Nat), k_loop (A0 34) n p ok_sum d x = .inr e → kB A0 F0 a A' F' → F' 62 = nI e → Q (some (.int 0)) (mem A' F' X)) → pz_T z0 (KX10_sum (dr + 1)) Q 10 (0, 0) [some (.ref 69), some (.int (nI key)), x2] [] (mem A F X) := by
  have hn := hG.2.2
  intro d
  induction d with
  | zero =>
    intro x A F x2 hd hP hk hl h1 h0
    have no : ¬ x.1.1 = 3 := fun z => by
      have := hk.2.2.2.1 (by omega)
      have := hk.2.1
      omega
    refine pz_wp_ok (pz_Is_ok (SX10_sum dr)) [10] 100 ?_
    refine kP_sign hP hk (fun g => absurd g.1 no) (fun g => ?_)
    refine br2 (fun z => z rfl) ?_
    refine kP_sign hP hk (fun g => absurd g.1 no) (fun g => ?_)
    refine br1 (fun z => z rfl) ?_
    exact ⟨Or.inr rfl, h1 A F x (k_loop_no (fun z => no (k_in_i.mp z).1) 0) hP⟩
  | succ d ih =>
    intro x A F x2 hd hP hk hl h1 h0
    obtain ⟨a1, a2⟩ := k_ok_nx hk
    have al := k_nx_len hk hl
    have go : x.1.1 = 3 → (A0 34 x.1.2.1 = 43 ∨ A0 34 x.1.2.1 = 45) → pz_T z0 (KX10_sum (dr + 1)) Q 28 (0, 0) [some (.ref 69), some (.int (nI key)), x2] [] (mem A F X) := fun g3 gc => by
      have hin : k_in (A0 34) x ok_sum = true := k_in_i.mpr ⟨g3, decide_eq_true gc⟩
      have hlet := kP_letter hP g3
      refine pz_wp_ok (pz_Is_ok (SX10_sum dr)) [10] 100 ?_
      refine kP_next hG hP hk (fun F1 hP1 => ?_)
      refine hc A F1 _ _ hP1 a1 al (fun A2 F2 y hy hP2 => ?_) (fun A2 F2 e he hB hb => ?_)
      · refine br1 (by decide) ?_
        obtain ⟨r1, r2, r3, r4⟩ := k_room hp hk hl g3 hy
        refine kP_step hG hP2 (by omega) (fun A3 F3 hP3 => ?_)
        rw [hlet] at hP3
        rw [k_loop_l hin hy] at h1 h0
        exact ih (k_ad y 2 (A0 34 x.1.2.1)) A3 F3 _ (by show 97 ≤ d + y.1.2.1; omega) hP3 r1 (by show (y.2.2 ++ [_]).length ≤ y.1.2.1; rw [List.length_append, List.length_singleton]; exact r3) h1 h0
      · refine br2 (fun z => z rfl) ?_
        exact ⟨Or.inl rfl, h0 A2 F2 e (k_loop_r hin he) hB hb⟩
    refine pz_wp_ok (pz_Is_ok (SX10_sum dr)) [10, 28] 100 ?_
    refine kP_sign hP hk (fun g => ?_) (fun g => ?_)
    · refine br1 (by decide) ?_
      exact go g.1 (Or.inl g.2)
    refine br2 (fun z => z rfl) ?_
    refine kP_sign hP hk (fun g' => ?_) (fun g' => ?_)
    · refine br2 (by decide) ?_
      exact go g'.1 (Or.inr g'.2)
    refine br1 (fun z => z rfl) ?_
    exact ⟨Or.inr rfl, h1 A F x (k_loop_no (fun z => (of_decide_eq_true (k_in_i.mp z).2).elim (fun q => g ⟨(k_in_i.mp z).1, q⟩) (fun q => g' ⟨(k_in_i.mp z).1, q⟩)) _) hP⟩
set_option maxRecDepth 8000 in
theorem cM_sum (hG : kG F0 a n) {dr : Nat} {p : kS → kQ} (hp : k_sub (A0 34) n key p) (hc : kC yX10_term (KX10_term dr) A0 F0 X a n key p dp tn) : kC yX10_sum (KX10_sum (dr + 1)) A0 F0 X a n key (k_chain (A0 34) n 96 ok_sum p) dp tn := by
  intro A F x Q hP hk hl h1 h0
  refine pz_C_of rfl rfl rfl (Nat.le_of_ble_eq_true rfl) (pz_wp_ok (pz_Is_ok (SX10_sum dr)) [10] 100 ?_)
  refine hc A F x _ hP hk hl (fun A2 F2 y hy hP2 => ?_) (fun A2 F2 e he hB hb => ?_)
  · refine br1 (by decide) ?_
    obtain ⟨r1, r2, r3, r4⟩ := k_room0 hp hk hl hy
    rw [k_chain_l hy] at h1 h0
    exact tM_sum hG hp hc 96 y A2 F2 none (by omega) hP2 r1 r3 h1 h0
  · refine br2 (fun z => z rfl) ?_
    exact ⟨Or.inl rfl, h0 A2 F2 e (k_chain_r he) hB hb⟩
set_option maxRecDepth 8000 in
theorem tM_term (hG : kG F0 a n) {dr : Nat} {p : kS → kQ} (hp : k_sub (A0 34) n key p) (hc : kC yX10_part0 (KX10_part0 dr) A0 F0 X a n key p dp tn) : ∀ (d : Nat) (x : kS) (A : qA) (F : qF) (x2 : Option Value), 97 ≤ d + x.1.2.1 → kP A0 F0 a n A F x dp tn → k_ok (A0 34) n x.1 → x.2.2.length ≤ x.1.2.1 → (∀ (A' : qA) (F' : qF) (y : kS), k_loop (A0 34) n p ok_mul d x = .inl y → kP A0 F0 a n A' F' y dp tn → Q (some (.int 1)) (mem A' F' X)) → (∀ (A' : qA) (F' : qF) (e : Nat), k_loop (A0 34) n p ok_mul d x = .inr e → kB A0 F0 a A' F' → F' 62 = nI e → Q (some (.int 0)) (mem A' F' X)) → pz_T z0 (KX10_term (dr + 1)) Q 10 (0, 0) [some (.ref 69), some (.int (nI key)), x2] [] (mem A F X) := by
  have hn := hG.2.2
  intro d
  induction d with
  | zero =>
    intro x A F x2 hd hP hk hl h1 h0
    have no : ¬ x.1.1 = 3 := fun z => by
      have := hk.2.2.2.1 (by omega)
      have := hk.2.1
      omega
    refine pz_wp_ok (pz_Is_ok (SX10_term dr)) [10] 100 ?_
    refine kP_sign hP hk (fun g => absurd g.1 no) (fun g => ?_)
    refine br2 (fun z => z rfl) ?_
    refine kP_sign hP hk (fun g => absurd g.1 no) (fun g => ?_)
    refine br1 (fun z => z rfl) ?_
    exact ⟨Or.inr rfl, h1 A F x (k_loop_no (fun z => no (k_in_i.mp z).1) 0) hP⟩
  | succ d ih =>
    intro x A F x2 hd hP hk hl h1 h0
    obtain ⟨a1, a2⟩ := k_ok_nx hk
    have al := k_nx_len hk hl
    have go : x.1.1 = 3 → (A0 34 x.1.2.1 = 42 ∨ A0 34 x.1.2.1 = 47) → pz_T z0 (KX10_term (dr + 1)) Q 28 (0, 0) [some (.ref 69), some (.int (nI key)), x2] [] (mem A F X) := fun g3 gc => by
      have hin : k_in (A0 34) x ok_mul = true := k_in_i.mpr ⟨g3, decide_eq_true gc⟩
      have hlet := kP_letter hP g3
      refine pz_wp_ok (pz_Is_ok (SX10_term dr)) [10] 100 ?_
      refine kP_next hG hP hk (fun F1 hP1 => ?_)
      refine hc A F1 _ _ hP1 a1 al (fun A2 F2 y hy hP2 => ?_) (fun A2 F2 e he hB hb => ?_)
      · refine br1 (by decide) ?_
        obtain ⟨r1, r2, r3, r4⟩ := k_room hp hk hl g3 hy
        refine kP_step hG hP2 (by omega) (fun A3 F3 hP3 => ?_)
        rw [hlet] at hP3
        rw [k_loop_l hin hy] at h1 h0
        exact ih (k_ad y 2 (A0 34 x.1.2.1)) A3 F3 _ (by show 97 ≤ d + y.1.2.1; omega) hP3 r1 (by show (y.2.2 ++ [_]).length ≤ y.1.2.1; rw [List.length_append, List.length_singleton]; exact r3) h1 h0
      · refine br2 (fun z => z rfl) ?_
        exact ⟨Or.inl rfl, h0 A2 F2 e (k_loop_r hin he) hB hb⟩
    refine pz_wp_ok (pz_Is_ok (SX10_term dr)) [10, 28] 100 ?_
    refine kP_sign hP hk (fun g => ?_) (fun g => ?_)
    · refine br1 (by decide) ?_
      exact go g.1 (Or.inl g.2)
    refine br2 (fun z => z rfl) ?_
    refine kP_sign hP hk (fun g' => ?_) (fun g' => ?_)
    · refine br2 (by decide) ?_
      exact go g'.1 (Or.inr g'.2)
    refine br1 (fun z => z rfl) ?_
    exact ⟨Or.inr rfl, h1 A F x (k_loop_no (fun z => (of_decide_eq_true (k_in_i.mp z).2).elim (fun q => g ⟨(k_in_i.mp z).1, q⟩) (fun q => g' ⟨(k_in_i.mp z).1, q⟩)) _) hP⟩
set_option maxRecDepth 8000 in
theorem cM_term (hG : kG F0 a n) {dr : Nat} {p : kS → kQ} (hp : k_sub (A0 34) n key p) (hc : kC yX10_part0 (KX10_part0 dr) A0 F0 X a n key p dp tn) : kC yX10_term (KX10_term (dr + 1)) A0 F0 X a n key (k_chain (A0 34) n 96 ok_mul p) dp tn := by
  intro A F x Q hP hk hl h1 h0
  refine pz_C_of rfl rfl rfl (Nat.le_of_ble_eq_true rfl) (pz_wp_ok (pz_Is_ok (SX10_term dr)) [10] 100 ?_)
  refine hc A F x _ hP hk hl (fun A2 F2 y hy hP2 => ?_) (fun A2 F2 e he hB hb => ?_)
  · refine br1 (by decide) ?_
    obtain ⟨r1, r2, r3, r4⟩ := k_room0 hp hk hl hy
    rw [k_chain_l hy] at h1 h0
    exact tM_term hG hp hc 96 y A2 F2 none (by omega) hP2 r1 r3 h1 h0
  · refine br2 (fun z => z rfl) ?_
    exact ⟨Or.inl rfl, h0 A2 F2 e (k_chain_r he) hB hb⟩
end GRAM
