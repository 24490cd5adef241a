/-! the invariant of the law's loop, and a call of both sides -/
def iT (B : Int) (A : qA) (F : qF) (X : qX) : Prop := A 0 = A 20 ∧ gT B (A 20) ∧ rTxs X (A 20) ∧ F 0 = F 60 ∧ (¬ F 60 = 0 → (∀ j, j < 142 → A 1 j = A 21 j) ∧ gT B (A 21) ∧ rTxs X (A 21) ∧ f_nt (A 21) ≤ f_nt (A 20))
def iW (A : qA) (F : qF) : Prop := ∃ w, w ≤ 60 ∧ F 1 = nI w ∧ F 72 = nI w ∧ ∀ j, j < w → A 8 j = A 38 j
def iP (A : qA) (F : qF) : Prop := ∃ n, n ≤ 96 ∧ F 2 = nI n ∧ F 61 = nI n ∧ rT (A 5) (A 34) n
def iS (A : qA) (F : qF) : Prop := okT A ∧ ∀ k, k < 4 → F (10 + k) = A 23 k ∧ F (14 + k) = A 24 k ∧ (∀ j, j < 24 → A (10 + k) j = A 25 (24 * k + j)) ∧ okRow (A (10 + k))
def iL (A : qA) (F : qF) : Prop := ∀ j, j < 5 → F (20 + j) = A 26 j ∧ (A 26 j = 1 → F (25 + j) = A 27 j ∧ qIn 0 5 (F (25 + j)) ∧ A 28 j = f_worth (F (25 + j)) (F (30 + j))) ∧ (A 26 j = 2 → F (45 + j) = A 29 j ∧ (∃ z, z ≤ 24 ∧ A 29 j = nI z) ∧ ∀ i, i < 24 → A (14 + j) i = A 30 (24 * j + i)) ∧ (A 26 j = 3 → F (35 + j) = A 27 j)
def iX (c : Nat) (X : qX) : Prop := ∃ d, d ≤ X.2.2.1 ∧ X.2.1 = xr d ∧ X.2.2.1 ≤ c ∧ (∀ k r, X.1 k = some r → ∃ i, i ≤ X.2.2.1 ∧ r = xr i ∧ i ≠ d) ∧ ∀ k k' r, X.1 k = some r → X.1 k' = some r → k = k'
def Inv (c : Nat) (A : qA) (F : qF) (X : qX) : Prop := c ≤ 512 ∧ iT (6000 * (c : Int)) A F X ∧ iW A F ∧ iP A F ∧ iS A F ∧ iL A F ∧ iX c X
theorem iX.mono {c : Nat} {X : qX} (h : iX c X) : iX (c + 1) X := by
  obtain ⟨d, h1, h2, h3, h4, h5⟩ := h
  exact ⟨d, h1, h2, by omega, h4, h5⟩
abbrev rscr : List Nat := [0, 2, 3, 4, 6, 7, 20, 22, 31, 32, 33, 35, 36, 37, 39]
theorem iW.cg {A A' : qA} {F F' : qF} (h : iW A F) (h8 : A' 8 = A 8) (h38 : A' 38 = A 38) (h1 : F' 1 = F 1) (h72 : F' 72 = F 72) : iW A' F' := by
  unfold iW
  rw [h8, h38, h1, h72]
  exact h
theorem iP.cg {A A' : qA} {F F' : qF} (h : iP A F) (h8 : A' 5 = A 5) (h38 : A' 34 = A 34) (h1 : F' 2 = F 2) (h72 : F' 61 = F 61) : iP A' F' := by
  unfold iP
  rw [h8, h38, h1, h72]
  exact h
theorem iS.cg {A A' : qA} {F F' : qF} (h : iS A F) (hA : ∀ i, (10 ≤ i ∧ i < 14) ∨ (23 ≤ i ∧ i < 26) → A' i = A i) (hF : ∀ i, 10 ≤ i → i < 18 → F' i = F i) : iS A' F' := by
  obtain ⟨h0, h⟩ := h
  refine ⟨?_, fun k hk => ?_⟩
  · unfold okT
    rw [hA 23 (by omega), hA 24 (by omega)]
    exact h0
  · rw [hA 23 (by omega), hA 24 (by omega), hA 25 (by omega), hA (10 + k) (by omega), hF (10 + k) (by omega) (by omega), hF (14 + k) (by omega) (by omega)]
    exact h k hk
theorem iL.cg {A A' : qA} {F F' : qF} (h : iL A F) (hA : ∀ i, (14 ≤ i ∧ i < 19) ∨ (26 ≤ i ∧ i < 31) → A' i = A i) (hF : ∀ i, 20 ≤ i → i < 50 → F' i = F i) : iL A' F' := by
  intro j hj
  rw [hA 26 (by omega), hA 27 (by omega), hA 28 (by omega), hA 29 (by omega), hA 30 (by omega), hA (14 + j) (by omega), hF (20 + j) (by omega) (by omega), hF (25 + j) (by omega) (by omega), hF (30 + j) (by omega) (by omega), hF (35 + j) (by omega) (by omega), hF (45 + j) (by omega) (by omega)]
  exact h j hj
/-- one call of the pot, then the same of the reference -/
def J (c : Nat) (y : MethodName) (κ : pz_K) (y' : MethodName) (κ' : pz_K) (av : List Value) (A : qA) (F : qF) (X : qX) : Prop :=
  ∀ Q1 : pz_Q, (∀ (v : Int32) (A1 : qA) (F1 : qF) (X1 : qX), (∀ Q2 : pz_Q, (∀ (A2 : qA) (F2 : qF) (X2 : qX), Inv (c + 1) A2 F2 X2 → Q2 (some (.int v)) (mem A2 F2 X2)) → pz_C y' κ' (.ref 69 :: av) (mem A1 F1 X1) Q2) → Q1 (some (.int v)) (mem A1 F1 X1)) → pz_C y κ (.ref 0 :: av) (mem A F X) Q1
section LAW
variable {c : Nat} {A : qA} {F : qF} {X : qX} {y y' : MethodName} {κ κ' : pz_K} {av : List Value}
theorem inv_next (hc : c < 512) (h : Inv c A F X) {A' : qA} (hA : ∀ i, i ∉ rscr → A' i = A i) (h0 : A' 0 = A' 20) (hg : gT (6000 * (c : Int) + 6000) (A' 20)) (hk : kp (A 20) (A' 20)) : Inv (c + 1) A' F X := by
  obtain ⟨-, ⟨t1, t2, t3, t4, t5⟩, hW, hP, hS, hL, hX⟩ := h
  have eB : 6000 * ((c + 1 : Nat) : Int) = 6000 * (c : Int) + 6000 := by omega
  have e1 : A' 1 = A 1 := hA 1 (by decide)
  have e21 : A' 21 = A 21 := hA 21 (by decide)
  have ent : f_nt (A' 20) = f_nt (A 20) := by unfold f_nt; rw [hk 1 (by omega)]
  refine ⟨by omega, ⟨h0, by rw [eB]; exact hg, rTxs_kp hk t3, t4, fun g => ?_⟩, hW.cg (hA 8 (by decide)) (hA 38 (by decide)) rfl rfl, hP.cg (hA 5 (by decide)) (hA 34 (by decide)) rfl rfl, hS.cg (fun i hi => hA i (by simp only [rscr, List.mem_cons, List.not_mem_nil, or_false]; omega)) (fun _ _ _ => rfl), hL.cg (fun i hi => hA i (by simp only [rscr, List.mem_cons, List.not_mem_nil, or_false]; omega)) (fun _ _ _ => rfl), hX.mono⟩
  obtain ⟨u1, u2, u3, u4⟩ := t5 g
  rw [e1, e21, ent, eB]
  exact ⟨u1, u2.mono (by omega), u3, u4⟩
/-- a call that changes the town alone -/
theorem J_town (hc : c < 512) (h : Inv c A F X) (s : (Nat → Int32) → Int32 × (Nat → Int32)) (hs : gT (6000 * (c : Int)) (A 20) → gT (6000 * (c : Int) + 6000) (s (A 20)).2 ∧ kp (A 20) (s (A 20)).2)
    (hP : ∀ Q : pz_Q, A 0 = A 20 → gT (6000 * (c : Int)) (A 0) → rTxs X (A 0) → (∀ A' : qA, qag [4, 0] A A' → A' 0 = (s (A 0)).2 → Q (some (.int (s (A 0)).1)) (mem A' F X)) → pz_C y κ (.ref 0 :: av) (mem A F X) Q)
    (hM : ∀ (A1 : qA) (Q : pz_Q), okS (A1 20) → (∀ A' : qA, qag [20, 35, 36] A1 A' → A' 20 = (s (A1 20)).2 → Q (some (.int (s (A1 20)).1)) (mem A' F X)) → pz_C y' κ' (.ref 69 :: av) (mem A1 F X) Q) : J c y κ y' κ' av A F X := by
  intro Q1 H
  have ht := h.2.1
  have e0 := ht.1
  refine hP Q1 e0 (by rw [e0]; exact ht.2.1) (by rw [e0]; exact ht.2.2.1) (fun A' ha e1 => ?_)
  have e20 : A' 20 = A 20 := ha 20 (by decide)
  refine H _ A' F X (fun Q2 H2 => ?_)
  refine hM A' Q2 (by rw [e20]; exact ht.2.1.1) (fun A2 ha2 e2 => ?_)
  obtain ⟨g1, g2⟩ := hs ht.2.1
  rw [e20] at e2 ⊢
  rw [e0] at H2
  refine H2 A2 F X (inv_next hc h (fun i hi => ?_) ?_ (by rw [e2]; exact g1) (by rw [e2]; exact g2))
  · simp only [rscr, List.mem_cons, List.not_mem_nil, or_false] at hi
    rw [ha2 i (by simp only [List.mem_cons, List.not_mem_nil, or_false]; omega), ha i (by simp only [List.mem_cons, List.not_mem_nil, or_false]; omega)]
  · rw [e2, ha2 0 (by decide), e1, e0]
/-- a call that only asks -/
theorem J_read (hc : c < 512) (h : Inv c A F X) (s : (Nat → Int32) → Int32)
    (hP : ∀ Q : pz_Q, gT (6000 * (c : Int)) (A 0) → rTxs X (A 0) → (∀ A' : qA, qag [2, 3, 4, 6, 7] A A' → Q (some (.int (s (A 0)))) (mem A' F X)) → pz_C y κ (.ref 0 :: av) (mem A F X) Q)
    (hM : ∀ (A1 : qA) (Q : pz_Q), okS (A1 20) → (∀ A' : qA, qag [31, 32, 33, 35, 36] A1 A' → Q (some (.int (s (A1 20)))) (mem A' F X)) → pz_C y' κ' (.ref 69 :: av) (mem A1 F X) Q) : J c y κ y' κ' av A F X := by
  intro Q1 H
  have ht := h.2.1
  have e0 := ht.1
  refine hP Q1 (by rw [e0]; exact ht.2.1) (by rw [e0]; exact ht.2.2.1) (fun A' ha => ?_)
  have e20 : A' 20 = A 20 := ha 20 (by decide)
  refine H _ A' F X (fun Q2 H2 => ?_)
  refine hM A' Q2 (by rw [e20]; exact ht.2.1.1) (fun A2 ha2 => ?_)
  have e2 : A2 20 = A 20 := (ha2 20 (by decide)).trans e20
  rw [e20]
  rw [e0] at H2
  refine H2 A2 F X (inv_next hc h (fun i hi => ?_) ?_ (by rw [e2]; exact ht.2.1.mono (by omega)) (by rw [e2]; exact kp.refl _))
  · simp only [rscr, List.mem_cons, List.not_mem_nil, or_false] at hi
    rw [ha2 i (by simp only [List.mem_cons, List.not_mem_nil, or_false]; omega), ha i (by simp only [List.mem_cons, List.not_mem_nil, or_false]; omega)]
  · rw [e2, ha2 0 (by decide), ha 0 (by decide), e0]
theorem qag.wid {l l' : List Nat} {A A' : qA} (h : qag l A A') (hl : ∀ i, i ∈ l → i ∈ l') : qag l' A A' := fun i hi => h i (fun z => hi (hl i z))
theorem J_eater {a b : Int32} (hc : c < 512) (h : Inv c A F X) : J c yX9_eater KX9_eater yX10_eater KX10_eater [.int a, .int b] A F X :=
  J_town hc h (fun t => s_eater t a b) (fun g => ⟨(g_eater g).1.mono (by omega), (g_eater g).2⟩)
    (fun Q _ g _ H => cP_eater g.1 (H _ (qag.up (by decide)) (vu_at _ _ _)))
    (fun A1 Q g H => cM_eater g (H _ (qag.up (by decide)) (vu_at _ _ _)))
theorem J_told {a b : Int32} (hc : c < 512) (h : Inv c A F X) : J c yX9_told KX9_told yX10_told KX10_told [.int a, .int b] A F X :=
  J_read hc h (fun t => s_told t a b) (fun Q g _ H => cP_told g.1 (H _ (qag.refl _ _))) (fun A1 Q g H => cM_told g (H _ (qag.refl _ _)))
theorem J_cell {a b : Int32} (hc : c < 512) (h : Inv c A F X) : J c yX9_cell KX9_cell yX10_cell KX10_cell [.int a, .int b] A F X :=
  J_read hc h (fun t => s_cell t a b) (fun Q g _ H => cP_cell (H _ (qag.refl _ _))) (fun A1 Q g H => cM_cell (H _ (qag.refl _ _)))
theorem J_lays {a b d : Int32} (hc : c < 512) (h : Inv c A F X) : J c yX9_lays KX9_lays yX10_lays KX10_lays [.int a, .int b, .int d] A F X :=
  J_town hc h (fun t => s_lays t a b d) (fun g => g_lays g)
    (fun Q _ g _ H => cP_lays (H _ (qag.up (by decide)) (vu_at _ _ _)))
    (fun A1 Q g H => cM_lays (H _ (qag.up (by decide)) (vu_at _ _ _)))
theorem J_as {a b : Int32} (hc : c < 512) (h : Inv c A F X) : J c yX9_as KX9_as yX10_as KX10_as [.int a, .int b] A F X :=
  J_read hc h (fun t => s_as t a b) (fun Q g _ H => cP_as g.1 g.2.1.2.2.2.1 (H _ (qag.refl _ _))) (fun A1 Q g H => cM_as g (H _ (qag.refl _ _)))
theorem J_turns {a b : Int32} (hc : c < 512) (h : Inv c A F X) : J c yX9_turns KX9_turns yX10_turns KX10_turns [.int a, .int b] A F X :=
  J_town hc h (fun t => s_turns t a b) (fun g => ⟨(g_turns g).1.mono (by omega), (g_turns g).2⟩)
    (fun Q _ g _ H => cP_turns g.1 (H _ (qag.up (by decide)) (vu_at _ _ _)))
    (fun A1 Q g H => cM_turns g (H _ (qag.up (by decide)) (vu_at _ _ _)))
theorem J_sends {a b : Int32} (hc : c < 512) (h : Inv c A F X) : J c yX9_sends KX9_sends yX10_sends KX10_sends [.int a, .int b] A F X :=
  J_town hc h (fun t => s_sends t a b) (fun g => ⟨(g_sends g).1.mono (by omega), (g_sends g).2⟩)
    (fun Q _ g _ H => cP_sends g.1 (H _ (qag.up (by decide)) (vu_at _ _ _)))
    (fun A1 Q g H => cM_sends g (H _ (qag.up (by decide)) (vu_at _ _ _)))
theorem J_cook {a : Int32} (hc : c < 512) (h : Inv c A F X) : J c yX9_cook KX9_cook yX10_cook KX10_cook [.int a] A F X :=
  J_town hc h (fun t => s_cook t a) (fun g => ⟨(g_cook g).1.mono (by omega), (g_cook g).2⟩)
    (fun Q _ g _ H => cP_cook (H _ (qag.up (by decide)) (vu_at _ _ _)))
    (fun A1 Q g H => cM_cook (H _ (qag.up (by decide)) (vu_at _ _ _)))
theorem J_say {a : Int32} (hc : c < 512) (h : Inv c A F X) : J c yX9_say KX9_say yX10_say KX10_say [.int a] A F X :=
  J_town hc h (fun t => s_say t a) (fun g => ⟨(g_say g).1.mono (by omega), (g_say g).2⟩)
    (fun Q _ g _ H => cP_say g.1 g.2.1.2.2.2.2 g.2.1.2.2.1 (H _ (qag.up (by decide)) (vu_at _ _ _)))
    (fun A1 Q g H => cM_say (H _ (qag.up (by decide)) (vu_at _ _ _)))
theorem J_rule {a b : Int32} (hc : c < 512) (h : Inv c A F X) : J c yX9_rule KX9_rule yX10_rule KX10_rule [.int a, .int b] A F X :=
  J_town hc h (fun t => s_rule t a b) (fun g => ⟨(g_rule g).1.mono (by omega), (g_rule g).2⟩)
    (fun Q _ g _ H => cP_rule (H _ (qag.up (by decide)) (vu_at _ _ _)))
    (fun A1 Q g H => cM_rule (H _ (qag.up (by decide)) (vu_at _ _ _)))
theorem J_deal {a : Int32} (hc : c < 512) (h : Inv c A F X) : J c yX9_deal KX9_deal yX10_deal KX10_deal [.int a] A F X :=
  J_town hc h (fun t => s_deal t a) (fun g => ⟨(g_deal g).1.mono (by omega), (g_deal g).2⟩)
    (fun Q _ g _ H => cP_deal g.1 (H _ (qag.up (by decide)) (vu_at _ _ _)))
    (fun A1 Q g H => cM_deal g (H _ (qag.up (by decide)) (vu_at _ _ _)))
theorem J_seed {a : Int32} (hc : c < 512) (h : Inv c A F X) : J c yX9_seed KX9_seed yX10_seed KX10_seed [.int a] A F X :=
  J_town hc h (fun t => (t 5, upd t 5 a)) (fun g => ⟨(g_5 g).1.mono (by omega), (g_5 g).2⟩)
    (fun Q _ g _ H => cP_seed (H _ (qag.up (by decide)) (vu_at _ _ _)))
    (fun A1 Q g H => cM_seed (H _ (qag.up (by decide)) (vu_at _ _ _)))
theorem J_minutes {a : Int32} (hc : c < 512) (h : Inv c A F X) : J c yX9_minutes KX9_minutes yX10_minutes KX10_minutes [.int a] A F X :=
  J_town hc h (fun t => s_minutes t a) (fun g => g_minutes g (by omega))
    (fun Q _ g r H => cP_minutes g.1 g.2.1 ⟨by omega, by omega⟩ (by omega) r g.2.2 (fun A' a b => H A' a b))
    (fun A1 Q g H => cM_minutes g (fun A' a b => H A' a b))
theorem J_town_ {a : Int32} (hc : c < 512) (h : Inv c A F X) : J c yX9_town KX9_town yX10_town KX10_town [.int a] A F X :=
  J_read hc h (fun t => s_town t a) (fun Q g r H => cP_town g.1 g.2.1.2.2.1 r (fun A' q => H A' (q.wid (by decide)))) (fun A1 Q g H => cM_town g (fun A' q => H A' (q.wid (by decide))))
theorem J_path {a b d : Int32} (hc : c < 512) (h : Inv c A F X) : J c yX9_path KX9_path yX10_path KX10_path [.int a, .int b, .int d] A F X :=
  J_read hc h (fun t => s_path t a b d) (fun Q g r H => cP_path (fun A' q => H A' (q.wid (by decide)))) (fun A1 Q g H => cM_path (fun A' q => H A' (q.wid (by decide))))
theorem J_behind {a b : Int32} (hc : c < 512) (h : Inv c A F X) : J c yX9_behind KX9_behind yX10_behind KX10_behind [.int a, .int b] A F X :=
  J_read hc h (fun t => s_behind t a b) (fun Q g r H => cP_behind g.1 g.2.1 (by omega) r (fun A' q => H A' (q.wid (by decide)))) (fun A1 Q g H => cM_behind g (fun A' q => H A' (q.wid (by decide))))
theorem J_wets {a : Int32} (hc : c < 512) (h : Inv c A F X) : J c yX9_wets KX9_wets yX10_wets KX10_wets [.int a] A F X :=
  J_read hc h (fun t => s_wets t a) (fun Q g r H => cP_wets g.1 g.2.1 (by omega) r (fun A' q => H A' (q.wid (by decide)))) (fun A1 Q g H => cM_wets g (fun A' q => H A' (q.wid (by decide))))
theorem J_deepest {a b : Int32} (hc : c < 512) (h : Inv c A F X) : J c yX9_deepest KX9_deepest yX10_deepest KX10_deepest [.int a, .int b] A F X :=
  J_read hc h (fun t => s_deepest t a b) (fun Q g r H => cP_deepest g.1 g.2.1 (by omega) r (fun A' q => H A' (q.wid (by decide)))) (fun A1 Q g H => cM_deepest g (fun A' q => H A' (q.wid (by decide))))
theorem J_walled {a b d : Int32} (hc : c < 512) (h : Inv c A F X) : J c yX9_walled KX9_walled yX10_walled KX10_walled [.int a, .int b, .int d] A F X :=
  J_read hc h (fun t => s_walled t a b d) (fun Q g r H => cP_walled g.1 g.2.1 (by omega) r (fun A' q => H A' (q.wid (by decide)))) (fun A1 Q g H => cM_walled g (fun A' q => H A' (q.wid (by decide))))
theorem J_enough {a b : Int32} (hc : c < 512) (h : Inv c A F X) : J c yX9_enough KX9_enough yX10_enough KX10_enough [.int a, .int b] A F X :=
  J_read hc h (fun t => s_enough t a b) (fun Q g r H => cP_enough g.1 g.2.1 (by omega) r (fun A' q => H A' (q.wid (by decide)))) (fun A1 Q g H => cM_enough g (fun A' q => H A' (q.wid (by decide))))
theorem J_fee (hc : c < 512) (h : Inv c A F X) : J c yX9_fee KX9_fee yX10_fee KX10_fee [] A F X :=
  J_read hc h (fun t => s_fee t) (fun Q g r H => cP_fee g.1 r (fun A' q => H A' (q.wid (by decide)))) (fun A1 Q g H => cM_fee g (fun A' q => H A' (q.wid (by decide))))
theorem J_fine {a : Int32} (hc : c < 512) (h : Inv c A F X) : J c yX9_fine KX9_fine yX10_fine KX10_fine [.int a] A F X :=
  J_read hc h (fun t => s_fine t a) (fun Q g r H => cP_fine g.1 r (fun A' q => H A' (q.wid (by decide)))) (fun A1 Q g H => cM_fine g (fun A' q => H A' (q.wid (by decide))))
theorem J_textTold {a b : Int32} (hc : c < 512) (h : Inv c A F X) : J c yX9_textTold KX9_textTold yX10_textTold KX10_textTold [.int a, .int b] A F X :=
  J_read hc h (fun t => s_textTold t a b) (fun Q g r H => cP_textTold g.1 r (H _ (qag.refl _ _))) (fun A1 Q g H => cM_textTold g (H _ (qag.refl _ _)))
theorem J_why {a : Int32} (hc : c < 512) (h : Inv c A F X) : J c yX9_why KX9_why yX10_why KX10_why [.int a] A F X :=
  J_read hc h (fun t => s_why t a) (fun Q g r H => cP_why g.1 r (H _ (qag.refl _ _))) (fun A1 Q g H => cM_why g (H _ (qag.refl _ _)))
end LAW
