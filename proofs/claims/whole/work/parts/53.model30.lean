/-! the reference: nextToken -/
def k_tok2 (T : Nat → Int32) (n : Nat) (b : Bool) (s : Nat) : Nat × Nat × Nat :=
  if s = n then (0, s, s) else if k_L T n s = true then (if b = true then 4 else 1, s, k_skip (k_L T n) 96 s) else
  if k_D T n s = true then (if b = true ∨ 4 < k_skip (k_D T n) 96 s - s then 4 else 2, s, k_skip (k_D T n) 96 s) else (3, s, s + 1)
theorem k_tok_2 (T : Nat → Int32) (n srt e : Nat) : k_tok T n srt e = k_tok2 T n (decide ((srt = 1 ∨ srt = 2) ∧ k_skip (k_sp T n) 96 e = e)) (k_skip (k_sp T n) 96 e) := by
  unfold k_tok k_tok2
  simp only [decide_eq_true_iff]
def bI (b : Bool) : Int32 := match b with
  | true => 1
  | false => 0
/-- the reference's fields say the token -/
def kR (T : Nat → Int32) (F : qF) (n : Nat) (x : Nat × Nat × Nat) : Prop := F 61 = nI n ∧ F 62 = nI x.2.1 ∧ F 63 = nI x.2.2 ∧ F 64 = nI x.1 ∧ (x.1 = 2 → F 65 = k_num T x.2.1 (x.2.2 - x.2.1)) ∧ (x.1 = 1 → F 66 = if x.2.2 - x.2.1 = 1 then T x.2.1 else 0) ∧ (x.1 = 3 → F 66 = T x.2.1)
section MOD
variable {A A1 : qA} {F : qF} {X : qX} {Q : pz_Q} {M : pz_M}
set_option maxRecDepth 8000 in
theorem tM_nt_sp {n : Nat} {g w : Int32} {s : Nat} (hn : n ≤ 96) (h61 : F 61 = nI n) (h : ∀ F1 : qF, qagF [63] F F1 → F1 63 = nI s → pz_T z0 KX10_nextToken Q 72 (0, 0) [some (.ref 69), some (.int g), some (.int w)] [] (mem A F1 X)) : ∀ (d i : Nat), n ≤ d + i → i ≤ n → s = k_skip (k_sp (A 34) n) d i → ∀ F1 : qF, qagF [63] F F1 → F1 63 = nI i → pz_T z0 KX10_nextToken Q 34 (0, 0) [some (.ref 69), some (.int g), some (.int w)] [] (mem A F1 X) := by
  intro d
  induction d with
  | zero =>
    intro i hi hi2 hs F1 hF e3
    have e1 : F1 61 = nI n := by rw [hF 61 (by simp)]; exact h61
    refine pz_wp_ok (pz_Is_ok SX10_nextToken) [34, 72] 100 ?_
    refine br1 (fun z => z ?_) ?_
    · show F1 61 ≤ F1 63
      rw [e1, e3]; exact nI_le (by omega) (by omega)
    · rw [k_skip] at hs
      subst hs
      exact h F1 hF e3
  | succ d ih =>
    intro i hi hi2 hs F1 hF e3
    have e1 : F1 61 = nI n := by rw [hF 61 (by simp)]; exact h61
    have c3 := qcl _ e3 (by omega)
    refine pz_wp_ok (pz_Is_ok SX10_nextToken) [34, 72] 100 ?_
    by_cases g1 : i < n
    · refine br2 (fun z => ?_) ?_
      · have z : F1 61 ≤ F1 63 := z
        rw [e1, e3] at z
        exact n_ge (by omega) (by omega) g1 z
      refine ⟨qin i e3 (by omega) (by omega), ?_⟩
      refine ⟨fun g2 => ?_, fun g2 => ?_⟩
      · have g2 : ¬ A 34 (F1 63).toNatClampNeg = 32 := g2
        rw [c3] at g2
        rw [k_skip_0 (fun z => g2 (k_sp_i.mp z).2)] at hs
        subst hs
        exact h F1 hF e3
      · have g2 : A 34 (F1 63).toNatClampNeg = 32 := g2
        rw [c3] at g2
        rw [k_skip_1 (k_sp_i.mpr ⟨g1, g2⟩)] at hs
        exact ih (i + 1) (by omega) (by omega) hs (upd F1 63 (F1 63 + 1)) (hF.trans (qagF.up (by simp))) (by rw [upd_at, e3]; exact nI_1 i)
    · refine br1 (fun z => z ?_) ?_
      · show F1 61 ≤ F1 63
        rw [e1, e3]; exact nI_le (by omega) (by omega)
      · rw [k_skip_0 (fun z => g1 (k_sp_i.mp z).1)] at hs
        subst hs
        exact h F1 hF e3
set_option maxRecDepth 8000 in
theorem tM_nt_L {n : Nat} {x1 x2 : Option Value} {s : Nat} (hn : n ≤ 96) (h61 : F 61 = nI n) (h : ∀ F1 : qF, qagF [63] F F1 → F1 63 = nI s → pz_T z0 KX10_nextToken Q 152 (0, 0) [some (.ref 69), x1, x2] [] (mem A F1 X)) : ∀ (d i : Nat), n ≤ d + i → i ≤ n → s = k_skip (k_L (A 34) n) d i → ∀ F1 : qF, qagF [63] F F1 → F1 63 = nI i → pz_T z0 KX10_nextToken Q 128 (0, 0) [some (.ref 69), x1, x2] [] (mem A F1 X) := by
  intro d
  induction d with
  | zero =>
    intro i hi hi2 hs F1 hF e3
    have e1 : F1 61 = nI n := by rw [hF 61 (by simp)]; exact h61
    refine pz_wp_ok (pz_Is_ok SX10_nextToken) [128, 152] 100 ?_
    refine cM_isLetter e1 hn e3 (by omega) (fun g => ?_) (fun g => ?_)
    · have := g.1
      omega
    · refine br1 (fun z => z rfl) ?_
      rw [k_skip] at hs
      subst hs
      exact h F1 hF e3
  | succ d ih =>
    intro i hi hi2 hs F1 hF e3
    have e1 : F1 61 = nI n := by rw [hF 61 (by simp)]; exact h61
    refine pz_wp_ok (pz_Is_ok SX10_nextToken) [128, 152] 100 ?_
    refine cM_isLetter e1 hn e3 (by omega) (fun g => ?_) (fun g => ?_)
    · refine br2 (by decide) ?_
      rw [k_skip_1 (k_L_i.mpr g)] at hs
      have := g.1
      exact ih (i + 1) (by omega) (by omega) hs (upd F1 63 (F1 63 + 1)) (hF.trans (qagF.up (by simp))) (by rw [upd_at, e3]; exact nI_1 i)
    · refine br1 (fun z => z rfl) ?_
      rw [k_skip_0 (fun z => g (k_L_i.mp z))] at hs
      subst hs
      exact h F1 hF e3
set_option maxRecDepth 8000 in
theorem tM_nt_D {n b : Nat} {x1 x2 : Option Value} {s : Nat} (hn : n ≤ 96) (h61 : F 61 = nI n) (h62 : F 62 = nI b) (h : ∀ F1 : qF, qagF [63, 65] F F1 → F1 63 = nI s → (s - b ≤ 4 → F1 65 = k_num (A 34) b (s - b)) → pz_T z0 KX10_nextToken Q 282 (0, 0) [some (.ref 69), x1, x2] [] (mem A F1 X)) : ∀ (d i : Nat), n ≤ d + i → b ≤ i → i ≤ n → s = k_skip (k_D (A 34) n) d i → ∀ F1 : qF, qagF [63, 65] F F1 → F1 63 = nI i → (i - b ≤ 4 → F1 65 = k_num (A 34) b (i - b)) → pz_T z0 KX10_nextToken Q 214 (0, 0) [some (.ref 69), x1, x2] [] (mem A F1 X) := by
  intro d
  induction d with
  | zero =>
    intro i hi hb hi2 hs F1 hF e3 e5
    have e1 : F1 61 = nI n := by rw [hF 61 (by simp)]; exact h61
    refine pz_wp_ok (pz_Is_ok SX10_nextToken) [214, 282] 100 ?_
    refine cM_isDigit e1 hn e3 (by omega) (fun g => ?_) (fun g => ?_)
    · have := g.1
      omega
    · refine br1 (fun z => z rfl) ?_
      rw [k_skip] at hs
      subst hs
      exact h F1 hF e3 e5
  | succ d ih =>
    intro i hi hb hi2 hs F1 hF e3 e5
    have e1 : F1 61 = nI n := by rw [hF 61 (by simp)]; exact h61
    have e2 : F1 62 = nI b := by rw [hF 62 (by simp)]; exact h62
    refine pz_wp_ok (pz_Is_ok SX10_nextToken) [214, 282] 100 ?_
    refine cM_isDigit e1 hn e3 (by omega) (fun g => ?_) (fun g => ?_)
    · refine br2 (by decide) ?_
      rw [k_skip_1 (k_D_i.mpr g)] at hs
      have hin := g.1
      have ed : F1 63 - F1 62 = nI (i - b) := by rw [e3, e2]; exact nI_sub1 hb
      have c3 := qcl _ e3 (by omega)
      refine ⟨fun g2 => ?_, fun g2 => ?_⟩
      · have g2 : (4 : Int32) ≤ F1 63 - F1 62 := g2
        rw [ed] at g2
        have g2 : nI 4 ≤ nI (i - b) := g2
        have g2 := (nI_leI (by omega) (by omega)).mp g2
        refine ih (i + 1) (by omega) (by omega) (by omega) hs (upd (upd F1 65 (F1 65)) 63 (F1 63 + 1)) ((hF.trans (qagF.up (by simp))).trans (qagF.up (by simp))) (by rw [upd_at, e3]; exact nI_1 i) (fun z => by omega)
      · have g2 : ¬ (4 : Int32) ≤ F1 63 - F1 62 := g2
        rw [ed] at g2
        have g2 : ¬ 4 ≤ i - b := fun z => g2 ((nI_leI (a := 4) (b := i - b) (by omega) (by omega)).mpr z)
        refine ⟨qin i e3 (by omega) (by omega), ?_⟩
        refine ih (i + 1) (by omega) (by omega) (by omega) hs (upd (upd F1 65 (10 * F1 65 + A 34 (F1 63).toNatClampNeg - 48)) 63 (F1 63 + 1)) ((hF.trans (qagF.up (by simp))).trans (qagF.up (by simp))) (by rw [upd_at, e3]; exact nI_1 i) (fun z => ?_)
        rw [upd_ne _ _ (by omega), upd_at, c3, e5 (by omega), show i + 1 - b = i - b + 1 by omega, k_num, show b + (i - b) = i by omega]
    · refine br1 (fun z => z rfl) ?_
      rw [k_skip_0 (fun z => g (k_D_i.mp z))] at hs
      subst hs
      exact h F1 hF e3 e5
set_option maxRecDepth 8000 in
theorem tM_nt2 {n s : Nat} {b : Bool} {x2 : Option Value} (hn : n ≤ 96) (hs : s ≤ n) (h61 : F 61 = nI n) (h62 : F 62 = nI s) (h63 : F 63 = nI s) (h : ∀ F' : qF, qagF [63, 64, 65, 66] F F' → kR (A 34) F' n (k_tok2 (A 34) n b s) → Q none (mem A F' X)) : pz_T z0 KX10_nextToken Q 98 (0, 0) [some (.ref 69), some (.int (bI b)), x2] [] (mem A F X) := by
  refine pz_wp_ok (pz_Is_ok SX10_nextToken) [128, 214] 100 ?_
  unfold k_tok2 at h
  by_cases g0 : s = n
  · rw [if_pos g0] at h
    refine br2 (fun z => z (by show F 62 = F 61; rw [h62, h61, g0])) ?_
    refine h (upd F 64 0) (qagF.up (by simp)) ⟨by rw [upd_ne _ _ (by omega)]; exact h61, by rw [upd_ne _ _ (by omega)]; exact h62, by rw [upd_ne _ _ (by omega)]; exact h63, upd_at _ _ _, fun z => Nat.noConfusion z, fun z => Nat.noConfusion z, fun z => Nat.noConfusion z⟩
  rw [if_neg g0] at h
  refine br1 (fun z => ?_) ?_
  · have z : F 62 = F 61 := z
    rw [h62, h61] at z
    exact g0 ((nI_eq (by omega) (by omega)).mp z)
  refine cM_isLetter h61 hn h62 (by omega) (fun g1 => ?_) (fun g1 => ?_)
  · refine br2 (by decide) ?_
    rw [if_pos (k_L_i.mpr g1)] at h
    have a1 := k_skip_ge (k_L (A 34) n) 96 s
    have a2 := k_skip_in (p := k_L (A 34) n) (n := n) (fun j hj => (k_L_i.mp hj).1) 96 s hs
    refine tM_nt_L (F := F) (s := k_skip (k_L (A 34) n) 96 s) hn h61 (fun F1 hF e3 => ?_) 96 s (by omega) hs rfl F (qagF.refl _ _) h63
    generalize k_skip (k_L (A 34) n) 96 s = e at h a1 a2 e3
    have e1 : F1 61 = nI n := by rw [hF 61 (by simp)]; exact h61
    have e2 : F1 62 = nI s := by rw [hF 62 (by simp)]; exact h62
    have ed : F1 63 - F1 62 = nI (e - s) := by rw [e3, e2]; exact nI_sub1 a1
    have c2 := qcl _ e2 (by omega)
    have fin : ∀ (tk : Nat) (le : Int32), tk < 5 → (tk = 1 ∨ tk = 4) → (le = if e - s = 1 then A 34 s else 0) → kR (A 34) (upd (upd F1 64 (nI tk)) 66 le) n (tk, s, e) := fun tk le _ h14 hle => ⟨by rw [upd_ne _ _ (by omega), upd_ne _ _ (by omega)]; exact e1, by rw [upd_ne _ _ (by omega), upd_ne _ _ (by omega)]; exact e2, by rw [upd_ne _ _ (by omega), upd_ne _ _ (by omega)]; exact e3, by rw [upd_ne _ _ (by omega)]; exact upd_at _ _ _, fun z => by
        have z : tk = 2 := z
        omega, fun _ => by rw [upd_at]; exact hle, fun z => by
        have z : tk = 3 := z
        omega⟩
    have agr : ∀ (tk le : Int32), qagF [63, 64, 65, 66] F (upd (upd F1 64 tk) 66 le) := fun tk le => ((show qagF [63, 64, 65, 66] F F1 from fun i hi => hF i (by simp at hi ⊢; omega)).trans (qagF.up (by simp))).trans (qagF.up (by simp))
    refine pz_wp_ok (pz_Is_ok SX10_nextToken) [] 100 ?_
    cases b with
    | true =>
      refine br2 (by decide) ?_
      refine ⟨fun g2 => ?_, fun g2 => ?_⟩
      · have g2 : ¬ F1 63 - F1 62 = 1 := g2
        rw [ed] at g2
        exact h (upd (upd F1 64 4) 66 0) (agr _ _) (fin 4 _ (by omega) (Or.inr rfl) (by rw [if_neg (fun z => g2 (by rw [z]; rfl))]))
      · have g2 : F1 63 - F1 62 = 1 := g2
        rw [ed] at g2
        have g2 : e - s = 1 := (nI_eq (a := e - s) (b := 1) (by omega) (by omega)).mp g2
        refine ⟨qin s e2 (by omega) (by omega), ?_⟩
        exact h (upd (upd F1 64 4) 66 (A 34 (F1 62).toNatClampNeg)) (agr _ _) (fin 4 _ (by omega) (Or.inr rfl) (by rw [if_pos g2, c2]))
    | false =>
      refine br1 (fun z => z rfl) ?_
      refine ⟨fun g2 => ?_, fun g2 => ?_⟩
      · have g2 : ¬ F1 63 - F1 62 = 1 := g2
        rw [ed] at g2
        exact h (upd (upd F1 64 1) 66 0) (agr _ _) (fin 1 _ (by omega) (Or.inl rfl) (by rw [if_neg (fun z => g2 (by rw [z]; rfl))]))
      · have g2 : F1 63 - F1 62 = 1 := g2
        rw [ed] at g2
        have g2 : e - s = 1 := (nI_eq (a := e - s) (b := 1) (by omega) (by omega)).mp g2
        refine ⟨qin s e2 (by omega) (by omega), ?_⟩
        exact h (upd (upd F1 64 1) 66 (A 34 (F1 62).toNatClampNeg)) (agr _ _) (fin 1 _ (by omega) (Or.inl rfl) (by rw [if_pos g2, c2]))
  refine br1 (fun z => z rfl) ?_
  rw [if_neg (fun z => g1 (k_L_i.mp z))] at h
  refine cM_isDigit h61 hn h62 (by omega) (fun g2 => ?_) (fun g2 => ?_)
  · refine br2 (by decide) ?_
    rw [if_pos (k_D_i.mpr g2)] at h
    have a1 := k_skip_ge (k_D (A 34) n) 96 s
    have a2 := k_skip_in (p := k_D (A 34) n) (n := n) (fun j hj => (k_D_i.mp hj).1) 96 s hs
    refine tM_nt_D (F := upd F 65 0) (b := s) (s := k_skip (k_D (A 34) n) 96 s) hn (by rw [upd_ne _ _ (by omega)]; exact h61) (by rw [upd_ne _ _ (by omega)]; exact h62) (fun F1 hF e3 e5 => ?_) 96 s (by omega) (Nat.le_refl _) hs rfl (upd F 65 0) (qagF.refl _ _) (by rw [upd_ne _ _ (by omega)]; exact h63) (fun _ => by rw [Nat.sub_self, upd_at]; rfl)
    generalize k_skip (k_D (A 34) n) 96 s = e at h a1 a2 e3 e5
    have e1 : F1 61 = nI n := by rw [hF 61 (by simp), upd_ne _ _ (by omega)]; exact h61
    have e2 : F1 62 = nI s := by rw [hF 62 (by simp), upd_ne _ _ (by omega)]; exact h62
    have ed : F1 63 - F1 62 = nI (e - s) := by rw [e3, e2]; exact nI_sub1 a1
    have agr : ∀ (tk : Int32), qagF [63, 64, 65, 66] F (upd F1 64 tk) := fun tk => ((qagF.up (F := F) (k := 65) (v := 0) (l := [63, 64, 65, 66]) (by simp)).trans (show qagF [63, 64, 65, 66] (upd F 65 0) F1 from fun i hi => hF i (by simp at hi ⊢; omega))).trans (qagF.up (by simp))
    have f2 : e - s ≤ 4 → kR (A 34) (upd F1 64 2) n (2, s, e) := fun h4 => ⟨by rw [upd_ne _ _ (by omega)]; exact e1, by rw [upd_ne _ _ (by omega)]; exact e2, by rw [upd_ne _ _ (by omega)]; exact e3, upd_at _ _ _, fun _ => by rw [upd_ne _ _ (by omega)]; exact e5 h4, fun z => absurd (show 2 = 1 from z) (by decide), fun z => absurd (show 2 = 3 from z) (by decide)⟩
    have f4 : kR (A 34) (upd F1 64 4) n (4, s, e) := ⟨by rw [upd_ne _ _ (by omega)]; exact e1, by rw [upd_ne _ _ (by omega)]; exact e2, by rw [upd_ne _ _ (by omega)]; exact e3, upd_at _ _ _, fun z => absurd (show 4 = 2 from z) (by decide), fun z => absurd (show 4 = 1 from z) (by decide), fun z => absurd (show 4 = 3 from z) (by decide)⟩
    refine pz_wp_ok (pz_Is_ok SX10_nextToken) [] 100 ?_
    cases b with
    | true =>
      refine br1 (by decide) ?_
      rw [if_pos (Or.inl rfl)] at h
      exact h _ (agr 4) f4
    | false =>
      refine br2 (fun z => z rfl) ?_
      refine ⟨fun g3 => ?_, fun g3 => ?_⟩
      · have g3 : F1 63 - F1 62 ≤ 4 := g3
        rw [ed] at g3
        have g3 : e - s ≤ 4 := (nI_leI (a := e - s) (b := 4) (by omega) (by omega)).mp g3
        rw [if_neg (fun z => z.elim (fun q => Bool.noConfusion q) (fun q => by omega))] at h
        exact h _ (agr 2) (f2 g3)
      · have g3 : ¬ F1 63 - F1 62 ≤ 4 := g3
        rw [ed] at g3
        have g3 : ¬ e - s ≤ 4 := fun z => g3 ((nI_leI (a := e - s) (b := 4) (by omega) (by omega)).mpr z)
        rw [if_pos (Or.inr (by omega))] at h
        exact h _ (agr 4) f4
  · refine br1 (fun z => z rfl) ?_
    rw [if_neg (fun z => g2 (k_D_i.mp z))] at h
    refine ⟨qin s h62 (by omega) (by omega), ?_⟩
    have c2 := qcl _ h62 (by omega)
    refine h (upd (upd (upd F 64 3) 66 (A 34 (F 62).toNatClampNeg)) 63 (F 63 + 1)) (((qagF.up (by simp)).trans (qagF.up (by simp))).trans (qagF.up (by simp))) ⟨?_, ?_, ?_, ?_, ?_, ?_, ?_⟩
    · rw [upd_ne _ _ (by omega), upd_ne _ _ (by omega), upd_ne _ _ (by omega)]; exact h61
    · rw [upd_ne _ _ (by omega), upd_ne _ _ (by omega), upd_ne _ _ (by omega)]; exact h62
    · rw [upd_at, h63]; exact nI_1 s
    · rw [upd_ne _ _ (by omega), upd_ne _ _ (by omega)]; exact upd_at _ _ _
    · exact fun z => absurd (show 3 = 2 from z) (by decide)
    · exact fun z => absurd (show 3 = 1 from z) (by decide)
    · intro _
      rw [upd_ne _ _ (by omega), upd_at, c2]
set_option maxRecDepth 8000 in
theorem tM_nt1 {n s e srt : Nat} {g : Int32} (hn : n ≤ 96) (hs : s ≤ n) (he : e ≤ n) (hg : (g = 1 ∧ (srt = 1 ∨ srt = 2)) ∨ (g = 0 ∧ ¬ (srt = 1 ∨ srt = 2))) (h61 : F 61 = nI n) (h63 : F 63 = nI s) (h : ∀ F' : qF, qagF [62, 63, 64, 65, 66] F F' → kR (A 34) F' n (k_tok2 (A 34) n (decide ((srt = 1 ∨ srt = 2) ∧ s = e)) s) → Q none (mem A F' X)) : pz_T z0 KX10_nextToken Q 72 (0, 0) [some (.ref 69), some (.int g), some (.int (nI e))] [] (mem A F X) := by
  have key : ∀ b : Bool, b = decide ((srt = 1 ∨ srt = 2) ∧ s = e) → pz_T z0 KX10_nextToken Q 98 (0, 0) [some (.ref 69), some (.int (bI b)), some (.int (nI e))] [] (mem A (upd F 62 (F 63)) X) := fun b hb => by
    subst hb
    refine tM_nt2 hn hs (by rw [upd_ne _ _ (by omega)]; exact h61) (by rw [upd_at]; exact h63) (by rw [upd_ne _ _ (by omega)]; exact h63) (fun F' hF hk => h F' ?_ hk)
    exact (qagF.up (by simp)).trans (fun i hi => hF i (by simp at hi ⊢; omega))
  refine pz_wp_ok (pz_Is_ok SX10_nextToken) [98] 100 ?_
  rcases hg with ⟨g1, g2⟩ | ⟨g1, g2⟩
  · subst g1
    refine br2 (by decide) ?_
    refine ⟨fun g3 => ?_, fun g3 => ?_⟩
    · have g3 : ¬ nI e = F 63 := g3
      rw [h63] at g3
      exact key false (decide_eq_false (fun z => g3 (by rw [z.2]))).symm
    · have g3 : nI e = F 63 := g3
      rw [h63] at g3
      have g3 := (nI_eq (by omega) (by omega)).mp g3
      exact key true (decide_eq_true ⟨g2, g3.symm⟩).symm
  · subst g1
    refine br1 (fun z => z rfl) ?_
    exact key false (decide_eq_false (fun z => g2 z.1)).symm
set_option maxRecDepth 8000 in
theorem cM_nextToken {n srt e : Nat} (hn : n ≤ 96) (he : e ≤ n) (hs : srt < 5) (hp : srt = 1 ∨ srt = 2 → 0 < e) (h61 : F 61 = nI n) (h63 : F 63 = nI e) (h64 : F 64 = nI srt) (h : ∀ F' : qF, qagF [62, 63, 64, 65, 66] F F' → kR (A 34) F' n (k_tok (A 34) n srt e) → Q none (mem A F' X)) : pz_C yX10_nextToken KX10_nextToken [.ref 69] (mem A F X) Q := by
  refine pz_C_of rfl rfl rfl (Nat.le_of_ble_eq_true rfl) (pz_wp_ok (pz_Is_ok SX10_nextToken) [34] 100 ?_)
  rw [k_tok_2] at h
  have h1 := k_skip_ge (k_sp (A 34) n) 96 e
  have h2 := k_skip_in (p := k_sp (A 34) n) (n := n) (fun j hj => (k_sp_i.mp hj).1) 96 e he
  have key : ∀ g : Int32, ((g = 1 ∧ (srt = 1 ∨ srt = 2)) ∨ (g = 0 ∧ ¬ (srt = 1 ∨ srt = 2))) → pz_T z0 KX10_nextToken Q 34 (0, 0) [some (.ref 69), some (.int g), some (.int (F 63))] [] (mem A F X) := fun g hg => by
    refine tM_nt_sp (F := F) (s := k_skip (k_sp (A 34) n) 96 e) hn h61 (fun F1 hF e3 => ?_) 96 e (by omega) he rfl F (qagF.refl _ _) h63
    generalize k_skip (k_sp (A 34) n) 96 e = s at h h1 h2 e3
    rw [h63]
    refine tM_nt1 hn h2 he hg (by rw [hF 61 (by simp)]; exact h61) e3 (fun F' hF' hk => h F' ?_ hk)
    exact (show qagF [62, 63, 64, 65, 66] F F1 from fun i hi => hF i (by simp at hi ⊢; omega)).trans hF'
  refine ⟨fun g0 => ?_, fun g0 => ?_⟩
  · have g0 : F 63 ≤ 0 := g0
    rw [h63] at g0
    have g0 : e ≤ 0 := (nI_leI (a := e) (b := 0) (by omega) (by omega)).mp g0
    exact key 0 (Or.inr ⟨rfl, fun z => by have := hp z; omega⟩)
  · refine ⟨fun g1 => ?_, fun g1 => ?_⟩
    · have g1 : F 64 = 1 := g1
      rw [h64] at g1
      have g1 : srt = 1 := (nI_eq (a := srt) (b := 1) (by omega) (by omega)).mp g1
      exact key 1 (Or.inl ⟨rfl, Or.inl g1⟩)
    · have g1 : ¬ F 64 = 1 := g1
      rw [h64] at g1
      refine ⟨fun g2 => ?_, fun g2 => ?_⟩
      · have g2 : ¬ F 64 = 2 := g2
        rw [h64] at g2
        exact key 0 (Or.inr ⟨rfl, fun z => z.elim (fun q => g1 (by rw [q]; rfl)) (fun q => g2 (by rw [q]; rfl))⟩)
      · have g2 : F 64 = 2 := g2
        rw [h64] at g2
        have g2 : srt = 2 := (nI_eq (a := srt) (b := 2) (by omega) (by omega)).mp g2
        exact key 1 (Or.inl ⟨rfl, Or.inr g2⟩)
end MOD
