/-! the texts' grammar, as both sides read it -/
def k_skip (p : Nat → Bool) : Nat → Nat → Nat
  | 0, i => i
  | d + 1, i => if p i = true then k_skip p d (i + 1) else i
theorem k_skip_ge (p : Nat → Bool) : ∀ d i, i ≤ k_skip p d i
  | 0, i => Nat.le_refl i
  | d + 1, i => by
    rw [k_skip]
    by_cases h : p i = true
    · rw [if_pos h]
      have := k_skip_ge p d (i + 1)
      omega
    · rw [if_neg h]; exact Nat.le_refl i
theorem k_skip_in {p : Nat → Bool} {n : Nat} (hp : ∀ j, p j = true → j < n) : ∀ d i, i ≤ n → k_skip p d i ≤ n
  | 0, i, h => h
  | d + 1, i, h => by
    rw [k_skip]
    by_cases g : p i = true
    · rw [if_pos g]
      exact k_skip_in hp d (i + 1) (hp i g)
    · rw [if_neg g]; exact h
theorem k_skip_all (p : Nat → Bool) : ∀ d i j, i ≤ j → j < k_skip p d i → p j = true
  | 0, i, j, h1, h2 => by rw [k_skip] at h2; omega
  | d + 1, i, j, h1, h2 => by
    rw [k_skip] at h2
    by_cases g : p i = true
    · rw [if_pos g] at h2
      by_cases e : j = i
      · rw [e]; exact g
      · exact k_skip_all p d (i + 1) j (by omega) h2
    · rw [if_neg g] at h2; omega
theorem k_skip_1 {p : Nat → Bool} {i : Nat} (h : p i = true) (d : Nat) : k_skip p (d + 1) i = k_skip p d (i + 1) := if_pos h
theorem k_skip_0 {p : Nat → Bool} {i : Nat} (h : ¬ p i = true) : ∀ d, k_skip p d i = i
  | 0 => rfl
  | _ + 1 => if_neg h
def k_sp (T : Nat → Int32) (n i : Nat) : Bool := decide (i < n ∧ T i = 32)
def k_L (T : Nat → Int32) (n i : Nat) : Bool := decide (i < n ∧ qIn 97 122 (T i))
def k_D (T : Nat → Int32) (n i : Nat) : Bool := decide (i < n ∧ qIn 48 57 (T i))
theorem k_sp_i {T : Nat → Int32} {n i : Nat} : k_sp T n i = true ↔ (i < n ∧ T i = 32) := by unfold k_sp; exact decide_eq_true_iff
theorem k_L_i {T : Nat → Int32} {n i : Nat} : k_L T n i = true ↔ (i < n ∧ qIn 97 122 (T i)) := by unfold k_L; exact decide_eq_true_iff
theorem k_D_i {T : Nat → Int32} {n i : Nat} : k_D T n i = true ↔ (i < n ∧ qIn 48 57 (T i)) := by unfold k_D; exact decide_eq_true_iff
def k_tok (T : Nat → Int32) (n srt e : Nat) : Nat × Nat × Nat :=
  if k_skip (k_sp T n) 96 e = n then (0, k_skip (k_sp T n) 96 e, k_skip (k_sp T n) 96 e) else
  if k_L T n (k_skip (k_sp T n) 96 e) = true then (if (srt = 1 ∨ srt = 2) ∧ k_skip (k_sp T n) 96 e = e then 4 else 1, k_skip (k_sp T n) 96 e, k_skip (k_L T n) 96 (k_skip (k_sp T n) 96 e)) else
  if k_D T n (k_skip (k_sp T n) 96 e) = true then (if ((srt = 1 ∨ srt = 2) ∧ k_skip (k_sp T n) 96 e = e) ∨ 4 < k_skip (k_D T n) 96 (k_skip (k_sp T n) 96 e) - k_skip (k_sp T n) 96 e then 4 else 2, k_skip (k_sp T n) 96 e, k_skip (k_D T n) 96 (k_skip (k_sp T n) 96 e)) else
  (3, k_skip (k_sp T n) 96 e, k_skip (k_sp T n) 96 e + 1)
/-- a token: its sort, where it begins, where it ends -/
def k_ok (T : Nat → Int32) (n : Nat) (x : Nat × Nat × Nat) : Prop := x.2.1 ≤ x.2.2 ∧ x.2.2 ≤ n ∧ x.1 < 5 ∧ (x.1 ≠ 0 → x.2.1 < x.2.2) ∧ (x.1 = 1 → ∀ j, x.2.1 ≤ j → j < x.2.2 → qIn 97 122 (T j)) ∧ (x.1 = 2 → (∀ j, x.2.1 ≤ j → j < x.2.2 → qIn 48 57 (T j)) ∧ x.2.2 - x.2.1 ≤ 4)
theorem k_tok_ok (T : Nat → Int32) {n e : Nat} (srt : Nat) (he : e ≤ n) : k_ok T n (k_tok T n srt e) ∧ e ≤ (k_tok T n srt e).2.1 := by
  have h1 := k_skip_ge (k_sp T n) 96 e
  have h2 := k_skip_in (p := k_sp T n) (n := n) (fun j hj => (k_sp_i.mp hj).1) 96 e he
  unfold k_tok
  generalize k_skip (k_sp T n) 96 e = s at h1 h2 ⊢
  by_cases g0 : s = n
  · rw [if_pos g0]
    exact ⟨⟨Nat.le_refl _, h2, Nat.le_of_ble_eq_true rfl, fun z => absurd rfl z, fun z => Nat.noConfusion z, fun z => Nat.noConfusion z⟩, h1⟩
  rw [if_neg g0]
  by_cases g1 : k_L T n s = true
  · rw [if_pos g1]
    have a1 := k_skip_ge (k_L T n) 95 (s + 1)
    have a1 : s + 1 ≤ k_skip (k_L T n) 96 s := by rw [k_skip_1 g1 95]; exact a1
    have a2 := k_skip_in (p := k_L T n) (n := n) (fun j hj => (k_L_i.mp hj).1) 96 s h2
    refine ⟨⟨by dsimp only; omega, a2, ?_, fun _ => a1, fun _ j b1 b2 => (k_L_i.mp (k_skip_all _ _ _ j b1 b2)).2, fun z => ?_⟩, h1⟩
    · dsimp only
      by_cases g : (srt = 1 ∨ srt = 2) ∧ s = e
      · rw [if_pos g]; omega
      · rw [if_neg g]; omega
    · dsimp only at z
      by_cases g : (srt = 1 ∨ srt = 2) ∧ s = e
      · rw [if_pos g] at z; omega
      · rw [if_neg g] at z; omega
  rw [if_neg g1]
  by_cases g2 : k_D T n s = true
  · rw [if_pos g2]
    have a1 := k_skip_ge (k_D T n) 95 (s + 1)
    have a1 : s + 1 ≤ k_skip (k_D T n) 96 s := by rw [k_skip_1 g2 95]; exact a1
    have a2 := k_skip_in (p := k_D T n) (n := n) (fun j hj => (k_D_i.mp hj).1) 96 s h2
    refine ⟨⟨by dsimp only; omega, a2, ?_, fun _ => a1, fun z => ?_, fun z => ⟨fun j b1 b2 => (k_D_i.mp (k_skip_all _ _ _ j b1 b2)).2, ?_⟩⟩, h1⟩
    · dsimp only
      by_cases g : ((srt = 1 ∨ srt = 2) ∧ s = e) ∨ 4 < k_skip (k_D T n) 96 s - s
      · rw [if_pos g]; omega
      · rw [if_neg g]; omega
    · dsimp only at z
      by_cases g : ((srt = 1 ∨ srt = 2) ∧ s = e) ∨ 4 < k_skip (k_D T n) 96 s - s
      · rw [if_pos g] at z; omega
      · rw [if_neg g] at z; omega
    · dsimp only at z ⊢
      by_cases g : ((srt = 1 ∨ srt = 2) ∧ s = e) ∨ 4 < k_skip (k_D T n) 96 s - s
      · rw [if_pos g] at z; omega
      · omega
  rw [if_neg g2]
  exact ⟨⟨by dsimp only; omega, by dsimp only; omega, Nat.le_of_ble_eq_true rfl, fun _ => by dsimp only; omega, fun z => absurd (show 3 = 1 from z) (by decide), fun z => absurd (show 3 = 2 from z) (by decide)⟩, h1⟩
def k_num (T : Nat → Int32) (s : Nat) : Nat → Int32
  | 0 => 0
  | k + 1 => 10 * k_num T s k + T (s + k) - 48
theorem k_num_nat (T : Nat → Int32) (s : Nat) : ∀ k, k ≤ 4 → (∀ j, s ≤ j → j < s + k → qIn 48 57 (T j)) → ∃ v, v < 10 ^ k ∧ k_num T s k = nI v
  | 0, _, _ => ⟨0, by decide, rfl⟩
  | k + 1, hk, h => by
    obtain ⟨v, hv, e⟩ := k_num_nat T s k (by omega) (fun j a b => h j a (by omega))
    have hd := h (s + k) (by omega) (by omega)
    obtain ⟨m, m1, m2, m3⟩ := qIn_nat (x := T (s + k)) (hi := 57) ⟨by omega, hd.2⟩
    have hm : 48 ≤ m := by
      have := hd.1
      rw [m3, nIi m2] at this
      omega
    have h10 : (10 : Nat) ^ k ≤ 1000 := by
      have : k = 0 ∨ k = 1 ∨ k = 2 ∨ k = 3 := by omega
      rcases this with q | q | q | q <;> subst q <;> decide
    refine ⟨10 * v + (m - 48), ?_, ?_⟩
    · rw [Nat.pow_succ]; omega
    · rw [k_num, e, m3, show (10 : Int32) * nI v = nI (10 * v) from pk_mul 10 v, nI_add, show (48 : Int32) = nI 48 from rfl, nI_sub1 (by omega)]
      congr 1
      omega
abbrev kS : Type := (Nat × Nat × Nat) × Nat × List (Int32 × Int32)
abbrev kQ : Type := kS ⊕ Nat
def k_nx (T : Nat → Int32) (n : Nat) (x : kS) : kS := (k_tok T n x.1.1 x.1.2.2, x.2)
def k_ad (x : kS) (w v : Int32) : kS := (x.1, x.2.1, x.2.2 ++ [(w, v)])
def k_lf (x : kS) (w v : Int32) : kS := (x.1, x.2.1 + 1, x.2.2 ++ [(w, v)])
def k_in (T : Nat → Int32) (x : kS) (ok : Int32 → Bool) : Bool := decide (x.1.1 = 3) && ok (T x.1.2.1)
theorem k_in_i {T : Nat → Int32} {x : kS} {ok : Int32 → Bool} : k_in T x ok = true ↔ (x.1.1 = 3 ∧ ok (T x.1.2.1) = true) := by
  unfold k_in
  rw [Bool.and_eq_true, decide_eq_true_iff]
def k_loop (T : Nat → Int32) (n : Nat) (p : kS → kQ) (ok : Int32 → Bool) : Nat → kS → kQ
  | 0, x => .inl x
  | d + 1, x => if k_in T x ok = true then (match p (k_nx T n x) with
    | .inr e => .inr e
    | .inl y => k_loop T n p ok d (k_ad y 2 (T x.1.2.1))) else .inl x
def k_chain (T : Nat → Int32) (n d : Nat) (ok : Int32 → Bool) (p : kS → kQ) (x : kS) : kQ := match p x with
  | .inr e => .inr e
  | .inl y => k_loop T n p ok d y
def ok_or : Int32 → Bool := fun c => decide (c = 124)
def ok_and : Int32 → Bool := fun c => decide (c = 38)
def ok_cmp : Int32 → Bool := fun c => decide (c = 60 ∨ c = 61 ∨ c = 62)
def ok_sum : Int32 → Bool := fun c => decide (c = 43 ∨ c = 45)
def ok_mul : Int32 → Bool := fun c => decide (c = 42 ∨ c = 47)
def ok_not : Int32 → Bool := fun c => decide (c = 33)
def ok_open : Int32 → Bool := fun c => decide (c = 40)
def ok_clos : Int32 → Bool := fun c => decide (c = 41)
def alwb (key : Nat) (v : Int32) : Bool := decide ((key = 0 ∧ (v = 98 ∨ v = 116 ∨ v = 112)) ∨ (key = 1 ∧ (v = 97 ∨ v = 112)) ∨ (key = 2 ∧ (v = 97 ∨ v = 99)))
theorem alwb_i {key : Nat} {v : Int32} : alwb key v = true ↔ alw key v := by unfold alwb alw; exact decide_eq_true_iff
def k_term (T : Nat → Int32) (n : Nat) (p : kS → kQ) : kS → kQ := k_chain T n 96 ok_mul p
def k_sum (T : Nat → Int32) (n : Nat) (p : kS → kQ) : kS → kQ := k_chain T n 96 ok_sum (k_term T n p)
def k_test (T : Nat → Int32) (n : Nat) (p : kS → kQ) : kS → kQ := k_chain T n 1 ok_cmp (k_sum T n p)
def k_both (T : Nat → Int32) (n : Nat) (p : kS → kQ) : kS → kQ := k_chain T n 96 ok_and (k_test T n p)
def k_expr (T : Nat → Int32) (n : Nat) (p : kS → kQ) : kS → kQ := k_chain T n 96 ok_or (k_both T n p)
def k_part (T : Nat → Int32) (n key : Nat) : Nat → Nat → Nat → kS → kQ
  | 0, _, _, x => .inr x.1.2.1
  | f + 1, dp, tn, x =>
    if x.1.1 = 2 then .inl (k_nx T n (k_lf x 0 (k_num T x.1.2.1 (x.1.2.2 - x.1.2.1)))) else
    if x.1.1 = 1 ∧ x.1.2.2 - x.1.2.1 = 1 ∧ alwb key (T x.1.2.1) = true then .inl (k_nx T n (k_lf x 1 (T x.1.2.1))) else
    if k_in T x ok_not = true ∧ tn < 8 then (match k_part T n key f dp (tn + 1) (k_nx T n x) with
      | .inr e => .inr e
      | .inl y => .inl (k_ad y 2 33)) else
    if k_in T x ok_open = true ∧ dp < 8 then (match k_expr T n (k_part T n key f (dp + 1) tn) (k_nx T n x) with
      | .inr e => .inr e
      | .inl y => if k_in T y ok_clos = true then .inl (k_nx T n y) else .inr y.1.2.1) else
    .inr x.1.2.1
/-! what a reading gives -/
def k_sgs : List Int32 := [38, 42, 43, 45, 47, 60, 61, 62, 124]
def k_stp (key : Nat) (ds : List (Int32 × Int32)) : Prop := ∀ x ∈ ds, (x.1 = 0 ∧ ∃ j, j < 10000 ∧ x.2 = nI j) ∨ (x.1 = 1 ∧ alw key x.2) ∨ (x.1 = 2 ∧ (x.2 = 33 ∨ x.2 ∈ k_sgs))
def k_runs (nm : Nat → Int32) : List (Int32 × Int32) → List Int32 → Option (List Int32)
  | [], st => some st
  | x :: r, st => match f_stp nm x.1 x.2 st with
    | none => none
    | some st' => k_runs nm r st'
theorem k_runs_app (nm : Nat → Int32) : ∀ (a b : List (Int32 × Int32)) (st st' : List Int32), k_runs nm a st = some st' → k_runs nm (a ++ b) st = k_runs nm b st'
  | [], b, st, st', h => by cases h; rfl
  | x :: r, b, st, st', h => by
    rw [List.cons_append, k_runs]
    rw [k_runs] at h
    cases hs : f_stp nm x.1 x.2 st with
    | none => rw [hs] at h; cases h
    | some s1 =>
      rw [hs] at h
      exact k_runs_app nm r b s1 st' h
def k_one (ds : List (Int32 × Int32)) : Prop := ∀ (nm : Nat → Int32) (st : List Int32), ∃ v, k_runs nm ds st = some (v :: st)
def k_to (T : Nat → Int32) (n key : Nat) (x y : kS) : Prop := k_ok T n y.1 ∧ x.1.2.1 < y.1.2.1 ∧ ∃ ds, y.2.2 = x.2.2 ++ ds ∧ ds.length + x.1.2.1 ≤ y.1.2.1 ∧ k_stp key ds ∧ k_one ds
def k_sub (T : Nat → Int32) (n key : Nat) (p : kS → kQ) : Prop := ∀ x, k_ok T n x.1 → (∀ y, p x = .inl y → k_to T n key x y) ∧ ∀ e, p x = .inr e → e ≤ n
theorem k_ok_nx {T : Nat → Int32} {n : Nat} {x : kS} (h : k_ok T n x.1) : k_ok T n (k_nx T n x).1 ∧ x.1.2.2 ≤ (k_nx T n x).1.2.1 := k_tok_ok T x.1.1 h.2.1
theorem k_one_join {a b : List (Int32 × Int32)} {c : Int32} (ha : k_one a) (hb : k_one b) (hc : ¬ c = 33) : k_one (a ++ (b ++ [(2, c)])) := by
  intro nm st
  obtain ⟨v, hv⟩ := ha nm st
  obtain ⟨w, hw⟩ := hb nm (v :: st)
  refine ⟨f_join c v w, ?_⟩
  rw [k_runs_app nm a _ st _ hv, k_runs_app nm b _ _ _ hw]
  rw [k_runs, f_stp, if_pos rfl, if_neg hc]
  rfl
theorem k_stp_app {key : Nat} {a b : List (Int32 × Int32)} (ha : k_stp key a) (hb : k_stp key b) : k_stp key (a ++ b) := fun x hx => (List.mem_append.mp hx).elim (ha x) (hb x)
theorem k_loop_to {T : Nat → Int32} {n key : Nat} {p : kS → kQ} {ok : Int32 → Bool} (hp : k_sub T n key p) (ho : ∀ c, ok c = true → c ∈ k_sgs) {x0 : kS} : ∀ (d : Nat) (x : kS), k_to T n key x0 x → (∀ y, k_loop T n p ok d x = .inl y → k_to T n key x0 y) ∧ ∀ e, k_loop T n p ok d x = .inr e → e ≤ n
  | 0, x, h => ⟨fun y e => by cases e; exact h, fun e h => by cases h⟩
  | d + 1, x, h => by
    rw [k_loop]
    by_cases g : k_in T x ok = true
    · rw [if_pos g]
      obtain ⟨g1, g2⟩ := k_in_i.mp g
      obtain ⟨h1, h2, ds, h3, h4, h5, h6⟩ := h
      obtain ⟨a1, a2⟩ := k_ok_nx h1
      obtain ⟨p1, p2⟩ := hp _ a1
      have hlt := h1.2.2.2.1 (by omega)
      cases hq : p (k_nx T n x) with
      | inr e => exact ⟨fun y z => (by cases z), fun e' z => by cases z; exact p2 e hq⟩
      | inl y =>
        obtain ⟨b1, b2, es, b3, b4, b5, b6⟩ := p1 y hq
        have hc : ¬ T x.1.2.1 = 33 := fun z => by
          have := ho _ g2
          rw [z] at this
          revert this
          decide
        refine k_loop_to hp ho d (k_ad y 2 (T x.1.2.1)) ⟨b1, ?_, ds ++ (es ++ [(2, T x.1.2.1)]), ?_, ?_, ?_, ?_⟩
        · show x0.1.2.1 < y.1.2.1
          omega
        · show y.2.2 ++ [(2, T x.1.2.1)] = _
          rw [b3]
          show x.2.2 ++ es ++ [(2, T x.1.2.1)] = _
          rw [h3, List.append_assoc, List.append_assoc]
        · show (ds ++ (es ++ [(2, T x.1.2.1)])).length + x0.1.2.1 ≤ y.1.2.1
          rw [List.length_append, List.length_append, List.length_singleton]
          omega
        · exact k_stp_app h5 (k_stp_app b5 (fun z hz => by
            rw [List.mem_singleton] at hz
            subst hz
            exact Or.inr (Or.inr ⟨rfl, Or.inr (ho _ g2)⟩)))
        · exact k_one_join h6 b6 hc
    · rw [if_neg g]
      exact ⟨fun y e => by cases e; exact h, fun e z => by cases z⟩
theorem k_chain_to {T : Nat → Int32} {n key d : Nat} {p : kS → kQ} {ok : Int32 → Bool} (hp : k_sub T n key p) (ho : ∀ c, ok c = true → c ∈ k_sgs) : k_sub T n key (k_chain T n d ok p) := by
  intro x hx
  obtain ⟨p1, p2⟩ := hp x hx
  unfold k_chain
  cases hq : p x with
  | inr e => exact ⟨fun y z => (by cases z), fun e' z => by cases z; exact p2 e hq⟩
  | inl y => exact k_loop_to hp ho d y (p1 y hq)
theorem ok_or_s : ∀ c, ok_or c = true → c ∈ k_sgs := fun c h => by
  have h := of_decide_eq_true h
  subst h; decide
theorem ok_and_s : ∀ c, ok_and c = true → c ∈ k_sgs := fun c h => by
  have h := of_decide_eq_true h
  subst h; decide
theorem ok_cmp_s : ∀ c, ok_cmp c = true → c ∈ k_sgs := fun c h => by
  rcases of_decide_eq_true h with h | h | h <;> subst h <;> decide
theorem ok_sum_s : ∀ c, ok_sum c = true → c ∈ k_sgs := fun c h => by
  rcases of_decide_eq_true h with h | h <;> subst h <;> decide
theorem ok_mul_s : ∀ c, ok_mul c = true → c ∈ k_sgs := fun c h => by
  rcases of_decide_eq_true h with h | h <;> subst h <;> decide
theorem k_term_to {T : Nat → Int32} {n key : Nat} {p : kS → kQ} (hp : k_sub T n key p) : k_sub T n key (k_term T n p) := k_chain_to hp ok_mul_s
theorem k_sum_to {T : Nat → Int32} {n key : Nat} {p : kS → kQ} (hp : k_sub T n key p) : k_sub T n key (k_sum T n p) := k_chain_to (k_term_to hp) ok_sum_s
theorem k_test_to {T : Nat → Int32} {n key : Nat} {p : kS → kQ} (hp : k_sub T n key p) : k_sub T n key (k_test T n p) := k_chain_to (k_sum_to hp) ok_cmp_s
theorem k_both_to {T : Nat → Int32} {n key : Nat} {p : kS → kQ} (hp : k_sub T n key p) : k_sub T n key (k_both T n p) := k_chain_to (k_test_to hp) ok_and_s
theorem k_expr_to {T : Nat → Int32} {n key : Nat} {p : kS → kQ} (hp : k_sub T n key p) : k_sub T n key (k_expr T n p) := k_chain_to (k_both_to hp) ok_or_s
theorem k_leaf_to {T : Nat → Int32} {n key : Nat} {x : kS} (hx : k_ok T n x.1) (h0 : x.1.1 ≠ 0) {w v : Int32} (hw : ¬ w = 2) (hs : (w = 0 ∧ ∃ j, j < 10000 ∧ v = nI j) ∨ (w = 1 ∧ alw key v)) : k_to T n key x (k_nx T n (k_lf x w v)) := by
  obtain ⟨a1, a2⟩ := k_ok_nx (x := k_lf x w v) hx
  have hlt := hx.2.2.2.1 h0
  have a2 : x.1.2.2 ≤ (k_nx T n (k_lf x w v)).1.2.1 := a2
  refine ⟨a1, by omega, [(w, v)], rfl, by rw [List.length_singleton]; omega, fun z hz => ?_, fun nm st => ?_⟩
  · rw [List.mem_singleton] at hz
    subst hz
    exact hs.elim Or.inl (fun q => Or.inr (Or.inl q))
  · refine ⟨if w = 0 then v else nm v.toNatClampNeg, ?_⟩
    have e : f_stp nm w v st = some ((if w = 0 then v else nm v.toNatClampNeg) :: st) := by
      unfold f_stp
      rw [if_neg hw]
    rw [k_runs]
    dsimp only
    rw [e]
    rfl
theorem k_part_to (T : Nat → Int32) (n key : Nat) : ∀ f dp tn, k_sub T n key (k_part T n key f dp tn)
  | 0, dp, tn, x, hx => ⟨fun y z => (by cases z), fun e z => by
      cases z
      have := hx.1
      have := hx.2.1
      omega⟩
  | f + 1, dp, tn, x, hx => by
    have hle : x.1.2.1 ≤ n := Nat.le_trans hx.1 hx.2.1
    obtain ⟨a1, a2⟩ := k_ok_nx hx
    rw [k_part]
    by_cases g2 : x.1.1 = 2
    · rw [if_pos g2]
      obtain ⟨b1, b2⟩ := hx.2.2.2.2.2 g2
      have hlt := hx.2.2.2.1 (by omega)
      obtain ⟨v, v1, v2⟩ := k_num_nat T x.1.2.1 (x.1.2.2 - x.1.2.1) b2 (fun j c1 c2 => b1 j c1 (by omega))
      have h4 : (10 : Nat) ^ (x.1.2.2 - x.1.2.1) ≤ 10000 := by
        generalize x.1.2.2 - x.1.2.1 = q at b2
        have : q = 0 ∨ q = 1 ∨ q = 2 ∨ q = 3 ∨ q = 4 := by omega
        rcases this with q | q | q | q | q <;> subst q <;> decide
      exact ⟨fun y z => by cases z; exact k_leaf_to hx (by omega) (by decide) (Or.inl ⟨rfl, v, by omega, v2⟩), fun e z => by cases z⟩
    rw [if_neg g2]
    by_cases g1 : x.1.1 = 1 ∧ x.1.2.2 - x.1.2.1 = 1 ∧ alwb key (T x.1.2.1) = true
    · rw [if_pos g1]
      exact ⟨fun y z => by cases z; exact k_leaf_to hx (by omega) (by decide) (Or.inr ⟨rfl, alwb_i.mp g1.2.2⟩), fun e z => by cases z⟩
    rw [if_neg g1]
    by_cases g3 : k_in T x ok_not = true ∧ tn < 8
    · rw [if_pos g3]
      have s3 := (k_in_i.mp g3.1).1
      have hlt := hx.2.2.2.1 (by omega)
      obtain ⟨p1, p2⟩ := k_part_to T n key f dp (tn + 1) _ a1
      cases hq : k_part T n key f dp (tn + 1) (k_nx T n x) with
      | inr e => exact ⟨fun y z => (by cases z), fun e' z => by cases z; exact p2 e hq⟩
      | inl y =>
        obtain ⟨b1, b2, es, b3, b4, b5, b6⟩ := p1 y hq
        refine ⟨fun y' z => ?_, fun e z => by cases z⟩
        cases z
        refine ⟨b1, ?_, es ++ [(2, 33)], ?_, ?_, ?_, ?_⟩
        · show x.1.2.1 < y.1.2.1
          omega
        · show y.2.2 ++ [(2, 33)] = _
          rw [b3, List.append_assoc]
          rfl
        · show (es ++ [(2, 33)]).length + x.1.2.1 ≤ y.1.2.1
          rw [List.length_append, List.length_singleton]
          omega
        · exact k_stp_app b5 (fun z hz => by
            rw [List.mem_singleton] at hz
            subst hz
            exact Or.inr (Or.inr ⟨rfl, Or.inl rfl⟩))
        · intro nm st
          obtain ⟨v, hv⟩ := b6 nm st
          refine ⟨if v = 0 then 1 else 0, ?_⟩
          rw [k_runs_app nm es _ st _ hv, k_runs, f_stp, if_pos rfl, if_pos rfl]
          rfl
    rw [if_neg g3]
    by_cases g4 : k_in T x ok_open = true ∧ dp < 8
    · rw [if_pos g4]
      have s3 := (k_in_i.mp g4.1).1
      have hlt := hx.2.2.2.1 (by omega)
      obtain ⟨p1, p2⟩ := k_expr_to (k_part_to T n key f (dp + 1) tn) _ a1
      cases hq : k_expr T n (k_part T n key f (dp + 1) tn) (k_nx T n x) with
      | inr e => exact ⟨fun y z => (by cases z), fun e' z => by cases z; exact p2 e hq⟩
      | inl y =>
        obtain ⟨b1, b2, es, b3, b4, b5, b6⟩ := p1 y hq
        dsimp only
        by_cases g5 : k_in T y ok_clos = true
        · rw [if_pos g5]
          refine ⟨fun y' z => ?_, fun e z => by cases z⟩
          cases z
          obtain ⟨c1, c2⟩ := k_ok_nx b1
          have := b1.1
          refine ⟨c1, by omega, es, b3, by omega, b5, b6⟩
        · rw [if_neg g5]
          refine ⟨fun y' z => (by cases z), fun e z => ?_⟩
          cases z
          exact Nat.le_trans b1.1 b1.2.1
    · rw [if_neg g4]
      exact ⟨fun y z => (by cases z), fun e z => by cases z; exact hle⟩
