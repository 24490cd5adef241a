/-! the fewest steps: a walk in breadth -/
theorem gD_app {l : List Nat} {i : Nat} (r : List Nat) (h : i < l.length) : (l ++ r).getD i 0 = l.getD i 0 := by
  unfold List.getD
  rw [List.getElem?_append_left h]
abbrev bS := (Nat → Option Nat) × List Nat
def bup (st : Nat → Option Nat) (o m : Nat) : Nat → Option Nat := fun j => if j = o then some m else st j
def f_bs (t : Nat → Int32) (p : Int32) (c : Nat) (σ : bS) (w : Nat) : bS := match nb c w with
  | none => σ
  | some o => if σ.1 o = none ∧ t (82 + o) ≤ p then (bup σ.1 o ((σ.1 c).getD 0 + 1), σ.2 ++ [o]) else σ
def f_br (t : Nat → Int32) (p : Int32) (c : Nat) : Nat → Nat → bS → bS
  | 0, _, σ => σ
  | d + 1, w, σ => f_br t p c d (w + 1) (f_bs t p c σ w)
def f_bq (t : Nat → Int32) (p : Int32) : Nat → Nat → bS → bS
  | 0, _, σ => σ
  | d + 1, k, σ => if k < σ.2.length then f_bq t p d (k + 1) (f_br t p (σ.2.getD k 0) 4 0 σ) else σ
def f_b0 (c : Nat) : bS := (bup (fun _ => none) c 0, [c])
def f_orn (o : Option Nat) : Int32 := match o with
  | none => -1000000005
  | some m => nI m
def s_path (t : Nat → Int32) (a b p : Int32) : Int32 := if qIn 0 35 a ∧ qIn 0 35 b ∧ qIn 0 9999 p then f_orn ((f_bq t p 36 0 (f_b0 a.toNatClampNeg)).1 b.toNatClampNeg) else BAD
def cst (st : Nat → Option Nat) : Nat → Nat
  | 0 => 0
  | n + 1 => cst st n + (if st n = none then 0 else 1)
theorem cst_le (st : Nat → Option Nat) : ∀ n, cst st n ≤ n
  | 0 => Nat.le_refl 0
  | n + 1 => by
    have := cst_le st n
    rw [cst]
    by_cases h : st n = none
    · rw [if_pos h]; omega
    · rw [if_neg h]; omega
theorem cst_out (st : Nat → Option Nat) {o m : Nat} : ∀ n, n ≤ o → cst (bup st o m) n = cst st n
  | 0, _ => rfl
  | n + 1, h => by
    rw [cst, cst, cst_out st n (by omega)]
    have : bup st o m n = st n := if_neg (by omega)
    rw [this]
theorem cst_up (st : Nat → Option Nat) {o m : Nat} (ho : st o = none) : ∀ n, o < n → cst (bup st o m) n = cst st n + 1
  | 0, h => absurd h (Nat.not_lt_zero _)
  | n + 1, h => by
    rw [cst, cst]
    by_cases e : n = o
    · subst e
      have : bup st n m n = some m := if_pos rfl
      rw [cst_out st n (Nat.le_refl n), this, if_neg (by simp), if_pos ho]
    · have : bup st o m n = st n := if_neg e
      rw [this, cst_up st ho n (by omega)]
      omega
def okB (σ : bS) : Prop := σ.2.length = cst σ.1 36 ∧ (∀ i, i < σ.2.length → σ.2.getD i 0 < 36) ∧ (∀ c m, σ.1 c = some m → m < σ.2.length) ∧ ∀ i, i < σ.2.length → ∃ m, σ.1 (σ.2.getD i 0) = some m
theorem okB.len {σ : bS} (h : okB σ) : σ.2.length = cst σ.1 36 := h.1
theorem okB.lt {σ : bS} (h : okB σ) : ∀ i, i < σ.2.length → σ.2.getD i 0 < 36 := h.2.1
theorem okB.sm {σ : bS} (h : okB σ) : ∀ c m, σ.1 c = some m → m < σ.2.length := h.2.2.1
theorem okB.got {σ : bS} (h : okB σ) : ∀ i, i < σ.2.length → ∃ m, σ.1 (σ.2.getD i 0) = some m := h.2.2.2
theorem okB.le {σ : bS} (h : okB σ) : σ.2.length ≤ 36 := by rw [h.len]; exact cst_le _ _
theorem okB.room {σ : bS} (h : okB σ) {o : Nat} (ho : o < 36) (hn : σ.1 o = none) : σ.2.length < 36 := by
  have h1 := cst_up σ.1 (m := 0) hn 36 ho
  have h2 := cst_le (bup σ.1 o 0) 36
  rw [h.len]; omega
theorem okB.app {σ : bS} (h : okB σ) {o c : Nat} (ho : o < 36) (hn : σ.1 o = none) {m : Nat} (hc : σ.1 c = some m) : okB (bup σ.1 o ((σ.1 c).getD 0 + 1), σ.2 ++ [o]) := by
  have hm := h.sm c m hc
  have hl : (σ.2 ++ [o]).length = σ.2.length + 1 := by simp
  refine ⟨?_, fun i hi => ?_, fun d x hx => ?_, fun i hi => ?_⟩
  · show (σ.2 ++ [o]).length = cst (bup σ.1 o _) 36
    rw [hl, cst_up σ.1 hn 36 ho, h.len]
  · have hi : i < (σ.2 ++ [o]).length := hi
    show (σ.2 ++ [o]).getD i 0 < 36
    rw [hl] at hi
    by_cases e : i < σ.2.length
    · rw [gD_app _ e]; exact h.lt i e
    · have e : i = σ.2.length := by omega
      subst e
      simpa [List.getD] using ho
  · show x < (σ.2 ++ [o]).length
    have hx : bup σ.1 o ((σ.1 c).getD 0 + 1) d = some x := hx
    unfold bup at hx
    rw [hl]
    by_cases e : d = o
    · rw [if_pos e, hc] at hx
      have : m + 1 = x := by simpa using hx
      omega
    · rw [if_neg e] at hx
      have := h.sm d x hx
      omega
  · have hi : i < (σ.2 ++ [o]).length := hi
    show ∃ y, bup σ.1 o _ ((σ.2 ++ [o]).getD i 0) = some y
    rw [hl] at hi
    unfold bup
    by_cases e : i < σ.2.length
    · rw [gD_app _ e]
      by_cases e2 : σ.2.getD i 0 = o
      · exact ⟨_, if_pos e2⟩
      · obtain ⟨y, hy⟩ := h.got i e
        exact ⟨y, by rw [if_neg e2]; exact hy⟩
    · have e : i = σ.2.length := by omega
      subst e
      exact ⟨_, if_pos (by simp [List.getD])⟩
theorem okB_0 {c : Nat} (hc : c < 36) : okB (f_b0 c) := by
  have h0 : cst (fun _ => none) 36 = 0 := rfl
  refine ⟨?_, fun i hi => ?_, fun d x hx => ?_, fun i hi => ?_⟩
  · show 1 = cst (bup (fun _ => none) c 0) 36
    rw [cst_up _ rfl 36 hc, h0]
  · have hi : i < 1 := hi
    have : i = 0 := by omega
    subst this
    exact hc
  · have hx : (if d = c then some 0 else none) = some x := hx
    show x < 1
    by_cases e : d = c
    · rw [if_pos e] at hx
      have : 0 = x := by simpa using hx
      omega
    · rw [if_neg e] at hx
      cases hx
  · have hi : i < 1 := hi
    have : i = 0 := by omega
    subst this
    exact ⟨0, if_pos rfl⟩
/-- one step keeps to it, and adds at the end alone -/
theorem okB_bs {t : Nat → Int32} {p : Int32} {σ : bS} {k w : Nat} (h : okB σ) (hk : k < σ.2.length) : okB (f_bs t p (σ.2.getD k 0) σ w) ∧ k < (f_bs t p (σ.2.getD k 0) σ w).2.length ∧ (f_bs t p (σ.2.getD k 0) σ w).2.getD k 0 = σ.2.getD k 0 := by
  obtain ⟨m, hm⟩ := h.got k hk
  have hc := h.lt k hk
  unfold f_bs
  cases hn : nb (σ.2.getD k 0) w with
  | none => exact ⟨h, hk, rfl⟩
  | some o =>
    dsimp only
    by_cases g : σ.1 o = none ∧ t (82 + o) ≤ p
    · rw [if_pos g]
      refine ⟨h.app (nb_lt hc hn) g.1 hm, ?_, gD_app _ hk⟩
      show k < (σ.2 ++ [o]).length
      simp
      omega
    · rw [if_neg g]
      exact ⟨h, hk, rfl⟩
