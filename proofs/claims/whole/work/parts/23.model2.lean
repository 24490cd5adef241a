theorem nb_0 (c : Nat) : nb c 0 = if c % 6 = 5 then none else some (c + 1) := rfl
theorem nb_1 (c : Nat) : nb c 1 = if c % 6 = 0 then none else some (c - 1) := rfl
theorem nb_2 (c : Nat) : nb c 2 = if c + 6 < 36 then some (c + 6) else none := rfl
theorem nb_3 (c : Nat) : nb c 3 = if c < 6 then none else some (c - 6) := rfl
/-- among the neighbours 0 .. w-1 of c that are ok: the best, of several the first -/
def f_pk (ok : Nat → Bool) (bt : Nat → Nat → Bool) (c : Nat) : Nat → Option Nat
  | 0 => none
  | w + 1 => match nb c w with
    | none => f_pk ok bt c w
    | some o => if ok o = true then (match f_pk ok bt c w with
      | none => some o
      | some q => if bt o q = true then some o else some q) else f_pk ok bt c w
theorem f_pk_lt {ok : Nat → Bool} {bt : Nat → Nat → Bool} {c : Nat} (hc : c < 36) : ∀ (w q : Nat), f_pk ok bt c w = some q → q < 36 ∧ ok q = true
  | 0, q, h => by cases h
  | w + 1, q, h => by
    unfold f_pk at h
    split at h
    · exact f_pk_lt hc w q h
    · next o ho =>
      split at h
      · next hok =>
        split at h
        · cases h; exact ⟨nb_lt hc ho, hok⟩
        · next q' hq' =>
          split at h
          · cases h; exact ⟨nb_lt hc ho, hok⟩
          · cases h; exact f_pk_lt hc w _ hq'
      · exact f_pk_lt hc w q h
theorem ov_neg (o : Option Nat) (h : ∀ n, o = some n → n < 36) : ov o < 0 ↔ o = none := by
  cases o with
  | none => exact ⟨fun _ => rfl, fun _ => by decide⟩
  | some n =>
    have := h n rfl
    refine ⟨fun z => absurd z ?_, fun z => by cases z⟩
    exact nI_pos (by omega)
def f_ok1 : Nat → Bool := fun _ => true
def f_btl (t : Nat → Int32) : Nat → Nat → Bool := fun o q => decide (f_lev t o < f_lev t q)
def f_lowN (t : Nat → Int32) (c : Nat) : Nat → Option Nat := f_pk f_ok1 (f_btl t) c
def f_low (t : Nat → Int32) (c : Nat) : Nat := (f_lowN t c 4).getD 0
theorem f_pk_some {ok : Nat → Bool} {bt : Nat → Nat → Bool} {c : Nat} : ∀ (w o v : Nat), v < w → nb c v = some o → ok o = true → ∃ q, f_pk ok bt c w = some q
  | 0, o, v, h, _, _ => by omega
  | w + 1, o, v, h, ho, hok => by
    unfold f_pk
    by_cases hv : v = w
    · subst hv
      rw [ho]
      dsimp only
      rw [if_pos hok]
      split
      · exact ⟨_, rfl⟩
      · split
        · exact ⟨_, rfl⟩
        · exact ⟨_, rfl⟩
    · obtain ⟨q, hq⟩ := f_pk_some (ok := ok) (bt := bt) w o v (by omega) ho hok
      rw [hq]
      split
      · exact ⟨_, rfl⟩
      · split
        · dsimp only
          split
          · exact ⟨_, rfl⟩
          · exact ⟨_, rfl⟩
        · exact ⟨_, rfl⟩
theorem f_low_some (t : Nat → Int32) {c : Nat} (hc : c < 36) : f_lowN t c 4 = some (f_low t c) ∧ f_low t c < 36 := by
  have h : ∃ q, f_lowN t c 4 = some q := by
    by_cases h5 : c % 6 = 5
    · exact f_pk_some 4 (c - 1) 1 (by omega) (by rw [nb_1, if_neg (by omega)]) rfl
    · exact f_pk_some 4 (c + 1) 0 (by omega) (by rw [nb_0, if_neg h5]) rfl
  obtain ⟨q, hq⟩ := h
  have e : f_low t c = q := by unfold f_low; rw [hq]; rfl
  rw [e]
  exact ⟨hq, (f_pk_lt hc 4 q hq).1⟩
def f_flow (t : Nat → Int32) (c : Nat) : Nat → Int32 :=
  if f_lev t c - f_lev t (f_low t c) ≤ 1 then t else
    let m := f_w ((f_lev t c - f_lev t (f_low t c)) / 2 / (1 + t 8)) (t (82 + c))
    let t1 := upd t (82 + c) (t (82 + c) - m)
    upd t1 (82 + f_low t c) (t1 (82 + f_low t c) + m)
def f_eats (k p : Int32) : Int32 := if k = 1 then 8 else if k = 2 then 1 else if k = 3 then 16 else if k = 4 then (if p ≤ 50 then 1 else 0) else if k = 5 then 4 else 3
def f_wades (k : Int32) : Int32 := if k = 2 then 30 else if k = 3 then 999 else if k = 4 then 15 else if k = 5 then 60 else 99
def f_worth (k v : Int32) : Int32 := if k = 1 then v + 8 else if k = 2 then 999 - v else if k = 3 then 2 * (v + 8) else if k = 4 then 992 - v else if k = 5 then 5 else v
def f_come (t : Nat → Int32) (n : Nat) (a b : Int32) : Nat → Int32 := upd (upd (upd (upd t 0 (t 0 + 1)) (118 + 3 * n + 0) a) (118 + 3 * n + 1) b) (118 + 3 * n + 2) 0
section MOD
variable {A : qA} {F : qF} {X : qX} {Q : pz_Q} {M : pz_M}
theorem cM_beside {c w : Nat} {x y : Int32} (hx : x = nI c) (hy : y = nI w) (hc : c < 36) (hw : w < 4) (h : Q (some (.int (ov (nb c w)))) M) : pz_C yX10_beside KX10_beside [.int x, .int y] M Q := by
  subst hx; subst hy
  refine pz_C_of rfl rfl rfl (Nat.le_of_ble_eq_true rfl) (pz_wp_ok (pz_Is_ok SX10_beside) [] 100 ?_)
  have er : nI c - nI c / 6 * 6 = nI (c % 6) := pk_rem (a := c) (d := 6) (by omega) (by omega) (by omega)
  match w, hw, h with
  | 0, _, h =>
    refine br1 (fun z => z rfl) ⟨by decide, ?_⟩
    rw [nb_0] at h
    refine ⟨fun g => ?_, fun g => ?_⟩
    · have g : ¬ nI (c % 6) = nI 5 := fun z => g (er.trans z)
      rw [if_neg (fun z => g (by rw [z]))] at h
      rw [show ov (some (c + 1)) = nI c + 1 from (nI_1 c).symm] at h
      exact h
    · have g : nI (c % 6) = nI 5 := er.symm.trans g
      rw [if_pos ((nI_eq (by omega) (by omega)).mp g)] at h
      exact h
  | 1, _, h =>
    refine br2 (by decide) (br1 (fun z => z rfl) ⟨by decide, ?_⟩)
    rw [nb_1] at h
    refine ⟨fun g => ?_, fun g => ?_⟩
    · have g : ¬ nI (c % 6) = nI 0 := fun z => g (er.trans z)
      have g : ¬ c % 6 = 0 := fun z => g (by rw [z])
      rw [if_neg g] at h
      rw [show ov (some (c - 1)) = nI c - 1 from (nI_sub1 (a := c) (b := 1) (by omega)).symm] at h
      exact h
    · have g : nI (c % 6) = nI 0 := er.symm.trans g
      rw [if_pos ((nI_eq (by omega) (by omega)).mp g)] at h
      exact h
  | 2, _, h =>
    refine br2 (by decide) (br2 (by decide) (br1 (fun z => z rfl) ?_))
    rw [nb_2] at h
    have e6 : nI c + 6 = nI (c + 6) := nI_add c 6
    refine ⟨fun g => ?_, fun g => ?_⟩
    · have g : nI 36 ≤ nI (c + 6) := e6 ▸ g
      rw [if_neg (by have := (nI_leI (by omega) (by omega)).mp g; omega)] at h
      exact h
    · have g : ¬ nI 36 ≤ nI (c + 6) := fun z => g (e6.symm ▸ z)
      rw [if_pos (by have : ¬ 36 ≤ c + 6 := fun z => g ((nI_leI (a := 36) (b := c + 6) (by omega) (by omega)).mpr z); omega)] at h
      rw [show ov (some (c + 6)) = nI c + 6 from e6.symm] at h
      exact h
  | 3, _, h =>
    refine br2 (by decide) (br2 (by decide) (br2 (by decide) ?_))
    rw [nb_3] at h
    refine ⟨fun g => ?_, fun g => ?_⟩
    · have g : nI 6 ≤ nI c := g
      have g := (nI_leI (by omega) (by omega)).mp g
      rw [if_neg (by omega)] at h
      rw [show ov (some (c - 6)) = nI c - 6 from (nI_sub1 (a := c) (b := 6) (by omega)).symm] at h
      exact h
    · have g : ¬ nI 6 ≤ nI c := g
      rw [if_pos (by have : ¬ 6 ≤ c := fun z => g ((nI_leI (a := 6) (b := c) (by omega) (by omega)).mpr z); omega)] at h
      exact h
theorem cM_eats {k c : Nat} {x : Int32} (hx : x = nI k) (hk : k < 8) (hc : A 20 (118 + 3 * k + 1) = nI c) (hc2 : c < 36) (h : Q (some (.int (f_eats (A 20 (118 + 3 * k + 0)) (A 20 (82 + c))))) (mem A F X)) : pz_C yX10_eats KX10_eats [.ref 69, .int x] (mem A F X) Q := by
  refine pz_C_of rfl rfl rfl (Nat.le_of_ble_eq_true rfl) (pz_wp_ok (pz_Is_ok SX10_eats) [] 100 ?_)
  refine cM_of (w := 0) hx rfl hk (by omega) ?_
  unfold f_eats at h
  refine ⟨fun g => ?_, fun g1 => ⟨fun g => ?_, fun g2 => ⟨fun g => ?_, fun g3 => ⟨fun g => ?_, fun g4 => ⟨fun g => ?_, fun g5 => ?_⟩⟩⟩⟩⟩
  · rw [if_pos g] at h; exact h
  · rw [if_neg g1, if_pos g] at h; exact h
  · rw [if_neg g1, if_neg g2, if_pos g] at h; exact h
  · rw [if_neg g1, if_neg g2, if_neg g3, if_pos g] at h
    refine cM_of (w := 1) hx rfl hk (by omega) (cM_parts hc hc2 ⟨fun g => ?_, fun g => ?_⟩)
    · rw [if_pos g] at h; exact h
    · rw [if_neg g] at h; exact h
  · rw [if_neg g1, if_neg g2, if_neg g3, if_neg g4, if_pos g] at h; exact h
  · rw [if_neg g1, if_neg g2, if_neg g3, if_neg g4, if_neg g5] at h; exact h
theorem cM_wades {k : Nat} {x : Int32} (hx : x = nI k) (hk : k < 8) (h : Q (some (.int (f_wades (A 20 (118 + 3 * k + 0))))) (mem A F X)) : pz_C yX10_wades KX10_wades [.ref 69, .int x] (mem A F X) Q := by
  refine pz_C_of rfl rfl rfl (Nat.le_of_ble_eq_true rfl) (pz_wp_ok (pz_Is_ok SX10_wades) [] 100 ?_)
  refine cM_of (w := 0) hx rfl hk (by omega) ?_
  unfold f_wades at h
  refine ⟨fun g => ?_, fun g1 => ⟨fun g => ?_, fun g2 => ⟨fun g => ?_, fun g3 => ⟨fun g => ?_, fun g4 => ?_⟩⟩⟩⟩
  · rw [if_pos g] at h; exact h
  · rw [if_neg g1, if_pos g] at h; exact h
  · rw [if_neg g1, if_neg g2, if_pos g] at h; exact h
  · rw [if_neg g1, if_neg g2, if_neg g3, if_pos g] at h; exact h
  · rw [if_neg g1, if_neg g2, if_neg g3, if_neg g4] at h; exact h
theorem cM_worth {k : Nat} {x : Int32} (hx : x = nI k) (hk : k < 8) (h : Q (some (.int (f_worth (A 20 (118 + 3 * k + 0)) (A 20 (118 + 3 * k + 2))))) (mem A F X)) : pz_C yX10_worth KX10_worth [.ref 69, .int x] (mem A F X) Q := by
  refine pz_C_of rfl rfl rfl (Nat.le_of_ble_eq_true rfl) (pz_wp_ok (pz_Is_ok SX10_worth) [] 100 ?_)
  refine cM_of (w := 2) hx rfl hk (by omega) ?_
  refine cM_of (w := 0) hx rfl hk (by omega) ?_
  unfold f_worth at h
  refine ⟨fun g => ?_, fun g1 => ⟨fun g => ?_, fun g2 => ⟨fun g => ?_, fun g3 => ⟨fun g => ?_, fun g4 => ⟨fun g => ?_, fun g5 => ?_⟩⟩⟩⟩⟩
  · rw [if_pos g] at h; exact h
  · rw [if_neg g1, if_pos g] at h; exact h
  · rw [if_neg g1, if_neg g2, if_pos g] at h; exact h
  · rw [if_neg g1, if_neg g2, if_neg g3, if_pos g] at h; exact h
  · rw [if_neg g1, if_neg g2, if_neg g3, if_neg g4, if_pos g] at h; exact h
  · rw [if_neg g1, if_neg g2, if_neg g3, if_neg g4, if_neg g5] at h; exact h
theorem cM_comes {n : Nat} {a b : Int32} (hn : A 20 0 = nI n) (hb : n < 8) (h : Q none (mem (va_up A 20 (f_come (A 20) n a b)) F X)) : pz_C yX10_comes KX10_comes [.ref 69, .int a, .int b] (mem A F X) Q := by
  refine pz_C_of rfl rfl rfl (Nat.le_of_ble_eq_true rfl) (pz_wp_ok (pz_Is_ok SX10_comes) [] 100 ?_)
  refine ⟨qin 0 rfl (by omega) (by omega), qin 0 rfl (by omega) (by omega), qin 0 rfl (by omega) (by omega), ?_⟩
  refine qC (cM_sets (A := va_up A 20 (upd (A 20) 0 (A 20 0 + 1))) (F := F) (X := X) (k := n) (w := 0) (v := a) hn rfl hb (by omega) ?_) rfl rfl
  refine cM_sets (k := n) (w := 1) (v := b) hn rfl hb (by omega) ?_
  refine cM_sets (k := n) (w := 2) (v := 0) hn rfl hb (by omega) ?_
  exact qQ h rfl (by rw [vu_at, vu_vu, vu_at, vu_vu, vu_at, vu_vu]; rfl)
end MOD
