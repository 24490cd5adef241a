/-! texts: which counts, and what it gives -/
def f_cnt (t : Nat → Int32) (key : Int32) : Nat → Option Nat
  | 0 => none
  | n + 1 => if t (142 + 200 * n) = key then some n else f_cnt t key n
theorem f_cnt_lt (t : Nat → Int32) (key : Int32) : ∀ (n i : Nat), f_cnt t key n = some i → i < n ∧ t (142 + 200 * i) = key
  | 0, i, h => by cases h
  | n + 1, i, h => by
    unfold f_cnt at h
    split at h
    · next g => cases h; exact ⟨by omega, g⟩
    · have := f_cnt_lt t key n i h
      exact ⟨by omega, this.2⟩
def f_join (c x y : Int32) : Int32 :=
  if c = 38 then (if x = 0 then 0 else if y = 0 then 0 else 1) else if c = 42 then x * y else if c = 43 then x + y else if c = 45 then x - y
  else if c = 47 then (if y = 0 then 0 else x / y) else if c = 60 then (if x < y then 1 else 0) else if c = 61 then (if x = y then 1 else 0)
  else if c = 62 then (if y < x then 1 else 0) else (if x = 0 then (if y = 0 then 0 else 1) else 1)
theorem i_divm1 (x : Int32) : x / -1 = -x := by
  rw [i_eq, Int32.toInt_div, Int32.toInt_neg x]
  rw [show (-1 : Int32).toInt = -1 from rfl, Int.tdiv_neg, Int.tdiv_one]
def f_stp (nm : Nat → Int32) (what v : Int32) (st : List Int32) : Option (List Int32) :=
  if what = 2 then (if v = 33 then (match st with
    | x :: r => some ((if x = 0 then 1 else 0) :: r)
    | [] => none) else (match st with
    | y :: x :: r => some (f_join v x y :: r)
    | _ => none)) else some ((if what = 0 then v else nm v.toNatClampNeg) :: st)
def f_run (t nm : Nat → Int32) (b : Nat) : Nat → Option (List Int32)
  | 0 => some []
  | k + 1 => match f_run t nm b k with
    | none => none
    | some st => f_stp nm (t (b + 4 + 2 * k)) (t (b + 4 + 2 * k + 1)) st
def pileR (p : Nat → Int32) : List Int32 → Prop
  | [] => True
  | x :: r => p r.length = x ∧ pileR p r
theorem pileR_upd {p : Nat → Int32} {v : Int32} {k : Nat} : ∀ {st : List Int32}, st.length ≤ k → pileR p st → pileR (upd p k v) st
  | [], _, _ => trivial
  | x :: r, hk, h => by
    rw [List.length_cons] at hk
    exact ⟨by rw [upd_ne _ _ (by omega)]; exact h.1, pileR_upd (by omega) h.2⟩
theorem pileR_0 {p : Nat → Int32} : ∀ {st : List Int32}, st ≠ [] → pileR p st → p 0 = st.getLastD 0
  | [], h, _ => absurd rfl h
  | [x], _, h => h.1
  | x :: y :: r, _, h => by
    have := pileR_0 (st := y :: r) (by simp) h.2
    rw [this]; rfl
def okStep (t : Nat → Int32) (b k : Nat) : Prop := t (b + 4 + 2 * k) = 0 ∨ (t (b + 4 + 2 * k) = 1 ∧ ∃ l, l < 128 ∧ t (b + 4 + 2 * k + 1) = nI l) ∨ t (b + 4 + 2 * k) = 2
/-- the text at b has m steps, and they can be worked out -/
def okText (t : Nat → Int32) (b m : Nat) : Prop := t (b + 2) = nI m ∧ m ≤ 96 ∧ (∀ k, k < m → okStep t b k) ∧ (∀ nm : Nat → Int32, ∀ k, k ≤ m → ∃ st, f_run t nm b k = some st ∧ st.length ≤ 96) ∧ ∀ nm : Nat → Int32, f_run t nm b m ≠ some []
def f_val (t nm : Nat → Int32) (b m : Nat) : Int32 := ((f_run t nm b m).getD []).getLastD 0
section MOD
variable {A : qA} {F : qF} {X : qX} {Q : pz_Q} {M : pz_M}
theorem tM_counts {key : Int32} {n : Nat} (hn : A 20 1 = nI n) (hb : n ≤ 14) (h : Q (some (.int (ov (f_cnt (A 20) key n)))) (mem A F X)) : ∀ (d i : Nat), i + d = n → pz_T z0 KX10_counts Q 4 (0, 0) [some (.ref 69), some (.int key), some (.int (ov (f_cnt (A 20) key i))), some (.int (nI i))] [] (mem A F X) := by
  intro d
  induction d with
  | zero =>
    intro i hi
    have hi : i = n := by omega
    subst hi
    refine pz_wp_ok (pz_Is_ok SX10_counts) [4] 100 ?_
    refine ⟨qin 1 rfl (by omega) (by omega), ?_⟩
    refine br1 (fun z => z ?_) ?_
    · show A 20 1 ≤ nI i
      rw [hn]; exact nI_le (by omega) (by omega)
    · exact h
  | succ d ih =>
    intro i hi
    refine pz_wp_ok (pz_Is_ok SX10_counts) [4] 100 ?_
    refine ⟨qin 1 rfl (by omega) (by omega), ?_⟩
    refine br2 (fun z => ?_) ?_
    · have z : A 20 1 ≤ nI i := z
      rw [hn] at z
      have := (nI_leI (by omega) (by omega)).mp z
      omega
    · refine cM_textAt rfl ?_
      refine ⟨qin (142 + 200 * i) rfl (by omega) (by omega), ?_⟩
      have e1 : nI i + 1 = nI (i + 1) := nI_1 i
      have e2 := qcl (x := nI (142 + 200 * i)) (142 + 200 * i) rfl (by omega)
      have ih' := ih (i + 1) (by omega)
      refine ⟨fun g => ?_, fun g => ?_⟩
      · have g : ¬ A 20 (142 + 200 * i) = key := by rw [← e2]; exact g
        rw [f_cnt, if_neg g] at ih'
        exact qT ih' (by rw [← e1]; rfl) rfl rfl
      · have g : A 20 (142 + 200 * i) = key := by rw [← e2]; exact g
        rw [f_cnt, if_pos g] at ih'
        exact qT ih' (by rw [← e1]; rfl) rfl rfl
theorem cM_counts {key : Int32} {n : Nat} (hn : A 20 1 = nI n) (hb : n ≤ 14) (h : Q (some (.int (ov (f_cnt (A 20) key n)))) (mem A F X)) : pz_C yX10_counts KX10_counts [.ref 69, .int key] (mem A F X) Q := by
  refine pz_C_of rfl rfl rfl (Nat.le_of_ble_eq_true rfl) (pz_wp_ok (pz_Is_ok SX10_counts) [4] 100 ?_)
  exact tM_counts hn hb h n 0 (by omega)
theorem pz_swc_of {k : pz_k} {u : Nat × Nat} {L : pz_L} {S : List Value} {M : pz_M} {x : Int32} : ∀ {cs : List (Int32 × Nat)} {d : Nat}, k (pz_tgt x cs d) u L S M → pz_swc k u L S M x cs d
  | [], _, h => h
  | (a, t) :: r, d, h => by
    unfold pz_tgt at h
    by_cases hx : x = a
    · rw [if_pos hx] at h; exact ⟨fun _ => h, fun z => absurd hx z⟩
    · rw [if_neg hx] at h; exact ⟨fun z => absurd z hx, fun _ => pz_swc_of h⟩
theorem pz_T_sw {φ : pz_V → State → Prop} {κ : pz_K} {pc : Nat} {cs : List (Int32 × Nat)} {d : Nat} (hS : pz_S κ pc (pz_sw cs d)) {u : Nat × Nat} {L : pz_L} {S : List Value} {x : Int32} (h : pz_T φ κ Q (pz_tgt x cs d) u L S M) : pz_T φ κ Q pc u L (.int x :: S) M := hS φ Q (fun pc u L S M => pz_T φ κ Q pc u L S M) u L _ M (pz_swc_of h) (fun _ _ _ _ _ z => z)
def jtab : List (Int32 × Nat) := [(38, 183), (39, 197), (40, 197), (41, 197), (42, 124), (43, 116), (44, 197), (45, 120), (46, 197), (47, 128), (48, 197), (49, 197), (50, 197), (51, 197), (52, 197), (53, 197), (54, 197), (55, 197), (56, 197), (57, 197), (58, 197), (59, 197), (60, 150), (61, 172), (62, 161)]
set_option maxRecDepth 4000 in
theorem cM_joined {c x y : Int32} (h : Q (some (.int (f_join c x y))) M) : pz_C yX10_joined KX10_joined [.int c, .int x, .int y] M Q := by
  refine pz_C_of rfl rfl rfl (Nat.le_of_ble_eq_true rfl) (pz_wp_ok (pz_Is_ok SX10_joined) [1] 100 ?_)
  refine pz_T_sw (cs := jtab) (d := 197) SX10_joined_0.2.1 ?_
  unfold f_join at h
  by_cases g1 : c = 38
  · subst g1
    rw [if_pos rfl] at h
    rw [show pz_tgt 38 jtab 197 = 183 by decide]
    refine pz_wp_ok (pz_Is_ok SX10_joined) [] 100 ?_
    refine ⟨fun g => ?_, fun g => ?_⟩
    · rw [if_pos g] at h; exact h
    · rw [if_neg g] at h
      refine ⟨fun g => ?_, fun g => ?_⟩
      · rw [if_pos g] at h; exact h
      · rw [if_neg g] at h; exact h
  rw [if_neg g1] at h
  by_cases g2 : c = 42
  · subst g2
    rw [if_pos rfl] at h
    rw [show pz_tgt 42 jtab 197 = 124 by decide]
    refine pz_wp_ok (pz_Is_ok SX10_joined) [] 100 ?_
    exact h
  rw [if_neg g2] at h
  by_cases g3 : c = 43
  · subst g3
    rw [if_pos rfl] at h
    rw [show pz_tgt 43 jtab 197 = 116 by decide]
    refine pz_wp_ok (pz_Is_ok SX10_joined) [] 100 ?_
    exact h
  rw [if_neg g3] at h
  by_cases g4 : c = 45
  · subst g4
    rw [if_pos rfl] at h
    rw [show pz_tgt 45 jtab 197 = 120 by decide]
    refine pz_wp_ok (pz_Is_ok SX10_joined) [] 100 ?_
    exact h
  rw [if_neg g4] at h
  by_cases g5 : c = 47
  · subst g5
    rw [if_pos rfl] at h
    rw [show pz_tgt 47 jtab 197 = 128 by decide]
    refine pz_wp_ok (pz_Is_ok SX10_joined) [] 100 ?_
    refine ⟨fun g => ?_, fun g => ?_⟩
    · rw [if_neg g] at h
      refine ⟨fun g2 => ?_, fun g2 => ?_⟩
      · exact ⟨g, h⟩
      · have g2 : y = -1 := g2
        subst g2
        rw [i_divm1] at h
        exact h
    · rw [if_pos g] at h; exact h
  rw [if_neg g5] at h
  by_cases g6 : c = 60
  · subst g6
    rw [if_pos rfl] at h
    rw [show pz_tgt 60 jtab 197 = 150 by decide]
    refine pz_wp_ok (pz_Is_ok SX10_joined) [] 100 ?_
    refine ⟨fun g => ?_, fun g => ?_⟩
    · rw [if_neg (i_nlt.mpr g)] at h; exact h
    · rw [if_pos (i_nle.mp g)] at h; exact h
  rw [if_neg g6] at h
  by_cases g7 : c = 61
  · subst g7
    rw [if_pos rfl] at h
    rw [show pz_tgt 61 jtab 197 = 172 by decide]
    refine pz_wp_ok (pz_Is_ok SX10_joined) [] 100 ?_
    refine ⟨fun g => ?_, fun g => ?_⟩
    · rw [if_neg g] at h; exact h
    · rw [if_pos g] at h; exact h
  rw [if_neg g7] at h
  by_cases g8 : c = 62
  · subst g8
    rw [if_pos rfl] at h
    rw [show pz_tgt 62 jtab 197 = 161 by decide]
    refine pz_wp_ok (pz_Is_ok SX10_joined) [] 100 ?_
    refine ⟨fun g => ?_, fun g => ?_⟩
    · rw [if_neg (i_nlt.mpr g)] at h; exact h
    · rw [if_pos (i_nle.mp g)] at h; exact h
  rw [if_neg g8] at h
  rw [show pz_tgt c jtab 197 = 197 by simp [pz_tgt, jtab, g1, g2, g3, g4, g5, g6, g7, g8]]
  refine pz_wp_ok (pz_Is_ok SX10_joined) [] 100 ?_
  refine ⟨fun g => ?_, fun g => ?_⟩
  · rw [if_neg g] at h; exact h
  · rw [if_pos g] at h
    refine ⟨fun g => ?_, fun g => ?_⟩
    · rw [if_pos g] at h; exact h
    · rw [if_neg g] at h; exact h
end MOD
