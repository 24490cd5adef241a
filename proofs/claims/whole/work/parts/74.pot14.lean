/-! the pot's calls: tape, texts, rows, images -/
theorem f_cn_eq {t : Nat → Int32} (h : okS t) {mi : Nat} (h2 : t 2 = nI mi) (hm : mi ≤ 9999) : ∀ (d k : Nat), mi + k ≤ 9999 → f_cn t d k = k + min d (9999 - (mi + k)) := by
  have e : ∀ k, mi + k ≤ 9999 → f_it k t 2 = nI (mi + k) := by
    intro k
    induction k with
    | zero => intro _; exact h2
    | succ k ih =>
      intro hk
      rw [f_it, f_pass_2 (okS_it h k), ih (by omega)]
      exact nI_1 _
  intro d
  induction d with
  | zero => intro k hk; rw [f_cn, Nat.zero_min, Nat.add_zero]
  | succ d ih =>
    intro k hk
    rw [f_cn, e k hk]
    by_cases g : mi + k = 9999
    · rw [if_neg (by rw [g]; decide), g]; omega
    · rw [if_pos (by rw [i_lt, nIi (by omega), show (9999 : Int32).toInt = 9999 from rfl]; omega), ih (k + 1) (by omega)]
      omega
/-- the bytes are the tape's -/
def rB (f T : Nat → Int32) (n : Nat) : Prop := ∀ j, j < n → f j = (T j).toInt8.toInt32
theorem rB_up {f T : Nat → Int32} {n : Nat} {b x : Int32} (h : rB f T n) (hb : b = x.toInt8.toInt32) : rB (upd f n b) (upd T n x) (n + 1) := by
  intro j hj
  by_cases e : j = n
  · subst e; rw [upd_at, upd_at]; exact hb
  · rw [upd_ne _ _ e, upd_ne _ _ e]; exact h j (by omega)
theorem b_low (x : Int32) : (x &&& 255).toInt8 = x.toInt8 := by
  apply Int8.toBitVec_inj.1
  apply BitVec.eq_of_getLsbD_eq
  intro i hi
  have h2 : (255 : Int32).toBitVec.getLsbD i = true := by
    have : i = 0 ∨ i = 1 ∨ i = 2 ∨ i = 3 ∨ i = 4 ∨ i = 5 ∨ i = 6 ∨ i = 7 := by omega
    rcases this with e | e | e | e | e | e | e | e <;> subst e <;> decide
  rw [Int32.toBitVec_toInt8, Int32.toBitVec_toInt8, BitVec.getLsbD_signExtend, BitVec.getLsbD_signExtend, Int32.toBitVec_and, BitVec.getLsbD_and, h2, Bool.and_true, if_pos (by omega), if_pos (by omega)]
theorem b_twice (x : Int32) : x.toInt8.toInt32.toInt8.toInt32 = x.toInt8.toInt32 := by
  apply (i_eq _ _).mpr
  have h1 := Int8.le_toInt x.toInt8
  have h2 := Int8.toInt_lt x.toInt8
  rw [Int8.toInt_toInt32, Int32.toInt_toInt8, Int8.toInt_toInt32, Int.bmod_eq_of_le (by omega) (by omega)]
theorem fbk0 (a b c : Int32) : (a >>> ((24 : Int32) &&& 31)).toInt8.toInt32.toInt8.toInt32 = (f_byte (f_pick a b c 0) 0).toInt8.toInt32 := by
  have e1 : f_pick a b c 0 = a := by
    unfold f_pick
    rw [if_neg (by decide)]
  have e2 : ((24 : Int32) - 8 * f_rem (nI 0) 4) &&& 31 = (24 : Int32) &&& 31 := by decide
  rw [e1, b_twice]
  unfold f_byte
  rw [e2, b_low]
theorem fbk1 (a b c : Int32) : (a >>> ((16 : Int32) &&& 31)).toInt8.toInt32.toInt8.toInt32 = (f_byte (f_pick a b c 1) 1).toInt8.toInt32 := by
  have e1 : f_pick a b c 1 = a := by
    unfold f_pick
    rw [if_neg (by decide)]
  have e2 : ((24 : Int32) - 8 * f_rem (nI 1) 4) &&& 31 = (16 : Int32) &&& 31 := by decide
  rw [e1, b_twice]
  unfold f_byte
  rw [e2, b_low]
theorem fbk2 (a b c : Int32) : (a >>> ((8 : Int32) &&& 31)).toInt8.toInt32.toInt8.toInt32 = (f_byte (f_pick a b c 2) 2).toInt8.toInt32 := by
  have e1 : f_pick a b c 2 = a := by
    unfold f_pick
    rw [if_neg (by decide)]
  have e2 : ((24 : Int32) - 8 * f_rem (nI 2) 4) &&& 31 = (8 : Int32) &&& 31 := by decide
  rw [e1, b_twice]
  unfold f_byte
  rw [e2, b_low]
theorem fbk3 (a b c : Int32) : (a >>> ((0 : Int32) &&& 31)).toInt8.toInt32.toInt8.toInt32 = (f_byte (f_pick a b c 3) 3).toInt8.toInt32 := by
  have e1 : f_pick a b c 3 = a := by
    unfold f_pick
    rw [if_neg (by decide)]
  have e2 : ((24 : Int32) - 8 * f_rem (nI 3) 4) &&& 31 = (0 : Int32) &&& 31 := by decide
  rw [e1, b_twice]
  unfold f_byte
  rw [e2, b_low]
theorem fbk4 (a b c : Int32) : (b >>> ((24 : Int32) &&& 31)).toInt8.toInt32.toInt8.toInt32 = (f_byte (f_pick a b c 4) 4).toInt8.toInt32 := by
  have e1 : f_pick a b c 4 = b := by
    unfold f_pick
    rw [if_pos (by decide), if_neg (by decide)]
  have e2 : ((24 : Int32) - 8 * f_rem (nI 4) 4) &&& 31 = (24 : Int32) &&& 31 := by decide
  rw [e1, b_twice]
  unfold f_byte
  rw [e2, b_low]
theorem fbk5 (a b c : Int32) : (b >>> ((16 : Int32) &&& 31)).toInt8.toInt32.toInt8.toInt32 = (f_byte (f_pick a b c 5) 5).toInt8.toInt32 := by
  have e1 : f_pick a b c 5 = b := by
    unfold f_pick
    rw [if_pos (by decide), if_neg (by decide)]
  have e2 : ((24 : Int32) - 8 * f_rem (nI 5) 4) &&& 31 = (16 : Int32) &&& 31 := by decide
  rw [e1, b_twice]
  unfold f_byte
  rw [e2, b_low]
theorem fbk6 (a b c : Int32) : (b >>> ((8 : Int32) &&& 31)).toInt8.toInt32.toInt8.toInt32 = (f_byte (f_pick a b c 6) 6).toInt8.toInt32 := by
  have e1 : f_pick a b c 6 = b := by
    unfold f_pick
    rw [if_pos (by decide), if_neg (by decide)]
  have e2 : ((24 : Int32) - 8 * f_rem (nI 6) 4) &&& 31 = (8 : Int32) &&& 31 := by decide
  rw [e1, b_twice]
  unfold f_byte
  rw [e2, b_low]
theorem fbk7 (a b c : Int32) : (b >>> ((0 : Int32) &&& 31)).toInt8.toInt32.toInt8.toInt32 = (f_byte (f_pick a b c 7) 7).toInt8.toInt32 := by
  have e1 : f_pick a b c 7 = b := by
    unfold f_pick
    rw [if_pos (by decide), if_neg (by decide)]
  have e2 : ((24 : Int32) - 8 * f_rem (nI 7) 4) &&& 31 = (0 : Int32) &&& 31 := by decide
  rw [e1, b_twice]
  unfold f_byte
  rw [e2, b_low]
theorem fbk8 (a b c : Int32) : (c >>> ((24 : Int32) &&& 31)).toInt8.toInt32.toInt8.toInt32 = (f_byte (f_pick a b c 8) 8).toInt8.toInt32 := by
  have e1 : f_pick a b c 8 = c := by
    unfold f_pick
    rw [if_pos (by decide), if_pos (by decide)]
  have e2 : ((24 : Int32) - 8 * f_rem (nI 8) 4) &&& 31 = (24 : Int32) &&& 31 := by decide
  rw [e1, b_twice]
  unfold f_byte
  rw [e2, b_low]
theorem fbk9 (a b c : Int32) : (c >>> ((16 : Int32) &&& 31)).toInt8.toInt32.toInt8.toInt32 = (f_byte (f_pick a b c 9) 9).toInt8.toInt32 := by
  have e1 : f_pick a b c 9 = c := by
    unfold f_pick
    rw [if_pos (by decide), if_pos (by decide)]
  have e2 : ((24 : Int32) - 8 * f_rem (nI 9) 4) &&& 31 = (16 : Int32) &&& 31 := by decide
  rw [e1, b_twice]
  unfold f_byte
  rw [e2, b_low]
theorem fbk10 (a b c : Int32) : (c >>> ((8 : Int32) &&& 31)).toInt8.toInt32.toInt8.toInt32 = (f_byte (f_pick a b c 10) 10).toInt8.toInt32 := by
  have e1 : f_pick a b c 10 = c := by
    unfold f_pick
    rw [if_pos (by decide), if_pos (by decide)]
  have e2 : ((24 : Int32) - 8 * f_rem (nI 10) 4) &&& 31 = (8 : Int32) &&& 31 := by decide
  rw [e1, b_twice]
  unfold f_byte
  rw [e2, b_low]
theorem fbk11 (a b c : Int32) : (c >>> ((0 : Int32) &&& 31)).toInt8.toInt32.toInt8.toInt32 = (f_byte (f_pick a b c 11) 11).toInt8.toInt32 := by
  have e1 : f_pick a b c 11 = c := by
    unfold f_pick
    rw [if_pos (by decide), if_pos (by decide)]
  have e2 : ((24 : Int32) - 8 * f_rem (nI 11) 4) &&& 31 = (0 : Int32) &&& 31 := by decide
  rw [e1, b_twice]
  unfold f_byte
  rw [e2, b_low]
section POT
variable {A A1 : qA} {F : qF} {X : qX} {Q : pz_Q} {M : pz_M}
set_option maxRecDepth 8000 in
theorem tR_gets {v sh : Int32} {m : Nat} (hs : ¬ sh < 0) (hF : F 2 = nI m) (hm : m < 96) (h : pz_T z0 KX3_getsNumber Q 3 (0, 0) [some (.ref 36), some (.int v), some (.int (sh + -8))] [] (mem (va_up A 5 (upd (A 5) m (v >>> (sh &&& 31)).toInt8.toInt32.toInt8.toInt32)) (upd F 2 (nI (m + 1))) X)) : pz_T z0 KX3_getsNumber Q 3 (0, 0) [some (.ref 36), some (.int v), some (.int sh)] [] (mem A F X) := by
  refine pz_wp_ok (pz_Is_ok SX3_getsNumber) [3] 100 ?_
  have cm := qcl _ hF (by omega)
  have e1 : F 2 + 1 = nI (m + 1) := by rw [hF]; exact nI_1 m
  refine br2 hs ?_
  refine br2 (fun z => ?_) ?_
  · have z : (96 : Int32) ≤ F 2 := z
    rw [hF] at z
    exact n_ge (b := 96) (by omega) (by omega) hm z
  refine ⟨qin _ hF hm (by omega), ?_⟩
  rw [← e1, ← cm] at h
  exact h
def f_gets (f : Nat → Int32) (n : Nat) (v : Int32) : Nat → Int32 := upd (upd (upd (upd f n (v >>> ((24 : Int32) &&& 31)).toInt8.toInt32.toInt8.toInt32) (n + 1) (v >>> ((16 : Int32) &&& 31)).toInt8.toInt32.toInt8.toInt32) (n + 2) (v >>> ((8 : Int32) &&& 31)).toInt8.toInt32.toInt8.toInt32) (n + 3) (v >>> ((0 : Int32) &&& 31)).toInt8.toInt32.toInt8.toInt32
set_option maxRecDepth 8000 in
theorem cR_gets {v : Int32} {n : Nat} (hF : F 2 = nI n) (hn : n + 4 ≤ 96) (h : Q none (mem (va_up A 5 (f_gets (A 5) n v)) (upd F 2 (nI (n + 4))) X)) : pz_C yX3_getsNumber KX3_getsNumber [.ref 36, .int v] (mem A F X) Q := by
  refine pz_C_of rfl rfl rfl (Nat.le_of_ble_eq_true rfl) (pz_wp_ok (pz_Is_ok SX3_getsNumber) [3] 100 ?_)
  refine tR_gets (sh := 24) (by decide) hF (by omega) ?_
  refine tR_gets (sh := 16) (m := n + 1) (by decide) (upd_at _ _ _) (by omega) ?_
  refine tR_gets (sh := 8) (m := n + 2) (by decide) (upd_at _ _ _) (by omega) ?_
  refine tR_gets (sh := 0) (m := n + 3) (by decide) (upd_at _ _ _) (by omega) ?_
  rw [vu_at, vu_vu, vu_at, vu_vu, vu_at, vu_vu, upd_upd, upd_upd, upd_upd]
  refine pz_wp_ok (pz_Is_ok SX3_getsNumber) [] 100 ?_
  refine br1 (fun z => z (by decide)) ?_
  exact h
set_option maxRecDepth 8000 in
theorem cP_feed {a b c : Int32} {n : Nat} {T : Nat → Int32} (hF : F 2 = nI n) (hn : n ≤ 96) (hB : rB (A 5) T n) (h : ∀ f : Nat → Int32, rB f (s_feed T n a b c).2.2 (s_feed T n a b c).2.1 → Q (some (.int (s_feed T n a b c).1)) (mem (va_up A 5 f) (upd F 2 (nI (s_feed T n a b c).2.1)) X)) : pz_C yX9_feed KX9_feed [.ref 0, .int a, .int b, .int c] (mem A F X) Q := by
  refine pz_C_of rfl rfl rfl (Nat.le_of_ble_eq_true rfl) (pz_wp_ok (pz_Is_ok SX9_feed) [] 100 ?_)
  unfold s_feed at h
  have e12 : F 2 + 12 = nI (n + 12) := by rw [hF]; exact nI_add n 12
  refine ⟨fun g => ?_, fun g => ?_⟩
  · have g : F 2 + 12 ≤ 96 := g
    rw [e12] at g
    have g : n + 12 ≤ 96 := (nI_leI (a := n + 12) (b := 96) (by omega) (by omega)).mp g
    rw [if_neg (by omega)] at h
    dsimp only at h
    refine cR_gets hF (by omega) ?_
    refine cR_gets (n := n + 4) (upd_at _ _ _) (by omega) ?_
    refine cR_gets (n := n + 8) (upd_at _ _ _) (by omega) ?_
    rw [vu_at, vu_vu, vu_at, vu_vu, upd_upd, upd_upd]
    have hr : rB (f_gets (f_gets (f_gets (A 5) n a) (n + 4) b) (n + 8) c) (f_fd T n a b c 12) (n + 12) := by
      unfold f_gets
      refine rB_up (n := n + 11) ?_ (fbk11 a b c)
      refine rB_up (n := n + 10) ?_ (fbk10 a b c)
      refine rB_up (n := n + 9) ?_ (fbk9 a b c)
      refine rB_up (n := n + 8) ?_ (fbk8 a b c)
      refine rB_up (n := n + 7) ?_ (fbk7 a b c)
      refine rB_up (n := n + 6) ?_ (fbk6 a b c)
      refine rB_up (n := n + 5) ?_ (fbk5 a b c)
      refine rB_up (n := n + 4) ?_ (fbk4 a b c)
      refine rB_up (n := n + 3) ?_ (fbk3 a b c)
      refine rB_up (n := n + 2) ?_ (fbk2 a b c)
      refine rB_up (n := n + 1) ?_ (fbk1 a b c)
      refine rB_up (n := n + 0) ?_ (fbk0 a b c)
      exact hB
    have h' := h _ hr
    generalize f_gets (f_gets (f_gets (A 5) n a) (n + 4) b) (n + 8) c = f at h'
    have e2 : upd F 2 (nI (n + 8 + 4)) 2 = nI (n + 12) := upd_at _ _ _
    rw [← e2] at h'
    rw [e2] at h'
    exact h'
  · have g : ¬ F 2 + 12 ≤ 96 := g
    rw [e12] at g
    have g : ¬ n + 12 ≤ 96 := fun z => g ((nI_leI (a := n + 12) (b := 96) (by omega) (by omega)).mpr z)
    rw [if_pos (by omega)] at h
    dsimp only at h
    have h' := h (A 5) hB
    rw [vu_s, ← hF, upd_s] at h'
    exact h'
set_option maxRecDepth 8000 in
theorem cP_trim {x : Int32} (h : Q (some (.int (s_trim (F 2) x).1)) (mem A (upd F 2 (s_trim (F 2) x).2) X)) : pz_C yX9_trim KX9_trim [.ref 0, .int x] (mem A F X) Q := by
  refine pz_C_of rfl rfl rfl (Nat.le_of_ble_eq_true rfl) (pz_wp_ok (pz_Is_ok SX9_trim) [] 100 ?_)
  unfold s_trim at h
  refine cP_within 0 (F 2).toInt rfl rfl (fun g => ?_) (fun g => ?_)
  · refine br1 (by decide) ?_
    rw [if_pos g] at h
    exact h
  · refine br2 (fun z => z rfl) ?_
    rw [if_neg g] at h
    rw [upd_s] at h
    exact h
set_option maxRecDepth 8000 in
theorem cP_why {k : Int32} (hok : okS (A 0)) (hr : rTxs X (A 0)) (h : Q (some (.int (s_why (A 0) k))) (mem A F X)) : pz_C yX9_why KX9_why [.ref 0, .int k] (mem A F X) Q := by
  refine pz_C_of rfl rfl rfl (Nat.le_of_ble_eq_true rfl) (pz_wp_ok (pz_Is_ok SX9_why) [] 100 ?_)
  obtain ⟨n1, n2, n3⟩ := hok.nt
  unfold s_why at h
  refine cP_within 0 2 rfl rfl (fun g => ?_) (fun g => ?_)
  · refine br1 (by decide) ?_
    rw [if_pos g] at h
    refine cL_last (t := A 0) n2 n1 hr ?_
    cases hc : f_cnt (A 0) k (f_nt (A 0)) with
    | none =>
      rw [hc] at h
      refine br2 (by decide) ?_
      exact h
    | some i =>
      rw [hc] at h
      have := (f_cnt_lt _ _ _ _ hc).1
      refine br1 (fun z => z (nI_pos' (by omega))) ?_
      exact h
  · refine br2 (fun z => z rfl) ?_
    rw [if_neg g] at h
    exact h
set_option maxRecDepth 8000 in
theorem cP_textTold {x w : Int32} (hok : okS (A 0)) (hr : rTxs X (A 0)) (h : Q (some (.int (s_textTold (A 0) x w))) (mem A F X)) : pz_C yX9_textTold KX9_textTold [.ref 0, .int x, .int w] (mem A F X) Q := by
  refine pz_C_of rfl rfl rfl (Nat.le_of_ble_eq_true rfl) (pz_wp_ok (pz_Is_ok SX9_textTold) [51, 58] 100 ?_)
  obtain ⟨n1, n2, n3⟩ := hok.nt
  unfold s_textTold at h
  refine cP_within 0 ((f_nt (A 0) : Int) - 1) rfl (by show (A 0 1 - 1).toInt = _; rw [n2]; exact n_sub1 (by omega)) (fun g => ?_) (fun g => ?_)
  · refine br2 (by decide) ?_
    obtain ⟨a1, a2, a3⟩ := qI (m := 14) g (by omega)
    have hk : x.toNatClampNeg < f_nt (A 0) := by
      have := g.2
      have e : (x.toNatClampNeg : Int) = x.toInt := Int.toNat_of_nonneg g.1
      omega
    obtain ⟨i, r1, r2, r3, r4, r5, r6⟩ := hr _ hk
    refine qC (cL_numbered (t := A 0) (k := some x.toNatClampNeg) (fun n hn => by cases hn; exact a2) ?_) (by rw [show ov (some x.toNatClampNeg) = x from a1.symm]) rfl
    have e : (some x.toNatClampNeg).bind X.1 = some (xr i) := r2
    rw [e]
    refine cP_within 0 1 rfl rfl (fun g2 => ?_) (fun g2 => ?_)
    · refine br1 (by decide) ?_
      rw [if_pos ⟨g, g2⟩] at h
      obtain ⟨b1, b2, b3⟩ := qI (m := 2) g2 (by omega)
      have hw : w = 0 ∨ w = 1 := by
        generalize w.toNatClampNeg = m at b1 b2
        have : m = 0 ∨ m = 1 := by omega
        rcases this with e | e <;> subst e
        · exact Or.inl b1
        · exact Or.inr b1
      rcases hw with e | e <;> subst e
      · refine br2 (fun z => z rfl) ?_
        refine pz_T_get (r := xr i) (pz_Is_ok SX9_textTold (51, pz_get 4 2 54) (List.mem_of_getElem? (i := 28) rfl)) (mem_xo r1) rfl ?_
        refine pz_wp_ok (pz_Is_ok SX9_textTold) [] 100 ?_
        have h : Q (some (.int (A 0 (142 + 200 * x.toNatClampNeg)))) (mem A F X) := h
        rw [← r4] at h
        exact h
      · refine br1 (by decide) ?_
        refine pz_T_get (r := xr i) (pz_Is_ok SX9_textTold (58, pz_get 4 3 61) (List.mem_of_getElem? (i := 31) rfl)) (mem_xo r1) rfl ?_
        refine pz_wp_ok (pz_Is_ok SX9_textTold) [] 100 ?_
        have h : Q (some (.int (A 0 (142 + 200 * x.toNatClampNeg + 1)))) (mem A F X) := h
        rw [← r5] at h
        exact h
    · refine br2 (fun z => z rfl) ?_
      rw [if_neg (fun z => g2 z.2)] at h
      exact h
  · refine br1 (fun z => z rfl) ?_
    rw [if_neg (fun z => g z.1)] at h
    exact h
set_option maxRecDepth 8000 in
theorem cP_tell {v : Int32} {n : Nat} (hF : F 1 = nI n) (hn : n ≤ 60) (h1 : n = 60 → Q (some (.int (-1000000003))) (mem A F X)) (h0 : n < 60 → Q (some (.int (nI (n + 1)))) (mem (va_up A 8 (upd (A 8) n v)) (upd F 1 (nI (n + 1))) X)) : pz_C yX9_tell KX9_tell [.ref 0, .int v] (mem A F X) Q := by
  refine pz_C_of rfl rfl rfl (Nat.le_of_ble_eq_true rfl) (pz_wp_ok (pz_Is_ok SX9_tell) [] 100 ?_)
  have cn := qcl _ hF (by omega)
  have e1 : F 1 + 1 = nI (n + 1) := by rw [hF]; exact nI_1 n
  refine ⟨fun g => ?_, fun g => ?_⟩
  · have g : F 1 < 60 := g
    rw [hF, i_lt, nIi (by omega), show (60 : Int32).toInt = 60 from rfl] at g
    have h0 := h0 (by omega)
    refine ⟨qin _ hF (by omega) (by omega), ?_⟩
    rw [← e1, ← cn] at h0
    exact h0
  · have g : ¬ F 1 < 60 := g
    rw [hF, i_lt, nIi (by omega), show (60 : Int32).toInt = 60 from rfl] at g
    exact h1 (by omega)
set_option maxRecDepth 8000 in
theorem cP_waited {m p v : Int32} {many k : Nat} (hm : m = nI many) (hmb : many ≤ 60) (hp : p = nI k) (hk : k < 1000) (h1 : k < many → A 8 k = v → Q (some (.int 1)) (mem A F X)) (h0 : ¬ (k < many ∧ A 8 k = v) → Q (some (.int 0)) (mem A F X)) : pz_C yX9_waited KX9_waited [.ref 0, .int m, .int p, .int v] (mem A F X) Q := by
  subst hm
  subst hp
  refine pz_C_of rfl rfl rfl (Nat.le_of_ble_eq_true rfl) (pz_wp_ok (pz_Is_ok SX9_waited) [] 100 ?_)
  have ck := qcl (x := nI k) k rfl (by omega)
  by_cases g : k < many
  · refine br2 (n_ge (by omega) (by omega) g) ?_
    refine br2 (n_ge (b := 60) (by omega) (by omega) (by omega)) ?_
    refine ⟨qin k rfl (by omega) (by omega), ?_⟩
    rw [ck]
    refine ⟨fun g2 => ?_, fun g2 => ?_⟩
    · have g2 : ¬ A 8 k = v := g2
      exact ⟨Or.inl rfl, h0 (fun z => g2 z.2)⟩
    · exact ⟨Or.inr rfl, h1 g g2⟩
  · refine br1 (fun z => z (nI_le (by omega) (by omega))) ?_
    exact ⟨Or.inl rfl, h0 (fun z => g z.1)⟩
set_option maxRecDepth 8000 in
theorem tP_check {n : Int32} {many tot r : Nat} {t : Nat → Int32} {B : Int} (hm : many ≤ 60) (ht : tot ≤ 30) (hok : okS t) (hv : okV 20 B t) (hB : B + 20000 < 1073741824) (hr : rTxs X t) (h : ∀ A' : qA, qag [2, 4] A A' → Q (some (.int (f_cend r many (2 * tot)))) (mem A' F X)) : ∀ (d i : Nat), i + d = tot → 2 * i ≤ many → r = f_cmp (A 8) (f_due t) many (2 * tot) (61 - 2 * i) (2 * i) → ∀ A1 : qA, qag [2, 4] A A1 → A1 2 = f_it i t → pz_T z0 KX9_check Q 63 (0, 0) [some (.ref 0), some (.int n), some (.int (nI many)), some (.int (nI tot)), some (.int (nI i))] [] (mem A1 F X) := by
  have e2t : (2 : Int32) * nI tot = nI (2 * tot) := pk_mul 2 tot
  intro d
  induction d with
  | zero =>
    intro i hi hle he A1 hA e1
    have hi : i = tot := by omega
    subst hi
    have hc : r = 2 * i := by
      rw [he]
      obtain ⟨q, hq⟩ : ∃ q, 61 - 2 * i = q + 1 := ⟨60 - 2 * i, by omega⟩
      rw [hq, f_cmp, if_neg (fun z => by omega)]
    have h := h A1 hA
    rw [hc] at h
    unfold f_cend at h
    refine pz_wp_ok (pz_Is_ok SX9_check) [63] 100 ?_
    refine br1 (fun z => z (nI_le (Nat.le_refl _) (by omega))) ?_
    refine ⟨fun g => ?_, fun g => ?_⟩
    · have g : nI many ≤ 2 * nI i := g
      rw [e2t] at g
      have g := (nI_leI (by omega) (by omega)).mp g
      rw [if_pos ⟨by omega, rfl⟩] at h
      exact h
    · have g : ¬ nI many ≤ 2 * nI i := g
      rw [e2t] at g
      have g : ¬ many ≤ 2 * i := fun z => g (nI_le z (by omega))
      rw [if_neg (fun z => by omega), ← show (1 : Int32) + nI (2 * i) = nI (1 + 2 * i) from nI_add 1 _, ← e2t] at h
      exact h
  | succ d ih =>
    intro i hi hle he A1 hA e1
    have e2i : (2 : Int32) * nI i = nI (2 * i) := pk_mul 2 i
    have e2i1 : (2 : Int32) * nI i + 1 = nI (2 * i + 1) := by rw [e2i]; exact nI_1 _
    have okn := okS_it hok (i + 1)
    have d1 := f_due_e t i
    have d2 := f_due_o t i
    have en := f_n_it hok (i + 1)
    obtain ⟨q, hq⟩ : ∃ q, 61 - 2 * i = q + 1 + 1 := ⟨59 - 2 * i, by omega⟩
    rw [hq, f_cmp] at he
    refine pz_wp_ok (pz_Is_ok SX9_check) [63] 100 ?_
    refine br2 (n_ge (by omega) (by omega) (by omega)) ?_
    refine cT2_pass (W := 20) (B := B + 99 * (i : Int)) (by rw [e1]; exact okS_it hok i) (by rw [e1]; exact okV_it hv hok ⟨by decide, by decide⟩ i (by omega)) ⟨by decide, by decide⟩ (by omega) (by rw [e1]; exact rTxs_cg (f_it_out hok i (by omega)) (fun j hj => f_it_out hok i (by omega)) hr) (fun A2 hA2 e2 => ?_)
    have e2 : A2 2 = f_it (i + 1) t := by rw [e2, e1]; rfl
    have ag : qag [2, 4] A A2 := hA.trans (hA2.mono (by simp))
    have e8 : A2 8 = A 8 := ag 8 (by simp)
    rw [← e2] at d1 d2 okn en
    rw [← en] at d2
    obtain ⟨n1, n2⟩ := okn.n
    refine cT2_allParts ?_
    rw [← d1]
    refine cP_waited rfl hm e2i (by omega) (fun g1 g2 => ?_) (fun g => ?_)
    · refine br1 (by decide) ?_
      rw [e8] at g2
      rw [if_pos ⟨g1, by omega, g2⟩, f_cmp] at he
      refine cT2_allAte n2 n1 ?_
      rw [← d2]
      refine cP_waited rfl hm e2i1 (by omega) (fun g3 g4 => ?_) (fun g3 => ?_)
      · refine br1 (by decide) ?_
        rw [e8] at g4
        rw [if_pos ⟨g3, by omega, g4⟩] at he
        have ih' := ih (i + 1) (by omega) (by omega) (by rw [he, show 61 - 2 * (i + 1) = q by omega]; rfl) A2 ag e2
        exact qT ih' (by rw [← nI_1 i]; rfl) rfl rfl
      · refine br2 (fun z => z rfl) ?_
        rw [e8] at g3
        rw [if_neg (fun z => g3 ⟨z.1, z.2.2⟩)] at he
        have h := h A2 ag
        rw [he] at h
        unfold f_cend at h
        rw [if_neg (fun z => by omega), show 1 + (2 * i + 1) = 2 + 2 * i by omega, ← show (2 : Int32) + nI (2 * i) = nI (2 + 2 * i) from nI_add 2 _, ← e2i] at h
        exact h
    · refine br2 (fun z => z rfl) ?_
      rw [e8] at g
      rw [if_neg (fun z => g ⟨z.1, z.2.2⟩)] at he
      have h := h A2 ag
      rw [he] at h
      unfold f_cend at h
      rw [if_neg (fun z => by omega), ← show (1 : Int32) + nI (2 * i) = nI (1 + 2 * i) from nI_add 1 _, ← e2i] at h
      exact h
set_option maxRecDepth 8000 in
theorem cP_check {n : Int32} {many : Nat} {t : Nat → Int32} {B : Int} (hm : many ≤ 60) (hF : F 1 = nI many) (hI : ¬ F 0 = 0 → okS t ∧ okV 20 B t ∧ rTxs X t ∧ qIn 0 9999 (t 2) ∧ ∀ j, j < 142 → t j = A 1 j) (hB : B + 20000 < 1073741824) (h1 : ¬ qIn 1 30 n → Q (some (.int BAD)) (mem A (upd F 1 0) X)) (h2 : qIn 1 30 n → F 0 = 0 → Q (some (.int (-1000000002))) (mem A (upd F 1 0) X)) (h3 : qIn 1 30 n → ¬ F 0 = 0 → ∀ A' : qA, qag [2, 4] A A' → Q (some (.int (s_check (A 8) many t n.toNatClampNeg))) (mem A' (upd F 1 0) X)) : pz_C yX9_check KX9_check [.ref 0, .int n] (mem A F X) Q := by
  refine pz_C_of rfl rfl rfl (Nat.le_of_ble_eq_true rfl) (pz_wp_ok (pz_Is_ok SX9_check) [63] 100 ?_)
  refine cP_within 1 30 rfl rfl (fun g => ?_) (fun g => ?_)
  · refine br1 (by decide) ?_
    refine ⟨fun g2 => ?_, fun g2 => ?_⟩
    · have g2 : ¬ F 0 = 0 := g2
      obtain ⟨hok, hv, hr, hq, ht⟩ := hI g2
      have h3 := h3 g g2
      obtain ⟨m, e, m1, m2⟩ := qIpos g (by omega)
      have em := qcl m e (by omega)
      obtain ⟨mi, mi1, mi2, mi3⟩ := qIn_nat hq
      rw [em] at h3
      unfold s_check at h3
      have ecn := f_cn_eq hok mi3 (by omega) m 0 (by omega)
      rw [Nat.zero_add, Nat.add_zero] at ecn
      rw [ecn] at h3
      have e2 : A 1 2 = nI mi := by rw [← ht 2 (by omega)]; exact mi3
      have e8 : (9999 : Int32) - A 1 2 = nI (9999 - mi) := by rw [e2]; exact nI_sub1 (a := 9999) (by omega)
      have emn : (if (9999 : Int32) - A 1 2 < n then (9999 : Int32) - A 1 2 else n) = nI (min m (9999 - mi)) := by
        rw [e8, e]
        by_cases z : nI (9999 - mi) < nI m
        · rw [if_pos z]
          rw [i_lt, nIi (by omega), nIi (by omega)] at z
          congr 1
          omega
        · rw [if_neg z]
          rw [i_lt, nIi (by omega), nIi (by omega)] at z
          congr 1
          omega
      have hc4 : A 1 4 = 0 ∨ A 1 4 = 1 := by rw [← ht 4 (by omega)]; exact hok.2.2.2.1
      refine qC (cT2_becomes1 (A := A) (F := upd F 1 0) (X := X) (t := t) ht hc4 ?_) rfl rfl
      have := tP_check (A := A) (F := upd F 1 0) (X := X) (Q := Q) (n := n) (many := many) (tot := min m (9999 - mi)) (t := t) (B := B) hm (r := f_cmp (A 8) (f_due t) many (2 * min m (9999 - mi)) 61 0) (by omega) hok hv hB hr h3 (min m (9999 - mi)) 0 (by omega) (by omega) rfl (va_up A 2 t) (qag.up (by simp)) (vu_at _ _ _)
      rw [← emn, ← hF] at this
      exact this
    · exact h2 g g2
  · refine br2 (fun z => z rfl) ?_
    exact h1 g
set_option maxRecDepth 8000 in
theorem cP_keep {t : Nat → Int32} (hc : A 0 4 = 0 ∨ A 0 4 = 1) (ht : ∀ j, j < 142 → t j = A 0 j) (h : Q (some (.int (A 0 0))) (mem (va_up A 1 t) (upd F 0 1) X)) : pz_C yX9_keep KX9_keep [.ref 0] (mem A F X) Q := by
  refine pz_C_of rfl rfl rfl (Nat.le_of_ble_eq_true rfl) (pz_wp_ok (pz_Is_ok SX9_keep) [] 100 ?_)
  refine cT1_becomes0 ht hc ?_
  refine ⟨Or.inr rfl, ?_⟩
  exact h
set_option maxRecDepth 8000 in
theorem cP_back {t : Nat → Int32} (hc : ¬ F 0 = 0 → A 1 4 = 0 ∨ A 1 4 = 1) (ht : ¬ F 0 = 0 → ∀ j, j < 142 → t j = A 1 j) (h1 : F 0 = 0 → Q (some (.int (-1000000002))) (mem A F X)) (h0 : ¬ F 0 = 0 → Q (some (.int (t 0))) (mem (va_up A 0 t) F X)) : pz_C yX9_back KX9_back [.ref 0] (mem A F X) Q := by
  refine pz_C_of rfl rfl rfl (Nat.le_of_ble_eq_true rfl) (pz_wp_ok (pz_Is_ok SX9_back) [] 100 ?_)
  refine ⟨fun g => ?_, fun g => ?_⟩
  · exact cT0_becomes1 (ht g) (hc g) (h0 g)
  · exact h1 g
def pctab : List (Int32 × Nat) := [(0, 76), (1, 84), (2, 121), (3, 121), (4, 121), (5, 121), (6, 92), (7, 100), (8, 105), (9, 113)]
set_option maxRecDepth 8000 in
theorem cP_count {x : Int32} (h : Q (some (.int (s_count (A 0) (F 1) (F 2) x))) (mem A F X)) : pz_C yX9_count KX9_count [.ref 0, .int x] (mem A F X) Q := by
  refine pz_C_of rfl rfl rfl (Nat.le_of_ble_eq_true rfl) (pz_wp_ok (pz_Is_ok SX9_count) [22] 100 ?_)
  unfold s_count at h
  refine cP_within 2 5 rfl rfl (fun g => ?_) (fun g => ?_)
  · refine br2 (by decide) ?_
    obtain ⟨m, m1, m2, m3⟩ := qIn_nat (x := x) (hi := 5) ⟨by have := g.1; omega, g.2⟩
    have hm : 2 ≤ m := by
      have := g.1
      rw [m3, nIi m2] at this
      omega
    have : m = 2 ∨ m = 3 ∨ m = 4 ∨ m = 5 := by omega
    rcases this with e | e | e | e <;> subst e <;> subst m3
    · rw [if_neg (by decide), if_neg (by decide), if_pos (by decide)] at h
      exact ⟨qin 0 rfl (by omega) (by omega), h⟩
    · rw [if_neg (by decide), if_neg (by decide), if_neg (by decide), if_pos (by decide)] at h
      exact ⟨qin 1 rfl (by omega) (by omega), h⟩
    · rw [if_neg (by decide), if_neg (by decide), if_neg (by decide), if_neg (by decide), if_pos (by decide)] at h
      exact ⟨qin 2 rfl (by omega) (by omega), h⟩
    · rw [if_neg (by decide), if_neg (by decide), if_neg (by decide), if_neg (by decide), if_neg (by decide), if_pos (by decide)] at h
      exact ⟨qin 3 rfl (by omega) (by omega), h⟩
  · refine br1 (fun z => z rfl) ?_
    refine pz_T_sw (cs := pctab) (d := 121) (pz_Is_ok SX9_count (22, pz_sw pctab 121) (List.mem_of_getElem? (i := 14) rfl)) ?_
    by_cases g0 : x = 0
    · subst g0
      rw [if_pos rfl] at h
      rw [show pz_tgt 0 pctab 121 = 76 by decide]
      refine pz_wp_ok (pz_Is_ok SX9_count) [] 100 ?_
      exact h
    rw [if_neg g0] at h
    by_cases g1 : x = 1
    · subst g1
      rw [if_pos rfl] at h
      rw [show pz_tgt 1 pctab 121 = 84 by decide]
      refine pz_wp_ok (pz_Is_ok SX9_count) [] 100 ?_
      exact h
    rw [if_neg g1] at h
    have n2 : ¬ x = 2 := fun z => g (by subst z; decide)
    have n3 : ¬ x = 3 := fun z => g (by subst z; decide)
    have n4 : ¬ x = 4 := fun z => g (by subst z; decide)
    have n5 : ¬ x = 5 := fun z => g (by subst z; decide)
    rw [if_neg n2, if_neg n3, if_neg n4, if_neg n5] at h
    by_cases g6 : x = 6
    · subst g6
      rw [if_pos rfl] at h
      rw [show pz_tgt 6 pctab 121 = 92 by decide]
      refine pz_wp_ok (pz_Is_ok SX9_count) [] 100 ?_
      exact h
    rw [if_neg g6] at h
    by_cases g7 : x = 7
    · subst g7
      rw [if_pos rfl] at h
      rw [show pz_tgt 7 pctab 121 = 100 by decide]
      refine pz_wp_ok (pz_Is_ok SX9_count) [] 100 ?_
      exact h
    rw [if_neg g7] at h
    by_cases g8 : x = 8
    · subst g8
      rw [if_pos rfl] at h
      rw [show pz_tgt 8 pctab 121 = 105 by decide]
      refine pz_wp_ok (pz_Is_ok SX9_count) [] 100 ?_
      exact h
    rw [if_neg g8] at h
    by_cases g9 : x = 9
    · subst g9
      rw [if_pos rfl] at h
      rw [show pz_tgt 9 pctab 121 = 113 by decide]
      refine pz_wp_ok (pz_Is_ok SX9_count) [] 100 ?_
      exact h
    rw [if_neg g9] at h
    have e : pz_tgt x pctab 121 = 121 := by
      unfold pctab
      simp [pz_tgt, g0, g1, n2, n3, n4, n5, g6, g7, g8, g9]
    rw [e]
    refine pz_wp_ok (pz_Is_ok SX9_count) [] 100 ?_
    exact h
end POT
