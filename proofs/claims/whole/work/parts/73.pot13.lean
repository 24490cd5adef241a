/-! the pot's calls: sheets -/
theorem i_short (x : Int32) : x.toInt16.toInt32 = x <<< (16 &&& 31) >>> (16 &&& 31) := by
  apply (i_eq _ _).mpr
  have hs : (((16 : Int32) &&& 31).toBitVec.smod 32).toNat = 16 := by decide
  rw [Int16.toInt_toInt32, Int32.toInt_toInt16, pk_shr _ _ 16 hs]
  have h1 := pk_shl x ((16 : Int32) &&& 31) 16 hs
  generalize x <<< ((16 : Int32) &&& 31) = y at h1 ⊢
  have e1 : y.toInt = if 2 * y.toBitVec.toNat < 2 ^ 32 then (y.toBitVec.toNat : Int) else (y.toBitVec.toNat : Int) - 2 ^ 32 := by
    show y.toBitVec.toInt = _
    rw [BitVec.toInt_eq_toNat_cond]
    rfl
  have e2 : x.toInt = if 2 * x.toBitVec.toNat < 2 ^ 32 then (x.toBitVec.toNat : Int) else (x.toBitVec.toNat : Int) - 2 ^ 32 := by
    show x.toBitVec.toInt = _
    rw [BitVec.toInt_eq_toNat_cond]
    rfl
  have hx : x.toBitVec.toNat < 2 ^ 32 := x.toBitVec.isLt
  rw [Int.shiftRight_eq_div_pow, e1, e2, h1, Int.bmod_def]
  generalize x.toBitVec.toNat = u at hx
  have hm : u * 2 ^ 16 % 2 ^ 32 = u % 65536 * 65536 := by omega
  rw [hm]
  have hr : u % 65536 < 65536 := Nat.mod_lt _ (by omega)
  generalize hq : u % 65536 = r at hr
  by_cases c1 : 2 * u < 2 ^ 32
  · rw [if_pos c1]
    by_cases c2 : 2 * (r * 65536) < 2 ^ 32
    · rw [if_pos c2, if_pos (by omega)]; omega
    · rw [if_neg c2, if_neg (by omega)]; omega
  · rw [if_neg c1]
    by_cases c2 : 2 * (r * 65536) < 2 ^ 32
    · rw [if_pos c2, if_pos (by omega)]; omega
    · rw [if_neg c2, if_neg (by omega)]; omega
theorem f_std_z (row t : Nat → Int32) (sz n : Nat) : (f_std row t sz n 0).1 < 0 := show (-1 : Int32) < 0 by decide
theorem f_std_pos (row t : Nat → Int32) (sz n : Nat) : ∀ k, k < 36 → ¬ (f_std row t sz n (k + 1)).1 < 0
  | 0, _ => by
    rw [f_std, if_pos (Or.inl (f_std_z _ _ _ _))]
    show ¬ nI 0 < 0
    decide
  | k + 1, h => by
    rw [f_std]
    by_cases g : (f_std row t sz n (k + 1)).1 < 0 ∨ f_stv row t sz n (k + 1) < (f_std row t sz n (k + 1)).2
    · rw [if_pos g]; exact i_nlt.mpr (nI_pos' (by omega))
    · rw [if_neg g]; exact f_std_pos row t sz n k (by omega)
theorem f_dif_in {row t : Nat → Int32} {B : Int} (hr : okRow row) (hB : 0 ≤ B ∧ B < 40000000) (hp : ∀ c, c < 36 → 0 ≤ (t (82 + c)).toInt ∧ (t (82 + c)).toInt ≤ B) : ∀ k, k ≤ 24 → 0 ≤ (f_dif row t k).toInt ∧ (f_dif row t k).toInt ≤ (k : Int) * (B + 99999)
  | 0, _ => by rw [f_dif]; exact ⟨by decide, by show (0 : Int) ≤ _; omega⟩
  | k + 1, hk => by
    obtain ⟨a1, a2⟩ := f_dif_in hr hB hp k (by omega)
    obtain ⟨p1, p2⟩ := hp k (by omega)
    have hd : 0 ≤ (if row k = -1000000005 then 0 else if row k < t (82 + k) then t (82 + k) - row k else row k - t (82 + k) : Int32).toInt ∧ (if row k = -1000000005 then 0 else if row k < t (82 + k) then t (82 + k) - row k else row k - t (82 + k) : Int32).toInt ≤ B + 99999 := by
      by_cases z : row k = -1000000005
      · rw [if_pos z]; exact ⟨by decide, by show (0 : Int) ≤ _; omega⟩
      · rw [if_neg z]
        obtain ⟨q1, q2⟩ := (hr k (by omega)).elim (fun y => absurd y z) id
        by_cases z2 : row k < t (82 + k)
        · rw [if_pos z2, i_sub (by omega) (by omega)]
          rw [i_lt] at z2
          omega
        · rw [if_neg z2, i_sub (by omega) (by omega)]
          rw [i_lt] at z2
          omega
    rw [f_dif]
    generalize (if row k = -1000000005 then 0 else if row k < t (82 + k) then t (82 + k) - row k else row k - t (82 + k) : Int32) = v at hd
    have hk2 : (k : Int) * (B + 99999) ≤ 24 * (B + 99999) := Int.mul_le_mul_of_nonneg_right (by omega) (by omega)
    have e := i_add (x := f_dif row t k) (y := v) (by omega) (by omega)
    rw [e]
    have e3 : ((k + 1 : Nat) : Int) * (B + 99999) = (k : Int) * (B + 99999) + (B + 99999) := by
      rw [Int.natCast_add, Int.natCast_one, Int.add_mul, Int.one_mul]
    rw [e3]
    omega
theorem three' {so : Int32} (h : so = -1 ∨ so = 0 ∨ so = 1) : (so < 0 ↔ so = -1) := by
  rcases h with e | e | e <;> subst e <;> decide
section POT
variable {A A1 : qA} {F : qF} {X : qX} {Q : pz_Q} {M : pz_M}
set_option maxRecDepth 8000 in
theorem cP0_sheet {so n : Int32} (h1 : ¬ (qIn (-1) 1 so ∧ ¬ (0 ≤ so ∧ 24 < n)) → Q (some (.int BAD)) (mem A F X)) (h2 : qIn (-1) 1 so → ¬ (0 ≤ so ∧ 24 < n) → (0 ≤ so ∧ n < 0) → Q (some (.int (-1000000014))) (mem A F X)) (h3 : qIn (-1) 1 so → ¬ (0 ≤ so ∧ 24 < n) → ¬ (0 ≤ so ∧ n < 0) → Q (some (.int (f_sz so n))) (mem (va_up A 10 (qcp 24 (fun _ => 0) (A 10))) (upd (upd F 10 so) 14 (f_sz so n)) X)) : pz_C yX9_sheet KX9_sheet [.ref 0, .int 0, .int so, .int n] (mem A F X) Q := by
  refine pz_C_of rfl rfl rfl (Nat.le_of_ble_eq_true rfl) (pz_wp_ok (pz_Is_ok SX9_sheet) [] 100 ?_)
  refine cP_isSheet (fun _ => ?_) (fun g => absurd ⟨by decide, by decide⟩ g)
  refine br2 (by decide) ?_
  refine cP_within (-1) 1 rfl rfl (fun g1 => ?_) (fun g1 => ?_)
  · refine br1 (by decide) ?_
    have zn : ∀ x : Int32, (0 : Int32) ≤ x ↔ 0 ≤ x.toInt := fun x => i_le 0 x
    refine ⟨fun g2 => ?_, fun g2 => ?_⟩
    · have g2 : ¬ so = -1 := g2
      have so0 : (0 : Int32) ≤ so := by
        rw [i_eq, show (-1 : Int32).toInt = -1 from rfl] at g2
        rw [zn]
        have := g1.1
        omega
      refine ⟨fun g3 => ?_, fun g3 => ?_⟩
      · have g3 : n ≤ 24 := g3
        have n24 : ¬ (0 ≤ so ∧ (24 : Int32) < n) := fun z => i_nlt.mpr g3 z.2
        refine ⟨fun g4 => ?_, fun g4 => ?_⟩
        · have g4 : (0 : Int32) ≤ n := g4
          have h3 := h3 g1 n24 (fun z => i_nlt.mpr g4 z.2)
          have ez : f_sz so n = n := by unfold f_sz; rw [if_pos so0]
          rw [ez] at h3
          refine ⟨qin 0 rfl (by omega) (by omega), ?_⟩
          exact cS0_becomes h3
        · have g4 : ¬ (0 : Int32) ≤ n := g4
          exact h2 g1 n24 ⟨so0, i_nle.mp g4⟩
      · have g3 : ¬ n ≤ 24 := g3
        exact h1 (fun z => z.2 ⟨so0, i_nle.mp g3⟩)
    · have g2 : so = -1 := g2
      subst g2
      have h3 := h3 g1 (fun z => absurd z.1 (by decide)) (fun z => absurd z.1 (by decide))
      have ez : f_sz (-1) n = 0 := by unfold f_sz; rw [if_neg (by decide)]
      rw [ez] at h3
      refine ⟨qin 0 rfl (by omega) (by omega), ?_⟩
      exact cS0_becomes h3
  · refine br2 (fun z => z rfl) ?_
    exact h1 (fun z => g1 z.1)
set_option maxRecDepth 8000 in
theorem cP0_mark {p v : Int32} {z : Nat} (hs : F 10 = -1 ∨ F 10 = 0 ∨ F 10 = 1) (hz : F 14 = nI z) (hz2 : z ≤ 24) (h : Q (some (.int (v_mark (F 10) z p v).1)) (mem (va_up A 10 (o_up (A 10) p.toNatClampNeg (v_mark (F 10) z p v).2)) F X)) : pz_C yX9_mark KX9_mark [.ref 0, .int 0, .int p, .int v] (mem A F X) Q := by
  refine pz_C_of rfl rfl rfl (Nat.le_of_ble_eq_true rfl) (pz_wp_ok (pz_Is_ok SX9_mark) [] 100 ?_)
  unfold v_mark at h
  refine cP_isSheet (fun _ => ?_) (fun g => absurd ⟨by decide, by decide⟩ g)
  refine br1 (by decide) ?_
  refine ⟨qin 0 rfl (by omega) (by omega), ?_⟩
  refine cS0_isMissing (fun g => ?_) (fun g => ?_)
  · refine br2 (by decide) ?_
    rw [if_pos ((three' hs).mpr g)] at h
    dsimp only [o_up] at h
    rw [vu_s] at h
    exact h
  refine br1 (fun z => z rfl) ?_
  rw [if_neg (fun z => g ((three' hs).mp z))] at h
  refine cS0_hasPlace hz (by omega) (fun g2 => ?_) (fun g2 => ?_)
  · refine br1 (by decide) ?_
    rw [if_neg (fun z => z g2)] at h
    obtain ⟨b1, b2, b3⟩ := qI (m := 24) g2 (by omega)
    refine ⟨fun g3 => ?_, fun g3 => ?_⟩
    · have g3 : ¬ F 10 = 0 := g3
      have g3' : F 10 = 1 := hs.elim (fun z => absurd z g) (fun z => z.elim (fun y => absurd y g3) id)
      rw [if_neg (fun z => g3 z.1)] at h
      refine ⟨fun g4 => ?_, fun g4 => ?_⟩
      · have g4 : v = -1000000005 := g4
        rw [if_neg (fun z => z.2.1 g4), if_neg g3] at h
        dsimp only [o_up] at h
        refine ⟨qin _ b1 b2 (by omega), ?_⟩
        exact h
      · have g4 : ¬ v = -1000000005 := g4
        refine cP_within (-99999) 99999 rfl rfl (fun g5 => ?_) (fun g5 => ?_)
        · refine br1 (by decide) ?_
          rw [if_neg (fun z => z.2.2 g5), if_neg g3] at h
          dsimp only [o_up] at h
          refine ⟨qin _ b1 b2 (by omega), ?_⟩
          exact h
        · refine br2 (fun z => z rfl) ?_
          rw [if_pos ⟨g3', g4, g5⟩] at h
          dsimp only [o_up] at h
          rw [vu_s] at h
          exact h
    · have g3 : F 10 = 0 := g3
      refine ⟨fun g4 => ?_, fun g4 => ?_⟩
      · have g4 : ¬ v = -1000000005 := g4
        rw [if_neg (fun z => g4 z.2), if_neg (fun z => by rw [g3] at z; exact absurd z.1 (by decide)), if_pos g3] at h
        dsimp only [o_up] at h
        rw [← i_short] at h
        refine ⟨qin _ b1 b2 (by omega), ?_⟩
        exact h
      · have g4 : v = -1000000005 := g4
        rw [if_pos ⟨g3, g4⟩] at h
        dsimp only [o_up] at h
        rw [vu_s] at h
        exact h
  · refine br2 (fun z => z rfl) ?_
    rw [if_pos g2] at h
    dsimp only [o_up] at h
    rw [vu_s] at h
    exact h
set_option maxRecDepth 8000 in
theorem cP0_pour {z : Nat} (hz : F 14 = nI z) (hz2 : z ≤ 24) (h1 : F 10 = -1 → Q (some (.int (-1000000011))) (mem A F X)) (h : ¬ F 10 = -1 → Q (some (.int (f_pr (A 10) (A 0) z).1)) (mem (va_up A 0 (f_pr (A 10) (A 0) z).2) F X)) : pz_C yX9_pour KX9_pour [.ref 0, .int 0] (mem A F X) Q := by
  refine pz_C_of rfl rfl rfl (Nat.le_of_ble_eq_true rfl) (pz_wp_ok (pz_Is_ok SX9_pour) [] 100 ?_)
  refine cP_isSheet (fun _ => ?_) (fun g => absurd ⟨by decide, by decide⟩ g)
  refine br1 (by decide) ?_
  refine ⟨qin 0 rfl (by omega) (by omega), ?_⟩
  refine cS0_isMissing (fun g => ?_) (fun g => ?_)
  · refine br2 (by decide) ?_
    exact h1 g
  · refine br1 (fun z => z rfl) ?_
    refine ⟨qin 0 rfl (by omega) (by omega), ?_⟩
    exact cS0_pours hz hz2 (h g)
set_option maxRecDepth 8000 in
theorem cP0_reads {z : Nat} (hz : F 14 = nI z) (hz2 : z ≤ 24) (h1 : F 10 = -1 → Q (some (.int (-1000000011))) (mem A F X)) (h : ¬ F 10 = -1 → Q (some (.int (f_rd (A 10) (A 0) z 0))) (mem A F X)) : pz_C yX9_reads KX9_reads [.ref 0, .int 0] (mem A F X) Q := by
  refine pz_C_of rfl rfl rfl (Nat.le_of_ble_eq_true rfl) (pz_wp_ok (pz_Is_ok SX9_reads) [] 100 ?_)
  refine cP_isSheet (fun _ => ?_) (fun g => absurd ⟨by decide, by decide⟩ g)
  refine br1 (by decide) ?_
  refine ⟨qin 0 rfl (by omega) (by omega), ?_⟩
  refine cS0_isMissing (fun g => ?_) (fun g => ?_)
  · refine br2 (by decide) ?_
    exact h1 g
  · refine br1 (fun z => z rfl) ?_
    refine ⟨qin 0 rfl (by omega) (by omega), ?_⟩
    exact cS0_unlike hz hz2 (h g)
set_option maxRecDepth 8000 in
theorem tP0_stood {n w : Int32} {nn z : Nat} {B : Int} (hn : n = nI nn) (hnn : nn ≤ 20) (hz : F 14 = nI z) (hz2 : z ≤ 24) (hrow : okRow (A 10)) (hok : okS (A 0)) (hv : okV 20 B (A 0)) (hB : 0 ≤ B ∧ B + 20000 < 40000000) (hr : rTxs X (A 0)) (h : ∀ A' : qA, qag [2, 4] A A' → Q (some (.int (f_pikk w (f_std (A 10) (A 0) z nn 36)))) (mem A' F X)) : ∀ (d c : Nat), c + d = 36 → ∀ A1 : qA, qag [2, 4] A A1 → ∀ x7 : Option Value, pz_T z0 KX9_stood Q 54 (0, 0) [some (.ref 0), some (.int 0), some (.int n), some (.int w), some (.int (p_first (f_std (A 10) (A 0) z nn c) c).1), some (.int (p_first (f_std (A 10) (A 0) z nn c) c).2), some (.int (nI c)), x7] [] (mem A1 F X) := by
  intro d
  induction d with
  | zero =>
    intro c hc A1 hA x7
    have hc : c = 36 := by omega
    subst hc
    have h := h A1 hA
    have e : p_first (f_std (A 10) (A 0) z nn 36) 36 = f_std (A 10) (A 0) z nn 36 := rfl
    rw [e]
    unfold f_pikk at h
    generalize f_std (A 10) (A 0) z nn 36 = r at h ⊢
    refine pz_wp_ok (pz_Is_ok SX9_stood) [54] 100 ?_
    refine br1 (fun z => z (nI_le (Nat.le_refl _) (by omega))) ?_
    refine ⟨fun g => ?_, fun g => ?_⟩
    · have g : ¬ w = 0 := g
      rw [if_neg g] at h
      exact h
    · have g : w = 0 := g
      rw [if_pos g] at h
      exact h
  | succ d ih =>
    intro c hc A1 hA x7
    have e0 : A1 0 = A 0 := hA 0 (by simp)
    refine pz_wp_ok (pz_Is_ok SX9_stood) [54, 81] 100 ?_
    refine br2 (n_ge (b := 36) (by omega) (by omega) (by omega)) ?_
    refine cT2_becomes0 (A := A1) (t := A 0) (fun j _ => by rw [e0]) (by rw [e0]; exact hok.2.2.2.1) ?_
    have hm := mf_pot2 (A := va_up A1 2 (A 0)) (F := F) (X := X) (nI c)
    rw [vu_vu, vu_at] at hm
    refine qT (M' := mem (va_up A1 2 (upd (A 0) 3 (nI c))) F X) ?_ rfl rfl hm
    have hm2 := mf_coo2 (A := va_up A1 2 (upd (A 0) 3 (nI c))) (F := F) (X := X) 1
    rw [vu_vu, vu_at] at hm2
    have oks := okS_st hok (c := c) (by omega)
    have okvs : okV 20 B (upd (upd (A 0) 3 (nI c)) 4 1) := okV_cg (fun j hj => by rw [upd_ne _ _ (by omega), upd_ne _ _ (by omega)]) hv
    have rs : rTxs X (upd (upd (A 0) 3 (nI c)) 4 1) := rTxs_cg (by rw [upd_ne _ _ (by omega), upd_ne _ _ (by omega)]) (fun j hj => by rw [upd_ne _ _ (by omega), upd_ne _ _ (by omega)]) hr
    have evv : f_stv (A 10) (A 0) z nn c = f_dif (A 10) (f_it nn (upd (upd (A 0) 3 (nI c)) 4 1)) z := rfl
    have hw : f_std (A 10) (A 0) z nn (c + 1) = if (f_std (A 10) (A 0) z nn c).1 < 0 ∨ f_stv (A 10) (A 0) z nn c < (f_std (A 10) (A 0) z nn c).2 then (nI c, f_stv (A 10) (A 0) z nn c) else f_std (A 10) (A 0) z nn c := rfl
    have hpos := fun (q : 1 ≤ c) => f_std_pos (A 10) (A 0) z nn (c - 1) (by omega)
    generalize upd (upd (A 0) 3 (nI c)) 4 1 = t2 at oks okvs rs evv hm2
    generalize upd (A 0) 3 (nI c) = t1 at hm2 ⊢
    refine pz_wp_ok (pz_Is_ok SX9_stood) [54, 89] 100 ?_
    refine ⟨Or.inr rfl, ?_⟩
    refine qT (M' := mem (va_up A1 2 t2) F X) ?_ rfl rfl hm2
    refine pz_wp_ok (pz_Is_ok SX9_stood) [54] 100 ?_
    refine cT2_passes (A := va_up A1 2 t2) (W := 20) (B := B) hn (by omega) oks okvs ⟨by decide, by decide⟩ (by omega) rs (fun A2 hA2 e2 => ?_)
    have e2 : A2 2 = f_it nn t2 := e2
    have ag : qag [2, 4] A A2 := (hA.trans (qag.up (by simp))).trans (hA2.mono (by simp))
    have ea : A2 10 = A 10 := ag 10 (by simp)
    rw [← e2, ← ea] at evv
    have okv2 := okV_it okvs oks ⟨by decide, by decide⟩ nn (by omega)
    rw [← e2] at okv2
    have hp : ∀ c, c < 36 → 0 ≤ (A2 2 (82 + c)).toInt ∧ (A2 2 (82 + c)).toInt ≤ B + 20000 := fun c hc => by
      have := okv2.part hc
      omega
    refine ⟨qin 0 rfl (by omega) (by omega), ?_⟩
    refine cS0_differs hz hz2 (by rw [ea]; exact hrow) (fun c hc => by have := hp c hc; omega) ?_
    have bnd := f_dif_in (row := A2 10) (t := A2 2) (B := B + 20000) (by rw [ea]; exact hrow) ⟨by omega, hB.2⟩ hp z hz2
    rw [← evv, ea] at bnd ⊢
    have hk2 : (z : Int) * (B + 20000 + 99999) ≤ 24 * (B + 20000 + 99999) := Int.mul_le_mul_of_nonneg_right (by omega) (by omega)
    have ih' := ih (c + 1) (by omega) A2 ag
    rw [← nI_1 c] at ih'
    have e1 : p_first (f_std (A 10) (A 0) z nn (c + 1)) (c + 1) = f_std (A 10) (A 0) z nn (c + 1) := rfl
    rw [e1, hw] at ih'
    generalize f_stv (A 10) (A 0) z nn c = v at ih' bnd evv ⊢
    have ih' := ih' (some (.int v))
    match c, hpos with
    | 0, _ =>
      rw [if_pos (Or.inl (f_std_z _ _ _ _))] at ih'
      refine br2 (fun z => ?_) ?_
      · have z : (2147483647 : Int32) ≤ v := z
        rw [i_le, show (2147483647 : Int32).toInt = 2147483647 from rfl] at z
        omega
      exact ih'
    | c + 1, hpos =>
      have hp : ¬ (f_std (A 10) (A 0) z nn (c + 1)).1 < 0 := hpos (by omega)
      have e3 : p_first (f_std (A 10) (A 0) z nn (c + 1)) (c + 1) = f_std (A 10) (A 0) z nn (c + 1) := rfl
      rw [e3]
      generalize f_std (A 10) (A 0) z nn (c + 1) = r at ih' hp ⊢
      refine ⟨fun g => ?_, fun g => ?_⟩
      · have g : r.2 ≤ v := g
        rw [if_neg (fun z => z.elim hp (i_nlt.mpr g))] at ih'
        exact ih'
      · have g : ¬ r.2 ≤ v := g
        rw [if_pos (Or.inr (i_nle.mp g))] at ih'
        exact ih'
set_option maxRecDepth 8000 in
theorem cP0_stood {n w : Int32} {z : Nat} {B : Int} (hz : F 14 = nI z) (hz2 : z ≤ 24) (hrow : okRow (A 10)) (hok : okS (A 0)) (hv : okV 20 B (A 0)) (hB : 0 ≤ B ∧ B + 20000 < 40000000) (hr : rTxs X (A 0)) (h1 : ¬ (qIn 0 20 n ∧ qIn 0 1 w) → Q (some (.int BAD)) (mem A F X)) (h2 : qIn 0 20 n → qIn 0 1 w → F 10 = -1 → Q (some (.int (-1000000011))) (mem A F X)) (h : qIn 0 20 n → qIn 0 1 w → ¬ F 10 = -1 → ∀ A' : qA, qag [2, 4] A A' → Q (some (.int (f_pikk w (f_std (A 10) (A 0) z n.toNatClampNeg 36)))) (mem A' F X)) : pz_C yX9_stood KX9_stood [.ref 0, .int 0, .int n, .int w] (mem A F X) Q := by
  refine pz_C_of rfl rfl rfl (Nat.le_of_ble_eq_true rfl) (pz_wp_ok (pz_Is_ok SX9_stood) [54] 100 ?_)
  refine cP_isSheet (fun _ => ?_) (fun g => absurd ⟨by decide, by decide⟩ g)
  refine br2 (by decide) ?_
  refine cP_within 0 20 rfl rfl (fun g1 => ?_) (fun g1 => ?_)
  · refine br2 (by decide) ?_
    refine cP_within 0 1 rfl rfl (fun g2 => ?_) (fun g2 => ?_)
    · refine br1 (by decide) ?_
      refine ⟨qin 0 rfl (by omega) (by omega), ?_⟩
      refine cS0_isMissing (fun g => ?_) (fun g => ?_)
      · refine br2 (by decide) ?_
        exact h2 g1 g2 g
      · refine br1 (fun z => z rfl) ?_
        obtain ⟨a1, a2, a3⟩ := qI (m := 21) g1 (by omega)
        exact tP0_stood a1 (by omega) hz hz2 hrow hok hv hB hr (h g1 g2 g) 36 0 (by omega) A (qag.refl _ A) none
    · refine br2 (fun z => z rfl) ?_
      exact h1 (fun z => g2 z.2)
  · refine br1 (fun z => z rfl) ?_
    exact h1 (fun z => g1 z.1)
set_option maxRecDepth 8000 in
theorem cP1_sheet {so n : Int32} (h1 : ¬ (qIn (-1) 1 so ∧ ¬ (0 ≤ so ∧ 24 < n)) → Q (some (.int BAD)) (mem A F X)) (h2 : qIn (-1) 1 so → ¬ (0 ≤ so ∧ 24 < n) → (0 ≤ so ∧ n < 0) → Q (some (.int (-1000000014))) (mem A F X)) (h3 : qIn (-1) 1 so → ¬ (0 ≤ so ∧ 24 < n) → ¬ (0 ≤ so ∧ n < 0) → Q (some (.int (f_sz so n))) (mem (va_up A 11 (qcp 24 (fun _ => 0) (A 11))) (upd (upd F 11 so) 15 (f_sz so n)) X)) : pz_C yX9_sheet KX9_sheet [.ref 0, .int 1, .int so, .int n] (mem A F X) Q := by
  refine pz_C_of rfl rfl rfl (Nat.le_of_ble_eq_true rfl) (pz_wp_ok (pz_Is_ok SX9_sheet) [] 100 ?_)
  refine cP_isSheet (fun _ => ?_) (fun g => absurd ⟨by decide, by decide⟩ g)
  refine br2 (by decide) ?_
  refine cP_within (-1) 1 rfl rfl (fun g1 => ?_) (fun g1 => ?_)
  · refine br1 (by decide) ?_
    have zn : ∀ x : Int32, (0 : Int32) ≤ x ↔ 0 ≤ x.toInt := fun x => i_le 0 x
    refine ⟨fun g2 => ?_, fun g2 => ?_⟩
    · have g2 : ¬ so = -1 := g2
      have so0 : (0 : Int32) ≤ so := by
        rw [i_eq, show (-1 : Int32).toInt = -1 from rfl] at g2
        rw [zn]
        have := g1.1
        omega
      refine ⟨fun g3 => ?_, fun g3 => ?_⟩
      · have g3 : n ≤ 24 := g3
        have n24 : ¬ (0 ≤ so ∧ (24 : Int32) < n) := fun z => i_nlt.mpr g3 z.2
        refine ⟨fun g4 => ?_, fun g4 => ?_⟩
        · have g4 : (0 : Int32) ≤ n := g4
          have h3 := h3 g1 n24 (fun z => i_nlt.mpr g4 z.2)
          have ez : f_sz so n = n := by unfold f_sz; rw [if_pos so0]
          rw [ez] at h3
          refine ⟨qin 1 rfl (by omega) (by omega), ?_⟩
          exact cS1_becomes h3
        · have g4 : ¬ (0 : Int32) ≤ n := g4
          exact h2 g1 n24 ⟨so0, i_nle.mp g4⟩
      · have g3 : ¬ n ≤ 24 := g3
        exact h1 (fun z => z.2 ⟨so0, i_nle.mp g3⟩)
    · have g2 : so = -1 := g2
      subst g2
      have h3 := h3 g1 (fun z => absurd z.1 (by decide)) (fun z => absurd z.1 (by decide))
      have ez : f_sz (-1) n = 0 := by unfold f_sz; rw [if_neg (by decide)]
      rw [ez] at h3
      refine ⟨qin 1 rfl (by omega) (by omega), ?_⟩
      exact cS1_becomes h3
  · refine br2 (fun z => z rfl) ?_
    exact h1 (fun z => g1 z.1)
set_option maxRecDepth 8000 in
theorem cP1_mark {p v : Int32} {z : Nat} (hs : F 11 = -1 ∨ F 11 = 0 ∨ F 11 = 1) (hz : F 15 = nI z) (hz2 : z ≤ 24) (h : Q (some (.int (v_mark (F 11) z p v).1)) (mem (va_up A 11 (o_up (A 11) p.toNatClampNeg (v_mark (F 11) z p v).2)) F X)) : pz_C yX9_mark KX9_mark [.ref 0, .int 1, .int p, .int v] (mem A F X) Q := by
  refine pz_C_of rfl rfl rfl (Nat.le_of_ble_eq_true rfl) (pz_wp_ok (pz_Is_ok SX9_mark) [] 100 ?_)
  unfold v_mark at h
  refine cP_isSheet (fun _ => ?_) (fun g => absurd ⟨by decide, by decide⟩ g)
  refine br1 (by decide) ?_
  refine ⟨qin 1 rfl (by omega) (by omega), ?_⟩
  refine cS1_isMissing (fun g => ?_) (fun g => ?_)
  · refine br2 (by decide) ?_
    rw [if_pos ((three' hs).mpr g)] at h
    dsimp only [o_up] at h
    rw [vu_s] at h
    exact h
  refine br1 (fun z => z rfl) ?_
  rw [if_neg (fun z => g ((three' hs).mp z))] at h
  refine cS1_hasPlace hz (by omega) (fun g2 => ?_) (fun g2 => ?_)
  · refine br1 (by decide) ?_
    rw [if_neg (fun z => z g2)] at h
    obtain ⟨b1, b2, b3⟩ := qI (m := 24) g2 (by omega)
    refine ⟨fun g3 => ?_, fun g3 => ?_⟩
    · have g3 : ¬ F 11 = 0 := g3
      have g3' : F 11 = 1 := hs.elim (fun z => absurd z g) (fun z => z.elim (fun y => absurd y g3) id)
      rw [if_neg (fun z => g3 z.1)] at h
      refine ⟨fun g4 => ?_, fun g4 => ?_⟩
      · have g4 : v = -1000000005 := g4
        rw [if_neg (fun z => z.2.1 g4), if_neg g3] at h
        dsimp only [o_up] at h
        refine ⟨qin _ b1 b2 (by omega), ?_⟩
        exact h
      · have g4 : ¬ v = -1000000005 := g4
        refine cP_within (-99999) 99999 rfl rfl (fun g5 => ?_) (fun g5 => ?_)
        · refine br1 (by decide) ?_
          rw [if_neg (fun z => z.2.2 g5), if_neg g3] at h
          dsimp only [o_up] at h
          refine ⟨qin _ b1 b2 (by omega), ?_⟩
          exact h
        · refine br2 (fun z => z rfl) ?_
          rw [if_pos ⟨g3', g4, g5⟩] at h
          dsimp only [o_up] at h
          rw [vu_s] at h
          exact h
    · have g3 : F 11 = 0 := g3
      refine ⟨fun g4 => ?_, fun g4 => ?_⟩
      · have g4 : ¬ v = -1000000005 := g4
        rw [if_neg (fun z => g4 z.2), if_neg (fun z => by rw [g3] at z; exact absurd z.1 (by decide)), if_pos g3] at h
        dsimp only [o_up] at h
        rw [← i_short] at h
        refine ⟨qin _ b1 b2 (by omega), ?_⟩
        exact h
      · have g4 : v = -1000000005 := g4
        rw [if_pos ⟨g3, g4⟩] at h
        dsimp only [o_up] at h
        rw [vu_s] at h
        exact h
  · refine br2 (fun z => z rfl) ?_
    rw [if_pos g2] at h
    dsimp only [o_up] at h
    rw [vu_s] at h
    exact h
set_option maxRecDepth 8000 in
theorem cP1_pour {z : Nat} (hz : F 15 = nI z) (hz2 : z ≤ 24) (h1 : F 11 = -1 → Q (some (.int (-1000000011))) (mem A F X)) (h : ¬ F 11 = -1 → Q (some (.int (f_pr (A 11) (A 0) z).1)) (mem (va_up A 0 (f_pr (A 11) (A 0) z).2) F X)) : pz_C yX9_pour KX9_pour [.ref 0, .int 1] (mem A F X) Q := by
  refine pz_C_of rfl rfl rfl (Nat.le_of_ble_eq_true rfl) (pz_wp_ok (pz_Is_ok SX9_pour) [] 100 ?_)
  refine cP_isSheet (fun _ => ?_) (fun g => absurd ⟨by decide, by decide⟩ g)
  refine br1 (by decide) ?_
  refine ⟨qin 1 rfl (by omega) (by omega), ?_⟩
  refine cS1_isMissing (fun g => ?_) (fun g => ?_)
  · refine br2 (by decide) ?_
    exact h1 g
  · refine br1 (fun z => z rfl) ?_
    refine ⟨qin 1 rfl (by omega) (by omega), ?_⟩
    exact cS1_pours hz hz2 (h g)
set_option maxRecDepth 8000 in
theorem cP1_reads {z : Nat} (hz : F 15 = nI z) (hz2 : z ≤ 24) (h1 : F 11 = -1 → Q (some (.int (-1000000011))) (mem A F X)) (h : ¬ F 11 = -1 → Q (some (.int (f_rd (A 11) (A 0) z 0))) (mem A F X)) : pz_C yX9_reads KX9_reads [.ref 0, .int 1] (mem A F X) Q := by
  refine pz_C_of rfl rfl rfl (Nat.le_of_ble_eq_true rfl) (pz_wp_ok (pz_Is_ok SX9_reads) [] 100 ?_)
  refine cP_isSheet (fun _ => ?_) (fun g => absurd ⟨by decide, by decide⟩ g)
  refine br1 (by decide) ?_
  refine ⟨qin 1 rfl (by omega) (by omega), ?_⟩
  refine cS1_isMissing (fun g => ?_) (fun g => ?_)
  · refine br2 (by decide) ?_
    exact h1 g
  · refine br1 (fun z => z rfl) ?_
    refine ⟨qin 1 rfl (by omega) (by omega), ?_⟩
    exact cS1_unlike hz hz2 (h g)
set_option maxRecDepth 8000 in
theorem tP1_stood {n w : Int32} {nn z : Nat} {B : Int} (hn : n = nI nn) (hnn : nn ≤ 20) (hz : F 15 = nI z) (hz2 : z ≤ 24) (hrow : okRow (A 11)) (hok : okS (A 0)) (hv : okV 20 B (A 0)) (hB : 0 ≤ B ∧ B + 20000 < 40000000) (hr : rTxs X (A 0)) (h : ∀ A' : qA, qag [2, 4] A A' → Q (some (.int (f_pikk w (f_std (A 11) (A 0) z nn 36)))) (mem A' F X)) : ∀ (d c : Nat), c + d = 36 → ∀ A1 : qA, qag [2, 4] A A1 → ∀ x7 : Option Value, pz_T z0 KX9_stood Q 54 (0, 0) [some (.ref 0), some (.int 1), some (.int n), some (.int w), some (.int (p_first (f_std (A 11) (A 0) z nn c) c).1), some (.int (p_first (f_std (A 11) (A 0) z nn c) c).2), some (.int (nI c)), x7] [] (mem A1 F X) := by
  intro d
  induction d with
  | zero =>
    intro c hc A1 hA x7
    have hc : c = 36 := by omega
    subst hc
    have h := h A1 hA
    have e : p_first (f_std (A 11) (A 0) z nn 36) 36 = f_std (A 11) (A 0) z nn 36 := rfl
    rw [e]
    unfold f_pikk at h
    generalize f_std (A 11) (A 0) z nn 36 = r at h ⊢
    refine pz_wp_ok (pz_Is_ok SX9_stood) [54] 100 ?_
    refine br1 (fun z => z (nI_le (Nat.le_refl _) (by omega))) ?_
    refine ⟨fun g => ?_, fun g => ?_⟩
    · have g : ¬ w = 0 := g
      rw [if_neg g] at h
      exact h
    · have g : w = 0 := g
      rw [if_pos g] at h
      exact h
  | succ d ih =>
    intro c hc A1 hA x7
    have e0 : A1 0 = A 0 := hA 0 (by simp)
    refine pz_wp_ok (pz_Is_ok SX9_stood) [54, 81] 100 ?_
    refine br2 (n_ge (b := 36) (by omega) (by omega) (by omega)) ?_
    refine cT2_becomes0 (A := A1) (t := A 0) (fun j _ => by rw [e0]) (by rw [e0]; exact hok.2.2.2.1) ?_
    have hm := mf_pot2 (A := va_up A1 2 (A 0)) (F := F) (X := X) (nI c)
    rw [vu_vu, vu_at] at hm
    refine qT (M' := mem (va_up A1 2 (upd (A 0) 3 (nI c))) F X) ?_ rfl rfl hm
    have hm2 := mf_coo2 (A := va_up A1 2 (upd (A 0) 3 (nI c))) (F := F) (X := X) 1
    rw [vu_vu, vu_at] at hm2
    have oks := okS_st hok (c := c) (by omega)
    have okvs : okV 20 B (upd (upd (A 0) 3 (nI c)) 4 1) := okV_cg (fun j hj => by rw [upd_ne _ _ (by omega), upd_ne _ _ (by omega)]) hv
    have rs : rTxs X (upd (upd (A 0) 3 (nI c)) 4 1) := rTxs_cg (by rw [upd_ne _ _ (by omega), upd_ne _ _ (by omega)]) (fun j hj => by rw [upd_ne _ _ (by omega), upd_ne _ _ (by omega)]) hr
    have evv : f_stv (A 11) (A 0) z nn c = f_dif (A 11) (f_it nn (upd (upd (A 0) 3 (nI c)) 4 1)) z := rfl
    have hw : f_std (A 11) (A 0) z nn (c + 1) = if (f_std (A 11) (A 0) z nn c).1 < 0 ∨ f_stv (A 11) (A 0) z nn c < (f_std (A 11) (A 0) z nn c).2 then (nI c, f_stv (A 11) (A 0) z nn c) else f_std (A 11) (A 0) z nn c := rfl
    have hpos := fun (q : 1 ≤ c) => f_std_pos (A 11) (A 0) z nn (c - 1) (by omega)
    generalize upd (upd (A 0) 3 (nI c)) 4 1 = t2 at oks okvs rs evv hm2
    generalize upd (A 0) 3 (nI c) = t1 at hm2 ⊢
    refine pz_wp_ok (pz_Is_ok SX9_stood) [54, 89] 100 ?_
    refine ⟨Or.inr rfl, ?_⟩
    refine qT (M' := mem (va_up A1 2 t2) F X) ?_ rfl rfl hm2
    refine pz_wp_ok (pz_Is_ok SX9_stood) [54] 100 ?_
    refine cT2_passes (A := va_up A1 2 t2) (W := 20) (B := B) hn (by omega) oks okvs ⟨by decide, by decide⟩ (by omega) rs (fun A2 hA2 e2 => ?_)
    have e2 : A2 2 = f_it nn t2 := e2
    have ag : qag [2, 4] A A2 := (hA.trans (qag.up (by simp))).trans (hA2.mono (by simp))
    have ea : A2 11 = A 11 := ag 11 (by simp)
    rw [← e2, ← ea] at evv
    have okv2 := okV_it okvs oks ⟨by decide, by decide⟩ nn (by omega)
    rw [← e2] at okv2
    have hp : ∀ c, c < 36 → 0 ≤ (A2 2 (82 + c)).toInt ∧ (A2 2 (82 + c)).toInt ≤ B + 20000 := fun c hc => by
      have := okv2.part hc
      omega
    refine ⟨qin 1 rfl (by omega) (by omega), ?_⟩
    refine cS1_differs hz hz2 (by rw [ea]; exact hrow) (fun c hc => by have := hp c hc; omega) ?_
    have bnd := f_dif_in (row := A2 11) (t := A2 2) (B := B + 20000) (by rw [ea]; exact hrow) ⟨by omega, hB.2⟩ hp z hz2
    rw [← evv, ea] at bnd ⊢
    have hk2 : (z : Int) * (B + 20000 + 99999) ≤ 24 * (B + 20000 + 99999) := Int.mul_le_mul_of_nonneg_right (by omega) (by omega)
    have ih' := ih (c + 1) (by omega) A2 ag
    rw [← nI_1 c] at ih'
    have e1 : p_first (f_std (A 11) (A 0) z nn (c + 1)) (c + 1) = f_std (A 11) (A 0) z nn (c + 1) := rfl
    rw [e1, hw] at ih'
    generalize f_stv (A 11) (A 0) z nn c = v at ih' bnd evv ⊢
    have ih' := ih' (some (.int v))
    match c, hpos with
    | 0, _ =>
      rw [if_pos (Or.inl (f_std_z _ _ _ _))] at ih'
      refine br2 (fun z => ?_) ?_
      · have z : (2147483647 : Int32) ≤ v := z
        rw [i_le, show (2147483647 : Int32).toInt = 2147483647 from rfl] at z
        omega
      exact ih'
    | c + 1, hpos =>
      have hp : ¬ (f_std (A 11) (A 0) z nn (c + 1)).1 < 0 := hpos (by omega)
      have e3 : p_first (f_std (A 11) (A 0) z nn (c + 1)) (c + 1) = f_std (A 11) (A 0) z nn (c + 1) := rfl
      rw [e3]
      generalize f_std (A 11) (A 0) z nn (c + 1) = r at ih' hp ⊢
      refine ⟨fun g => ?_, fun g => ?_⟩
      · have g : r.2 ≤ v := g
        rw [if_neg (fun z => z.elim hp (i_nlt.mpr g))] at ih'
        exact ih'
      · have g : ¬ r.2 ≤ v := g
        rw [if_pos (Or.inr (i_nle.mp g))] at ih'
        exact ih'
set_option maxRecDepth 8000 in
theorem cP1_stood {n w : Int32} {z : Nat} {B : Int} (hz : F 15 = nI z) (hz2 : z ≤ 24) (hrow : okRow (A 11)) (hok : okS (A 0)) (hv : okV 20 B (A 0)) (hB : 0 ≤ B ∧ B + 20000 < 40000000) (hr : rTxs X (A 0)) (h1 : ¬ (qIn 0 20 n ∧ qIn 0 1 w) → Q (some (.int BAD)) (mem A F X)) (h2 : qIn 0 20 n → qIn 0 1 w → F 11 = -1 → Q (some (.int (-1000000011))) (mem A F X)) (h : qIn 0 20 n → qIn 0 1 w → ¬ F 11 = -1 → ∀ A' : qA, qag [2, 4] A A' → Q (some (.int (f_pikk w (f_std (A 11) (A 0) z n.toNatClampNeg 36)))) (mem A' F X)) : pz_C yX9_stood KX9_stood [.ref 0, .int 1, .int n, .int w] (mem A F X) Q := by
  refine pz_C_of rfl rfl rfl (Nat.le_of_ble_eq_true rfl) (pz_wp_ok (pz_Is_ok SX9_stood) [54] 100 ?_)
  refine cP_isSheet (fun _ => ?_) (fun g => absurd ⟨by decide, by decide⟩ g)
  refine br2 (by decide) ?_
  refine cP_within 0 20 rfl rfl (fun g1 => ?_) (fun g1 => ?_)
  · refine br2 (by decide) ?_
    refine cP_within 0 1 rfl rfl (fun g2 => ?_) (fun g2 => ?_)
    · refine br1 (by decide) ?_
      refine ⟨qin 1 rfl (by omega) (by omega), ?_⟩
      refine cS1_isMissing (fun g => ?_) (fun g => ?_)
      · refine br2 (by decide) ?_
        exact h2 g1 g2 g
      · refine br1 (fun z => z rfl) ?_
        obtain ⟨a1, a2, a3⟩ := qI (m := 21) g1 (by omega)
        exact tP1_stood a1 (by omega) hz hz2 hrow hok hv hB hr (h g1 g2 g) 36 0 (by omega) A (qag.refl _ A) none
    · refine br2 (fun z => z rfl) ?_
      exact h1 (fun z => g2 z.2)
  · refine br1 (fun z => z rfl) ?_
    exact h1 (fun z => g1 z.1)
set_option maxRecDepth 8000 in
theorem cP2_sheet {so n : Int32} (h1 : ¬ (qIn (-1) 1 so ∧ ¬ (0 ≤ so ∧ 24 < n)) → Q (some (.int BAD)) (mem A F X)) (h2 : qIn (-1) 1 so → ¬ (0 ≤ so ∧ 24 < n) → (0 ≤ so ∧ n < 0) → Q (some (.int (-1000000014))) (mem A F X)) (h3 : qIn (-1) 1 so → ¬ (0 ≤ so ∧ 24 < n) → ¬ (0 ≤ so ∧ n < 0) → Q (some (.int (f_sz so n))) (mem (va_up A 12 (qcp 24 (fun _ => 0) (A 12))) (upd (upd F 12 so) 16 (f_sz so n)) X)) : pz_C yX9_sheet KX9_sheet [.ref 0, .int 2, .int so, .int n] (mem A F X) Q := by
  refine pz_C_of rfl rfl rfl (Nat.le_of_ble_eq_true rfl) (pz_wp_ok (pz_Is_ok SX9_sheet) [] 100 ?_)
  refine cP_isSheet (fun _ => ?_) (fun g => absurd ⟨by decide, by decide⟩ g)
  refine br2 (by decide) ?_
  refine cP_within (-1) 1 rfl rfl (fun g1 => ?_) (fun g1 => ?_)
  · refine br1 (by decide) ?_
    have zn : ∀ x : Int32, (0 : Int32) ≤ x ↔ 0 ≤ x.toInt := fun x => i_le 0 x
    refine ⟨fun g2 => ?_, fun g2 => ?_⟩
    · have g2 : ¬ so = -1 := g2
      have so0 : (0 : Int32) ≤ so := by
        rw [i_eq, show (-1 : Int32).toInt = -1 from rfl] at g2
        rw [zn]
        have := g1.1
        omega
      refine ⟨fun g3 => ?_, fun g3 => ?_⟩
      · have g3 : n ≤ 24 := g3
        have n24 : ¬ (0 ≤ so ∧ (24 : Int32) < n) := fun z => i_nlt.mpr g3 z.2
        refine ⟨fun g4 => ?_, fun g4 => ?_⟩
        · have g4 : (0 : Int32) ≤ n := g4
          have h3 := h3 g1 n24 (fun z => i_nlt.mpr g4 z.2)
          have ez : f_sz so n = n := by unfold f_sz; rw [if_pos so0]
          rw [ez] at h3
          refine ⟨qin 2 rfl (by omega) (by omega), ?_⟩
          exact cS2_becomes h3
        · have g4 : ¬ (0 : Int32) ≤ n := g4
          exact h2 g1 n24 ⟨so0, i_nle.mp g4⟩
      · have g3 : ¬ n ≤ 24 := g3
        exact h1 (fun z => z.2 ⟨so0, i_nle.mp g3⟩)
    · have g2 : so = -1 := g2
      subst g2
      have h3 := h3 g1 (fun z => absurd z.1 (by decide)) (fun z => absurd z.1 (by decide))
      have ez : f_sz (-1) n = 0 := by unfold f_sz; rw [if_neg (by decide)]
      rw [ez] at h3
      refine ⟨qin 2 rfl (by omega) (by omega), ?_⟩
      exact cS2_becomes h3
  · refine br2 (fun z => z rfl) ?_
    exact h1 (fun z => g1 z.1)
set_option maxRecDepth 8000 in
theorem cP2_mark {p v : Int32} {z : Nat} (hs : F 12 = -1 ∨ F 12 = 0 ∨ F 12 = 1) (hz : F 16 = nI z) (hz2 : z ≤ 24) (h : Q (some (.int (v_mark (F 12) z p v).1)) (mem (va_up A 12 (o_up (A 12) p.toNatClampNeg (v_mark (F 12) z p v).2)) F X)) : pz_C yX9_mark KX9_mark [.ref 0, .int 2, .int p, .int v] (mem A F X) Q := by
  refine pz_C_of rfl rfl rfl (Nat.le_of_ble_eq_true rfl) (pz_wp_ok (pz_Is_ok SX9_mark) [] 100 ?_)
  unfold v_mark at h
  refine cP_isSheet (fun _ => ?_) (fun g => absurd ⟨by decide, by decide⟩ g)
  refine br1 (by decide) ?_
  refine ⟨qin 2 rfl (by omega) (by omega), ?_⟩
  refine cS2_isMissing (fun g => ?_) (fun g => ?_)
  · refine br2 (by decide) ?_
    rw [if_pos ((three' hs).mpr g)] at h
    dsimp only [o_up] at h
    rw [vu_s] at h
    exact h
  refine br1 (fun z => z rfl) ?_
  rw [if_neg (fun z => g ((three' hs).mp z))] at h
  refine cS2_hasPlace hz (by omega) (fun g2 => ?_) (fun g2 => ?_)
  · refine br1 (by decide) ?_
    rw [if_neg (fun z => z g2)] at h
    obtain ⟨b1, b2, b3⟩ := qI (m := 24) g2 (by omega)
    refine ⟨fun g3 => ?_, fun g3 => ?_⟩
    · have g3 : ¬ F 12 = 0 := g3
      have g3' : F 12 = 1 := hs.elim (fun z => absurd z g) (fun z => z.elim (fun y => absurd y g3) id)
      rw [if_neg (fun z => g3 z.1)] at h
      refine ⟨fun g4 => ?_, fun g4 => ?_⟩
      · have g4 : v = -1000000005 := g4
        rw [if_neg (fun z => z.2.1 g4), if_neg g3] at h
        dsimp only [o_up] at h
        refine ⟨qin _ b1 b2 (by omega), ?_⟩
        exact h
      · have g4 : ¬ v = -1000000005 := g4
        refine cP_within (-99999) 99999 rfl rfl (fun g5 => ?_) (fun g5 => ?_)
        · refine br1 (by decide) ?_
          rw [if_neg (fun z => z.2.2 g5), if_neg g3] at h
          dsimp only [o_up] at h
          refine ⟨qin _ b1 b2 (by omega), ?_⟩
          exact h
        · refine br2 (fun z => z rfl) ?_
          rw [if_pos ⟨g3', g4, g5⟩] at h
          dsimp only [o_up] at h
          rw [vu_s] at h
          exact h
    · have g3 : F 12 = 0 := g3
      refine ⟨fun g4 => ?_, fun g4 => ?_⟩
      · have g4 : ¬ v = -1000000005 := g4
        rw [if_neg (fun z => g4 z.2), if_neg (fun z => by rw [g3] at z; exact absurd z.1 (by decide)), if_pos g3] at h
        dsimp only [o_up] at h
        rw [← i_short] at h
        refine ⟨qin _ b1 b2 (by omega), ?_⟩
        exact h
      · have g4 : v = -1000000005 := g4
        rw [if_pos ⟨g3, g4⟩] at h
        dsimp only [o_up] at h
        rw [vu_s] at h
        exact h
  · refine br2 (fun z => z rfl) ?_
    rw [if_pos g2] at h
    dsimp only [o_up] at h
    rw [vu_s] at h
    exact h
set_option maxRecDepth 8000 in
theorem cP2_pour {z : Nat} (hz : F 16 = nI z) (hz2 : z ≤ 24) (h1 : F 12 = -1 → Q (some (.int (-1000000011))) (mem A F X)) (h : ¬ F 12 = -1 → Q (some (.int (f_pr (A 12) (A 0) z).1)) (mem (va_up A 0 (f_pr (A 12) (A 0) z).2) F X)) : pz_C yX9_pour KX9_pour [.ref 0, .int 2] (mem A F X) Q := by
  refine pz_C_of rfl rfl rfl (Nat.le_of_ble_eq_true rfl) (pz_wp_ok (pz_Is_ok SX9_pour) [] 100 ?_)
  refine cP_isSheet (fun _ => ?_) (fun g => absurd ⟨by decide, by decide⟩ g)
  refine br1 (by decide) ?_
  refine ⟨qin 2 rfl (by omega) (by omega), ?_⟩
  refine cS2_isMissing (fun g => ?_) (fun g => ?_)
  · refine br2 (by decide) ?_
    exact h1 g
  · refine br1 (fun z => z rfl) ?_
    refine ⟨qin 2 rfl (by omega) (by omega), ?_⟩
    exact cS2_pours hz hz2 (h g)
set_option maxRecDepth 8000 in
theorem cP2_reads {z : Nat} (hz : F 16 = nI z) (hz2 : z ≤ 24) (h1 : F 12 = -1 → Q (some (.int (-1000000011))) (mem A F X)) (h : ¬ F 12 = -1 → Q (some (.int (f_rd (A 12) (A 0) z 0))) (mem A F X)) : pz_C yX9_reads KX9_reads [.ref 0, .int 2] (mem A F X) Q := by
  refine pz_C_of rfl rfl rfl (Nat.le_of_ble_eq_true rfl) (pz_wp_ok (pz_Is_ok SX9_reads) [] 100 ?_)
  refine cP_isSheet (fun _ => ?_) (fun g => absurd ⟨by decide, by decide⟩ g)
  refine br1 (by decide) ?_
  refine ⟨qin 2 rfl (by omega) (by omega), ?_⟩
  refine cS2_isMissing (fun g => ?_) (fun g => ?_)
  · refine br2 (by decide) ?_
    exact h1 g
  · refine br1 (fun z => z rfl) ?_
    refine ⟨qin 2 rfl (by omega) (by omega), ?_⟩
    exact cS2_unlike hz hz2 (h g)
set_option maxRecDepth 8000 in
theorem tP2_stood {n w : Int32} {nn z : Nat} {B : Int} (hn : n = nI nn) (hnn : nn ≤ 20) (hz : F 16 = nI z) (hz2 : z ≤ 24) (hrow : okRow (A 12)) (hok : okS (A 0)) (hv : okV 20 B (A 0)) (hB : 0 ≤ B ∧ B + 20000 < 40000000) (hr : rTxs X (A 0)) (h : ∀ A' : qA, qag [2, 4] A A' → Q (some (.int (f_pikk w (f_std (A 12) (A 0) z nn 36)))) (mem A' F X)) : ∀ (d c : Nat), c + d = 36 → ∀ A1 : qA, qag [2, 4] A A1 → ∀ x7 : Option Value, pz_T z0 KX9_stood Q 54 (0, 0) [some (.ref 0), some (.int 2), some (.int n), some (.int w), some (.int (p_first (f_std (A 12) (A 0) z nn c) c).1), some (.int (p_first (f_std (A 12) (A 0) z nn c) c).2), some (.int (nI c)), x7] [] (mem A1 F X) := by
  intro d
  induction d with
  | zero =>
    intro c hc A1 hA x7
    have hc : c = 36 := by omega
    subst hc
    have h := h A1 hA
    have e : p_first (f_std (A 12) (A 0) z nn 36) 36 = f_std (A 12) (A 0) z nn 36 := rfl
    rw [e]
    unfold f_pikk at h
    generalize f_std (A 12) (A 0) z nn 36 = r at h ⊢
    refine pz_wp_ok (pz_Is_ok SX9_stood) [54] 100 ?_
    refine br1 (fun z => z (nI_le (Nat.le_refl _) (by omega))) ?_
    refine ⟨fun g => ?_, fun g => ?_⟩
    · have g : ¬ w = 0 := g
      rw [if_neg g] at h
      exact h
    · have g : w = 0 := g
      rw [if_pos g] at h
      exact h
  | succ d ih =>
    intro c hc A1 hA x7
    have e0 : A1 0 = A 0 := hA 0 (by simp)
    refine pz_wp_ok (pz_Is_ok SX9_stood) [54, 81] 100 ?_
    refine br2 (n_ge (b := 36) (by omega) (by omega) (by omega)) ?_
    refine cT2_becomes0 (A := A1) (t := A 0) (fun j _ => by rw [e0]) (by rw [e0]; exact hok.2.2.2.1) ?_
    have hm := mf_pot2 (A := va_up A1 2 (A 0)) (F := F) (X := X) (nI c)
    rw [vu_vu, vu_at] at hm
    refine qT (M' := mem (va_up A1 2 (upd (A 0) 3 (nI c))) F X) ?_ rfl rfl hm
    have hm2 := mf_coo2 (A := va_up A1 2 (upd (A 0) 3 (nI c))) (F := F) (X := X) 1
    rw [vu_vu, vu_at] at hm2
    have oks := okS_st hok (c := c) (by omega)
    have okvs : okV 20 B (upd (upd (A 0) 3 (nI c)) 4 1) := okV_cg (fun j hj => by rw [upd_ne _ _ (by omega), upd_ne _ _ (by omega)]) hv
    have rs : rTxs X (upd (upd (A 0) 3 (nI c)) 4 1) := rTxs_cg (by rw [upd_ne _ _ (by omega), upd_ne _ _ (by omega)]) (fun j hj => by rw [upd_ne _ _ (by omega), upd_ne _ _ (by omega)]) hr
    have evv : f_stv (A 12) (A 0) z nn c = f_dif (A 12) (f_it nn (upd (upd (A 0) 3 (nI c)) 4 1)) z := rfl
    have hw : f_std (A 12) (A 0) z nn (c + 1) = if (f_std (A 12) (A 0) z nn c).1 < 0 ∨ f_stv (A 12) (A 0) z nn c < (f_std (A 12) (A 0) z nn c).2 then (nI c, f_stv (A 12) (A 0) z nn c) else f_std (A 12) (A 0) z nn c := rfl
    have hpos := fun (q : 1 ≤ c) => f_std_pos (A 12) (A 0) z nn (c - 1) (by omega)
    generalize upd (upd (A 0) 3 (nI c)) 4 1 = t2 at oks okvs rs evv hm2
    generalize upd (A 0) 3 (nI c) = t1 at hm2 ⊢
    refine pz_wp_ok (pz_Is_ok SX9_stood) [54, 89] 100 ?_
    refine ⟨Or.inr rfl, ?_⟩
    refine qT (M' := mem (va_up A1 2 t2) F X) ?_ rfl rfl hm2
    refine pz_wp_ok (pz_Is_ok SX9_stood) [54] 100 ?_
    refine cT2_passes (A := va_up A1 2 t2) (W := 20) (B := B) hn (by omega) oks okvs ⟨by decide, by decide⟩ (by omega) rs (fun A2 hA2 e2 => ?_)
    have e2 : A2 2 = f_it nn t2 := e2
    have ag : qag [2, 4] A A2 := (hA.trans (qag.up (by simp))).trans (hA2.mono (by simp))
    have ea : A2 12 = A 12 := ag 12 (by simp)
    rw [← e2, ← ea] at evv
    have okv2 := okV_it okvs oks ⟨by decide, by decide⟩ nn (by omega)
    rw [← e2] at okv2
    have hp : ∀ c, c < 36 → 0 ≤ (A2 2 (82 + c)).toInt ∧ (A2 2 (82 + c)).toInt ≤ B + 20000 := fun c hc => by
      have := okv2.part hc
      omega
    refine ⟨qin 2 rfl (by omega) (by omega), ?_⟩
    refine cS2_differs hz hz2 (by rw [ea]; exact hrow) (fun c hc => by have := hp c hc; omega) ?_
    have bnd := f_dif_in (row := A2 12) (t := A2 2) (B := B + 20000) (by rw [ea]; exact hrow) ⟨by omega, hB.2⟩ hp z hz2
    rw [← evv, ea] at bnd ⊢
    have hk2 : (z : Int) * (B + 20000 + 99999) ≤ 24 * (B + 20000 + 99999) := Int.mul_le_mul_of_nonneg_right (by omega) (by omega)
    have ih' := ih (c + 1) (by omega) A2 ag
    rw [← nI_1 c] at ih'
    have e1 : p_first (f_std (A 12) (A 0) z nn (c + 1)) (c + 1) = f_std (A 12) (A 0) z nn (c + 1) := rfl
    rw [e1, hw] at ih'
    generalize f_stv (A 12) (A 0) z nn c = v at ih' bnd evv ⊢
    have ih' := ih' (some (.int v))
    match c, hpos with
    | 0, _ =>
      rw [if_pos (Or.inl (f_std_z _ _ _ _))] at ih'
      refine br2 (fun z => ?_) ?_
      · have z : (2147483647 : Int32) ≤ v := z
        rw [i_le, show (2147483647 : Int32).toInt = 2147483647 from rfl] at z
        omega
      exact ih'
    | c + 1, hpos =>
      have hp : ¬ (f_std (A 12) (A 0) z nn (c + 1)).1 < 0 := hpos (by omega)
      have e3 : p_first (f_std (A 12) (A 0) z nn (c + 1)) (c + 1) = f_std (A 12) (A 0) z nn (c + 1) := rfl
      rw [e3]
      generalize f_std (A 12) (A 0) z nn (c + 1) = r at ih' hp ⊢
      refine ⟨fun g => ?_, fun g => ?_⟩
      · have g : r.2 ≤ v := g
        rw [if_neg (fun z => z.elim hp (i_nlt.mpr g))] at ih'
        exact ih'
      · have g : ¬ r.2 ≤ v := g
        rw [if_pos (Or.inr (i_nle.mp g))] at ih'
        exact ih'
set_option maxRecDepth 8000 in
theorem cP2_stood {n w : Int32} {z : Nat} {B : Int} (hz : F 16 = nI z) (hz2 : z ≤ 24) (hrow : okRow (A 12)) (hok : okS (A 0)) (hv : okV 20 B (A 0)) (hB : 0 ≤ B ∧ B + 20000 < 40000000) (hr : rTxs X (A 0)) (h1 : ¬ (qIn 0 20 n ∧ qIn 0 1 w) → Q (some (.int BAD)) (mem A F X)) (h2 : qIn 0 20 n → qIn 0 1 w → F 12 = -1 → Q (some (.int (-1000000011))) (mem A F X)) (h : qIn 0 20 n → qIn 0 1 w → ¬ F 12 = -1 → ∀ A' : qA, qag [2, 4] A A' → Q (some (.int (f_pikk w (f_std (A 12) (A 0) z n.toNatClampNeg 36)))) (mem A' F X)) : pz_C yX9_stood KX9_stood [.ref 0, .int 2, .int n, .int w] (mem A F X) Q := by
  refine pz_C_of rfl rfl rfl (Nat.le_of_ble_eq_true rfl) (pz_wp_ok (pz_Is_ok SX9_stood) [54] 100 ?_)
  refine cP_isSheet (fun _ => ?_) (fun g => absurd ⟨by decide, by decide⟩ g)
  refine br2 (by decide) ?_
  refine cP_within 0 20 rfl rfl (fun g1 => ?_) (fun g1 => ?_)
  · refine br2 (by decide) ?_
    refine cP_within 0 1 rfl rfl (fun g2 => ?_) (fun g2 => ?_)
    · refine br1 (by decide) ?_
      refine ⟨qin 2 rfl (by omega) (by omega), ?_⟩
      refine cS2_isMissing (fun g => ?_) (fun g => ?_)
      · refine br2 (by decide) ?_
        exact h2 g1 g2 g
      · refine br1 (fun z => z rfl) ?_
        obtain ⟨a1, a2, a3⟩ := qI (m := 21) g1 (by omega)
        exact tP2_stood a1 (by omega) hz hz2 hrow hok hv hB hr (h g1 g2 g) 36 0 (by omega) A (qag.refl _ A) none
    · refine br2 (fun z => z rfl) ?_
      exact h1 (fun z => g2 z.2)
  · refine br1 (fun z => z rfl) ?_
    exact h1 (fun z => g1 z.1)
set_option maxRecDepth 8000 in
theorem cP3_sheet {so n : Int32} (h1 : ¬ (qIn (-1) 1 so ∧ ¬ (0 ≤ so ∧ 24 < n)) → Q (some (.int BAD)) (mem A F X)) (h2 : qIn (-1) 1 so → ¬ (0 ≤ so ∧ 24 < n) → (0 ≤ so ∧ n < 0) → Q (some (.int (-1000000014))) (mem A F X)) (h3 : qIn (-1) 1 so → ¬ (0 ≤ so ∧ 24 < n) → ¬ (0 ≤ so ∧ n < 0) → Q (some (.int (f_sz so n))) (mem (va_up A 13 (qcp 24 (fun _ => 0) (A 13))) (upd (upd F 13 so) 17 (f_sz so n)) X)) : pz_C yX9_sheet KX9_sheet [.ref 0, .int 3, .int so, .int n] (mem A F X) Q := by
  refine pz_C_of rfl rfl rfl (Nat.le_of_ble_eq_true rfl) (pz_wp_ok (pz_Is_ok SX9_sheet) [] 100 ?_)
  refine cP_isSheet (fun _ => ?_) (fun g => absurd ⟨by decide, by decide⟩ g)
  refine br2 (by decide) ?_
  refine cP_within (-1) 1 rfl rfl (fun g1 => ?_) (fun g1 => ?_)
  · refine br1 (by decide) ?_
    have zn : ∀ x : Int32, (0 : Int32) ≤ x ↔ 0 ≤ x.toInt := fun x => i_le 0 x
    refine ⟨fun g2 => ?_, fun g2 => ?_⟩
    · have g2 : ¬ so = -1 := g2
      have so0 : (0 : Int32) ≤ so := by
        rw [i_eq, show (-1 : Int32).toInt = -1 from rfl] at g2
        rw [zn]
        have := g1.1
        omega
      refine ⟨fun g3 => ?_, fun g3 => ?_⟩
      · have g3 : n ≤ 24 := g3
        have n24 : ¬ (0 ≤ so ∧ (24 : Int32) < n) := fun z => i_nlt.mpr g3 z.2
        refine ⟨fun g4 => ?_, fun g4 => ?_⟩
        · have g4 : (0 : Int32) ≤ n := g4
          have h3 := h3 g1 n24 (fun z => i_nlt.mpr g4 z.2)
          have ez : f_sz so n = n := by unfold f_sz; rw [if_pos so0]
          rw [ez] at h3
          refine ⟨qin 3 rfl (by omega) (by omega), ?_⟩
          exact cS3_becomes h3
        · have g4 : ¬ (0 : Int32) ≤ n := g4
          exact h2 g1 n24 ⟨so0, i_nle.mp g4⟩
      · have g3 : ¬ n ≤ 24 := g3
        exact h1 (fun z => z.2 ⟨so0, i_nle.mp g3⟩)
    · have g2 : so = -1 := g2
      subst g2
      have h3 := h3 g1 (fun z => absurd z.1 (by decide)) (fun z => absurd z.1 (by decide))
      have ez : f_sz (-1) n = 0 := by unfold f_sz; rw [if_neg (by decide)]
      rw [ez] at h3
      refine ⟨qin 3 rfl (by omega) (by omega), ?_⟩
      exact cS3_becomes h3
  · refine br2 (fun z => z rfl) ?_
    exact h1 (fun z => g1 z.1)
set_option maxRecDepth 8000 in
theorem cP3_mark {p v : Int32} {z : Nat} (hs : F 13 = -1 ∨ F 13 = 0 ∨ F 13 = 1) (hz : F 17 = nI z) (hz2 : z ≤ 24) (h : Q (some (.int (v_mark (F 13) z p v).1)) (mem (va_up A 13 (o_up (A 13) p.toNatClampNeg (v_mark (F 13) z p v).2)) F X)) : pz_C yX9_mark KX9_mark [.ref 0, .int 3, .int p, .int v] (mem A F X) Q := by
  refine pz_C_of rfl rfl rfl (Nat.le_of_ble_eq_true rfl) (pz_wp_ok (pz_Is_ok SX9_mark) [] 100 ?_)
  unfold v_mark at h
  refine cP_isSheet (fun _ => ?_) (fun g => absurd ⟨by decide, by decide⟩ g)
  refine br1 (by decide) ?_
  refine ⟨qin 3 rfl (by omega) (by omega), ?_⟩
  refine cS3_isMissing (fun g => ?_) (fun g => ?_)
  · refine br2 (by decide) ?_
    rw [if_pos ((three' hs).mpr g)] at h
    dsimp only [o_up] at h
    rw [vu_s] at h
    exact h
  refine br1 (fun z => z rfl) ?_
  rw [if_neg (fun z => g ((three' hs).mp z))] at h
  refine cS3_hasPlace hz (by omega) (fun g2 => ?_) (fun g2 => ?_)
  · refine br1 (by decide) ?_
    rw [if_neg (fun z => z g2)] at h
    obtain ⟨b1, b2, b3⟩ := qI (m := 24) g2 (by omega)
    refine ⟨fun g3 => ?_, fun g3 => ?_⟩
    · have g3 : ¬ F 13 = 0 := g3
      have g3' : F 13 = 1 := hs.elim (fun z => absurd z g) (fun z => z.elim (fun y => absurd y g3) id)
      rw [if_neg (fun z => g3 z.1)] at h
      refine ⟨fun g4 => ?_, fun g4 => ?_⟩
      · have g4 : v = -1000000005 := g4
        rw [if_neg (fun z => z.2.1 g4), if_neg g3] at h
        dsimp only [o_up] at h
        refine ⟨qin _ b1 b2 (by omega), ?_⟩
        exact h
      · have g4 : ¬ v = -1000000005 := g4
        refine cP_within (-99999) 99999 rfl rfl (fun g5 => ?_) (fun g5 => ?_)
        · refine br1 (by decide) ?_
          rw [if_neg (fun z => z.2.2 g5), if_neg g3] at h
          dsimp only [o_up] at h
          refine ⟨qin _ b1 b2 (by omega), ?_⟩
          exact h
        · refine br2 (fun z => z rfl) ?_
          rw [if_pos ⟨g3', g4, g5⟩] at h
          dsimp only [o_up] at h
          rw [vu_s] at h
          exact h
    · have g3 : F 13 = 0 := g3
      refine ⟨fun g4 => ?_, fun g4 => ?_⟩
      · have g4 : ¬ v = -1000000005 := g4
        rw [if_neg (fun z => g4 z.2), if_neg (fun z => by rw [g3] at z; exact absurd z.1 (by decide)), if_pos g3] at h
        dsimp only [o_up] at h
        rw [← i_short] at h
        refine ⟨qin _ b1 b2 (by omega), ?_⟩
        exact h
      · have g4 : v = -1000000005 := g4
        rw [if_pos ⟨g3, g4⟩] at h
        dsimp only [o_up] at h
        rw [vu_s] at h
        exact h
  · refine br2 (fun z => z rfl) ?_
    rw [if_pos g2] at h
    dsimp only [o_up] at h
    rw [vu_s] at h
    exact h
set_option maxRecDepth 8000 in
theorem cP3_pour {z : Nat} (hz : F 17 = nI z) (hz2 : z ≤ 24) (h1 : F 13 = -1 → Q (some (.int (-1000000011))) (mem A F X)) (h : ¬ F 13 = -1 → Q (some (.int (f_pr (A 13) (A 0) z).1)) (mem (va_up A 0 (f_pr (A 13) (A 0) z).2) F X)) : pz_C yX9_pour KX9_pour [.ref 0, .int 3] (mem A F X) Q := by
  refine pz_C_of rfl rfl rfl (Nat.le_of_ble_eq_true rfl) (pz_wp_ok (pz_Is_ok SX9_pour) [] 100 ?_)
  refine cP_isSheet (fun _ => ?_) (fun g => absurd ⟨by decide, by decide⟩ g)
  refine br1 (by decide) ?_
  refine ⟨qin 3 rfl (by omega) (by omega), ?_⟩
  refine cS3_isMissing (fun g => ?_) (fun g => ?_)
  · refine br2 (by decide) ?_
    exact h1 g
  · refine br1 (fun z => z rfl) ?_
    refine ⟨qin 3 rfl (by omega) (by omega), ?_⟩
    exact cS3_pours hz hz2 (h g)
set_option maxRecDepth 8000 in
theorem cP3_reads {z : Nat} (hz : F 17 = nI z) (hz2 : z ≤ 24) (h1 : F 13 = -1 → Q (some (.int (-1000000011))) (mem A F X)) (h : ¬ F 13 = -1 → Q (some (.int (f_rd (A 13) (A 0) z 0))) (mem A F X)) : pz_C yX9_reads KX9_reads [.ref 0, .int 3] (mem A F X) Q := by
  refine pz_C_of rfl rfl rfl (Nat.le_of_ble_eq_true rfl) (pz_wp_ok (pz_Is_ok SX9_reads) [] 100 ?_)
  refine cP_isSheet (fun _ => ?_) (fun g => absurd ⟨by decide, by decide⟩ g)
  refine br1 (by decide) ?_
  refine ⟨qin 3 rfl (by omega) (by omega), ?_⟩
  refine cS3_isMissing (fun g => ?_) (fun g => ?_)
  · refine br2 (by decide) ?_
    exact h1 g
  · refine br1 (fun z => z rfl) ?_
    refine ⟨qin 3 rfl (by omega) (by omega), ?_⟩
    exact cS3_unlike hz hz2 (h g)
set_option maxRecDepth 8000 in
theorem tP3_stood {n w : Int32} {nn z : Nat} {B : Int} (hn : n = nI nn) (hnn : nn ≤ 20) (hz : F 17 = nI z) (hz2 : z ≤ 24) (hrow : okRow (A 13)) (hok : okS (A 0)) (hv : okV 20 B (A 0)) (hB : 0 ≤ B ∧ B + 20000 < 40000000) (hr : rTxs X (A 0)) (h : ∀ A' : qA, qag [2, 4] A A' → Q (some (.int (f_pikk w (f_std (A 13) (A 0) z nn 36)))) (mem A' F X)) : ∀ (d c : Nat), c + d = 36 → ∀ A1 : qA, qag [2, 4] A A1 → ∀ x7 : Option Value, pz_T z0 KX9_stood Q 54 (0, 0) [some (.ref 0), some (.int 3), some (.int n), some (.int w), some (.int (p_first (f_std (A 13) (A 0) z nn c) c).1), some (.int (p_first (f_std (A 13) (A 0) z nn c) c).2), some (.int (nI c)), x7] [] (mem A1 F X) := by
  intro d
  induction d with
  | zero =>
    intro c hc A1 hA x7
    have hc : c = 36 := by omega
    subst hc
    have h := h A1 hA
    have e : p_first (f_std (A 13) (A 0) z nn 36) 36 = f_std (A 13) (A 0) z nn 36 := rfl
    rw [e]
    unfold f_pikk at h
    generalize f_std (A 13) (A 0) z nn 36 = r at h ⊢
    refine pz_wp_ok (pz_Is_ok SX9_stood) [54] 100 ?_
    refine br1 (fun z => z (nI_le (Nat.le_refl _) (by omega))) ?_
    refine ⟨fun g => ?_, fun g => ?_⟩
    · have g : ¬ w = 0 := g
      rw [if_neg g] at h
      exact h
    · have g : w = 0 := g
      rw [if_pos g] at h
      exact h
  | succ d ih =>
    intro c hc A1 hA x7
    have e0 : A1 0 = A 0 := hA 0 (by simp)
    refine pz_wp_ok (pz_Is_ok SX9_stood) [54, 81] 100 ?_
    refine br2 (n_ge (b := 36) (by omega) (by omega) (by omega)) ?_
    refine cT2_becomes0 (A := A1) (t := A 0) (fun j _ => by rw [e0]) (by rw [e0]; exact hok.2.2.2.1) ?_
    have hm := mf_pot2 (A := va_up A1 2 (A 0)) (F := F) (X := X) (nI c)
    rw [vu_vu, vu_at] at hm
    refine qT (M' := mem (va_up A1 2 (upd (A 0) 3 (nI c))) F X) ?_ rfl rfl hm
    have hm2 := mf_coo2 (A := va_up A1 2 (upd (A 0) 3 (nI c))) (F := F) (X := X) 1
    rw [vu_vu, vu_at] at hm2
    have oks := okS_st hok (c := c) (by omega)
    have okvs : okV 20 B (upd (upd (A 0) 3 (nI c)) 4 1) := okV_cg (fun j hj => by rw [upd_ne _ _ (by omega), upd_ne _ _ (by omega)]) hv
    have rs : rTxs X (upd (upd (A 0) 3 (nI c)) 4 1) := rTxs_cg (by rw [upd_ne _ _ (by omega), upd_ne _ _ (by omega)]) (fun j hj => by rw [upd_ne _ _ (by omega), upd_ne _ _ (by omega)]) hr
    have evv : f_stv (A 13) (A 0) z nn c = f_dif (A 13) (f_it nn (upd (upd (A 0) 3 (nI c)) 4 1)) z := rfl
    have hw : f_std (A 13) (A 0) z nn (c + 1) = if (f_std (A 13) (A 0) z nn c).1 < 0 ∨ f_stv (A 13) (A 0) z nn c < (f_std (A 13) (A 0) z nn c).2 then (nI c, f_stv (A 13) (A 0) z nn c) else f_std (A 13) (A 0) z nn c := rfl
    have hpos := fun (q : 1 ≤ c) => f_std_pos (A 13) (A 0) z nn (c - 1) (by omega)
    generalize upd (upd (A 0) 3 (nI c)) 4 1 = t2 at oks okvs rs evv hm2
    generalize upd (A 0) 3 (nI c) = t1 at hm2 ⊢
    refine pz_wp_ok (pz_Is_ok SX9_stood) [54, 89] 100 ?_
    refine ⟨Or.inr rfl, ?_⟩
    refine qT (M' := mem (va_up A1 2 t2) F X) ?_ rfl rfl hm2
    refine pz_wp_ok (pz_Is_ok SX9_stood) [54] 100 ?_
    refine cT2_passes (A := va_up A1 2 t2) (W := 20) (B := B) hn (by omega) oks okvs ⟨by decide, by decide⟩ (by omega) rs (fun A2 hA2 e2 => ?_)
    have e2 : A2 2 = f_it nn t2 := e2
    have ag : qag [2, 4] A A2 := (hA.trans (qag.up (by simp))).trans (hA2.mono (by simp))
    have ea : A2 13 = A 13 := ag 13 (by simp)
    rw [← e2, ← ea] at evv
    have okv2 := okV_it okvs oks ⟨by decide, by decide⟩ nn (by omega)
    rw [← e2] at okv2
    have hp : ∀ c, c < 36 → 0 ≤ (A2 2 (82 + c)).toInt ∧ (A2 2 (82 + c)).toInt ≤ B + 20000 := fun c hc => by
      have := okv2.part hc
      omega
    refine ⟨qin 3 rfl (by omega) (by omega), ?_⟩
    refine cS3_differs hz hz2 (by rw [ea]; exact hrow) (fun c hc => by have := hp c hc; omega) ?_
    have bnd := f_dif_in (row := A2 13) (t := A2 2) (B := B + 20000) (by rw [ea]; exact hrow) ⟨by omega, hB.2⟩ hp z hz2
    rw [← evv, ea] at bnd ⊢
    have hk2 : (z : Int) * (B + 20000 + 99999) ≤ 24 * (B + 20000 + 99999) := Int.mul_le_mul_of_nonneg_right (by omega) (by omega)
    have ih' := ih (c + 1) (by omega) A2 ag
    rw [← nI_1 c] at ih'
    have e1 : p_first (f_std (A 13) (A 0) z nn (c + 1)) (c + 1) = f_std (A 13) (A 0) z nn (c + 1) := rfl
    rw [e1, hw] at ih'
    generalize f_stv (A 13) (A 0) z nn c = v at ih' bnd evv ⊢
    have ih' := ih' (some (.int v))
    match c, hpos with
    | 0, _ =>
      rw [if_pos (Or.inl (f_std_z _ _ _ _))] at ih'
      refine br2 (fun z => ?_) ?_
      · have z : (2147483647 : Int32) ≤ v := z
        rw [i_le, show (2147483647 : Int32).toInt = 2147483647 from rfl] at z
        omega
      exact ih'
    | c + 1, hpos =>
      have hp : ¬ (f_std (A 13) (A 0) z nn (c + 1)).1 < 0 := hpos (by omega)
      have e3 : p_first (f_std (A 13) (A 0) z nn (c + 1)) (c + 1) = f_std (A 13) (A 0) z nn (c + 1) := rfl
      rw [e3]
      generalize f_std (A 13) (A 0) z nn (c + 1) = r at ih' hp ⊢
      refine ⟨fun g => ?_, fun g => ?_⟩
      · have g : r.2 ≤ v := g
        rw [if_neg (fun z => z.elim hp (i_nlt.mpr g))] at ih'
        exact ih'
      · have g : ¬ r.2 ≤ v := g
        rw [if_pos (Or.inr (i_nle.mp g))] at ih'
        exact ih'
set_option maxRecDepth 8000 in
theorem cP3_stood {n w : Int32} {z : Nat} {B : Int} (hz : F 17 = nI z) (hz2 : z ≤ 24) (hrow : okRow (A 13)) (hok : okS (A 0)) (hv : okV 20 B (A 0)) (hB : 0 ≤ B ∧ B + 20000 < 40000000) (hr : rTxs X (A 0)) (h1 : ¬ (qIn 0 20 n ∧ qIn 0 1 w) → Q (some (.int BAD)) (mem A F X)) (h2 : qIn 0 20 n → qIn 0 1 w → F 13 = -1 → Q (some (.int (-1000000011))) (mem A F X)) (h : qIn 0 20 n → qIn 0 1 w → ¬ F 13 = -1 → ∀ A' : qA, qag [2, 4] A A' → Q (some (.int (f_pikk w (f_std (A 13) (A 0) z n.toNatClampNeg 36)))) (mem A' F X)) : pz_C yX9_stood KX9_stood [.ref 0, .int 3, .int n, .int w] (mem A F X) Q := by
  refine pz_C_of rfl rfl rfl (Nat.le_of_ble_eq_true rfl) (pz_wp_ok (pz_Is_ok SX9_stood) [54] 100 ?_)
  refine cP_isSheet (fun _ => ?_) (fun g => absurd ⟨by decide, by decide⟩ g)
  refine br2 (by decide) ?_
  refine cP_within 0 20 rfl rfl (fun g1 => ?_) (fun g1 => ?_)
  · refine br2 (by decide) ?_
    refine cP_within 0 1 rfl rfl (fun g2 => ?_) (fun g2 => ?_)
    · refine br1 (by decide) ?_
      refine ⟨qin 3 rfl (by omega) (by omega), ?_⟩
      refine cS3_isMissing (fun g => ?_) (fun g => ?_)
      · refine br2 (by decide) ?_
        exact h2 g1 g2 g
      · refine br1 (fun z => z rfl) ?_
        obtain ⟨a1, a2, a3⟩ := qI (m := 21) g1 (by omega)
        exact tP3_stood a1 (by omega) hz hz2 hrow hok hv hB hr (h g1 g2 g) 36 0 (by omega) A (qag.refl _ A) none
    · refine br2 (fun z => z rfl) ?_
      exact h1 (fun z => g2 z.2)
  · refine br1 (fun z => z rfl) ?_
    exact h1 (fun z => g1 z.1)
set_option maxRecDepth 8000 in
theorem cP00_copy {p a m : Int32} {z1 z2 : Nat} (hz1 : F 14 = nI z1) (hb1 : z1 ≤ 24) (hz2 : F 14 = nI z2) (hb2 : z2 ≤ 24) (h2 : (F 10 = -1 ∨ F 10 = -1) → Q (some (.int (-1000000011))) (mem A F X)) (h3 : ¬ F 10 = -1 → ¬ F 10 = -1 → ¬ F 10 = F 10 → Q (some (.int (-1000000012))) (mem A F X)) (h4 : ¬ F 10 = -1 → ¬ F 10 = -1 → F 10 = F 10 → ¬ f_cpok p a m z1 z2 → Q (some (.int (-1000000013))) (mem A F X)) (h5 : ¬ F 10 = -1 → ¬ F 10 = -1 → F 10 = F 10 → f_cpok p a m z1 z2 → Q (some (.int m)) (mem (va_up A 10 (va_cpy (A 10) (A 10) p.toNatClampNeg a.toNatClampNeg m.toNatClampNeg)) F X)) : pz_C yX9_copy KX9_copy [.ref 0, .int 0, .int p, .int 0, .int a, .int m] (mem A F X) Q := by
  refine pz_C_of rfl rfl rfl (Nat.le_of_ble_eq_true rfl) (pz_wp_ok (pz_Is_ok SX9_copy) [] 100 ?_)
  refine cP_isSheet (fun _ => ?_) (fun g => absurd ⟨by decide, by decide⟩ g)
  refine br2 (by decide) ?_
  refine cP_isSheet (fun _ => ?_) (fun g => absurd ⟨by decide, by decide⟩ g)
  refine br1 (by decide) ?_
  refine ⟨qin 0 rfl (by omega) (by omega), ?_⟩
  refine ⟨qin 0 rfl (by omega) (by omega), ?_⟩
  refine cS0_isMissing (fun g => ?_) (fun g1 => ?_)
  · refine br1 (by decide) ?_
    exact h2 (Or.inl g)
  refine br2 (fun z => z rfl) ?_
  refine cS0_isMissing (fun g => ?_) (fun g2 => ?_)
  · refine br2 (by decide) ?_
    exact h2 (Or.inr g)
  refine br1 (fun z => z rfl) ?_
  refine ⟨fun g3 => ?_, fun g3 => ?_⟩
  · have h4 := h4 g1 g2 g3
    have h5 := h5 g1 g2 g3
    refine cS0_hasPlaces hz1 hb1 (fun g4 => ?_) (fun g4 => ?_)
    · refine br2 (by decide) ?_
      refine cS0_hasPlaces hz2 hb2 (fun g5 => ?_) (fun g5 => ?_)
      · refine br1 (by decide) ?_
        have h5 := h5 ⟨g4.1, g5.1, g4.2.1, g4.2.2, g5.2.2⟩
        have zz : ∀ x : Int32, 0 ≤ x.toInt → ¬ x < 0 := fun x hx => by rw [i_lt, show (0 : Int32).toInt = 0 from rfl]; omega
        have nn : ∀ x : Int32, 0 ≤ x.toInt → (x.toNatClampNeg : Int) = x.toInt := fun x hx => Int.toNat_of_nonneg hx
        have n1 := nn p g4.1
        have n2 := nn a g5.1
        have n3 := nn m g4.2.1
        have k1 := g4.2.2
        have k2 := g5.2.2
        refine ⟨⟨zz _ g4.1, zz _ g5.1, zz _ g4.2.1, by omega, by omega⟩, ?_⟩
        exact h5
      · refine br2 (fun z => z rfl) ?_
        exact h4 (fun z => g5 ⟨z.2.1, z.2.2.1, z.2.2.2.2⟩)
    · refine br1 (fun z => z rfl) ?_
      exact h4 (fun z => g4 ⟨z.1, z.2.2.1, z.2.2.2.1⟩)
  · exact h3 g1 g2 g3
set_option maxRecDepth 8000 in
theorem cP01_copy {p a m : Int32} {z1 z2 : Nat} (hz1 : F 14 = nI z1) (hb1 : z1 ≤ 24) (hz2 : F 15 = nI z2) (hb2 : z2 ≤ 24) (h2 : (F 10 = -1 ∨ F 11 = -1) → Q (some (.int (-1000000011))) (mem A F X)) (h3 : ¬ F 10 = -1 → ¬ F 11 = -1 → ¬ F 10 = F 11 → Q (some (.int (-1000000012))) (mem A F X)) (h4 : ¬ F 10 = -1 → ¬ F 11 = -1 → F 10 = F 11 → ¬ f_cpok p a m z1 z2 → Q (some (.int (-1000000013))) (mem A F X)) (h5 : ¬ F 10 = -1 → ¬ F 11 = -1 → F 10 = F 11 → f_cpok p a m z1 z2 → Q (some (.int m)) (mem (va_up A 11 (va_cpy (A 10) (A 11) p.toNatClampNeg a.toNatClampNeg m.toNatClampNeg)) F X)) : pz_C yX9_copy KX9_copy [.ref 0, .int 0, .int p, .int 1, .int a, .int m] (mem A F X) Q := by
  refine pz_C_of rfl rfl rfl (Nat.le_of_ble_eq_true rfl) (pz_wp_ok (pz_Is_ok SX9_copy) [] 100 ?_)
  refine cP_isSheet (fun _ => ?_) (fun g => absurd ⟨by decide, by decide⟩ g)
  refine br2 (by decide) ?_
  refine cP_isSheet (fun _ => ?_) (fun g => absurd ⟨by decide, by decide⟩ g)
  refine br1 (by decide) ?_
  refine ⟨qin 0 rfl (by omega) (by omega), ?_⟩
  refine ⟨qin 1 rfl (by omega) (by omega), ?_⟩
  refine cS0_isMissing (fun g => ?_) (fun g1 => ?_)
  · refine br1 (by decide) ?_
    exact h2 (Or.inl g)
  refine br2 (fun z => z rfl) ?_
  refine cS1_isMissing (fun g => ?_) (fun g2 => ?_)
  · refine br2 (by decide) ?_
    exact h2 (Or.inr g)
  refine br1 (fun z => z rfl) ?_
  refine ⟨fun g3 => ?_, fun g3 => ?_⟩
  · have h4 := h4 g1 g2 g3
    have h5 := h5 g1 g2 g3
    refine cS0_hasPlaces hz1 hb1 (fun g4 => ?_) (fun g4 => ?_)
    · refine br2 (by decide) ?_
      refine cS1_hasPlaces hz2 hb2 (fun g5 => ?_) (fun g5 => ?_)
      · refine br1 (by decide) ?_
        have h5 := h5 ⟨g4.1, g5.1, g4.2.1, g4.2.2, g5.2.2⟩
        have zz : ∀ x : Int32, 0 ≤ x.toInt → ¬ x < 0 := fun x hx => by rw [i_lt, show (0 : Int32).toInt = 0 from rfl]; omega
        have nn : ∀ x : Int32, 0 ≤ x.toInt → (x.toNatClampNeg : Int) = x.toInt := fun x hx => Int.toNat_of_nonneg hx
        have n1 := nn p g4.1
        have n2 := nn a g5.1
        have n3 := nn m g4.2.1
        have k1 := g4.2.2
        have k2 := g5.2.2
        refine ⟨⟨zz _ g4.1, zz _ g5.1, zz _ g4.2.1, by omega, by omega⟩, ?_⟩
        exact h5
      · refine br2 (fun z => z rfl) ?_
        exact h4 (fun z => g5 ⟨z.2.1, z.2.2.1, z.2.2.2.2⟩)
    · refine br1 (fun z => z rfl) ?_
      exact h4 (fun z => g4 ⟨z.1, z.2.2.1, z.2.2.2.1⟩)
  · exact h3 g1 g2 g3
set_option maxRecDepth 8000 in
theorem cP02_copy {p a m : Int32} {z1 z2 : Nat} (hz1 : F 14 = nI z1) (hb1 : z1 ≤ 24) (hz2 : F 16 = nI z2) (hb2 : z2 ≤ 24) (h2 : (F 10 = -1 ∨ F 12 = -1) → Q (some (.int (-1000000011))) (mem A F X)) (h3 : ¬ F 10 = -1 → ¬ F 12 = -1 → ¬ F 10 = F 12 → Q (some (.int (-1000000012))) (mem A F X)) (h4 : ¬ F 10 = -1 → ¬ F 12 = -1 → F 10 = F 12 → ¬ f_cpok p a m z1 z2 → Q (some (.int (-1000000013))) (mem A F X)) (h5 : ¬ F 10 = -1 → ¬ F 12 = -1 → F 10 = F 12 → f_cpok p a m z1 z2 → Q (some (.int m)) (mem (va_up A 12 (va_cpy (A 10) (A 12) p.toNatClampNeg a.toNatClampNeg m.toNatClampNeg)) F X)) : pz_C yX9_copy KX9_copy [.ref 0, .int 0, .int p, .int 2, .int a, .int m] (mem A F X) Q := by
  refine pz_C_of rfl rfl rfl (Nat.le_of_ble_eq_true rfl) (pz_wp_ok (pz_Is_ok SX9_copy) [] 100 ?_)
  refine cP_isSheet (fun _ => ?_) (fun g => absurd ⟨by decide, by decide⟩ g)
  refine br2 (by decide) ?_
  refine cP_isSheet (fun _ => ?_) (fun g => absurd ⟨by decide, by decide⟩ g)
  refine br1 (by decide) ?_
  refine ⟨qin 0 rfl (by omega) (by omega), ?_⟩
  refine ⟨qin 2 rfl (by omega) (by omega), ?_⟩
  refine cS0_isMissing (fun g => ?_) (fun g1 => ?_)
  · refine br1 (by decide) ?_
    exact h2 (Or.inl g)
  refine br2 (fun z => z rfl) ?_
  refine cS2_isMissing (fun g => ?_) (fun g2 => ?_)
  · refine br2 (by decide) ?_
    exact h2 (Or.inr g)
  refine br1 (fun z => z rfl) ?_
  refine ⟨fun g3 => ?_, fun g3 => ?_⟩
  · have h4 := h4 g1 g2 g3
    have h5 := h5 g1 g2 g3
    refine cS0_hasPlaces hz1 hb1 (fun g4 => ?_) (fun g4 => ?_)
    · refine br2 (by decide) ?_
      refine cS2_hasPlaces hz2 hb2 (fun g5 => ?_) (fun g5 => ?_)
      · refine br1 (by decide) ?_
        have h5 := h5 ⟨g4.1, g5.1, g4.2.1, g4.2.2, g5.2.2⟩
        have zz : ∀ x : Int32, 0 ≤ x.toInt → ¬ x < 0 := fun x hx => by rw [i_lt, show (0 : Int32).toInt = 0 from rfl]; omega
        have nn : ∀ x : Int32, 0 ≤ x.toInt → (x.toNatClampNeg : Int) = x.toInt := fun x hx => Int.toNat_of_nonneg hx
        have n1 := nn p g4.1
        have n2 := nn a g5.1
        have n3 := nn m g4.2.1
        have k1 := g4.2.2
        have k2 := g5.2.2
        refine ⟨⟨zz _ g4.1, zz _ g5.1, zz _ g4.2.1, by omega, by omega⟩, ?_⟩
        exact h5
      · refine br2 (fun z => z rfl) ?_
        exact h4 (fun z => g5 ⟨z.2.1, z.2.2.1, z.2.2.2.2⟩)
    · refine br1 (fun z => z rfl) ?_
      exact h4 (fun z => g4 ⟨z.1, z.2.2.1, z.2.2.2.1⟩)
  · exact h3 g1 g2 g3
set_option maxRecDepth 8000 in
theorem cP03_copy {p a m : Int32} {z1 z2 : Nat} (hz1 : F 14 = nI z1) (hb1 : z1 ≤ 24) (hz2 : F 17 = nI z2) (hb2 : z2 ≤ 24) (h2 : (F 10 = -1 ∨ F 13 = -1) → Q (some (.int (-1000000011))) (mem A F X)) (h3 : ¬ F 10 = -1 → ¬ F 13 = -1 → ¬ F 10 = F 13 → Q (some (.int (-1000000012))) (mem A F X)) (h4 : ¬ F 10 = -1 → ¬ F 13 = -1 → F 10 = F 13 → ¬ f_cpok p a m z1 z2 → Q (some (.int (-1000000013))) (mem A F X)) (h5 : ¬ F 10 = -1 → ¬ F 13 = -1 → F 10 = F 13 → f_cpok p a m z1 z2 → Q (some (.int m)) (mem (va_up A 13 (va_cpy (A 10) (A 13) p.toNatClampNeg a.toNatClampNeg m.toNatClampNeg)) F X)) : pz_C yX9_copy KX9_copy [.ref 0, .int 0, .int p, .int 3, .int a, .int m] (mem A F X) Q := by
  refine pz_C_of rfl rfl rfl (Nat.le_of_ble_eq_true rfl) (pz_wp_ok (pz_Is_ok SX9_copy) [] 100 ?_)
  refine cP_isSheet (fun _ => ?_) (fun g => absurd ⟨by decide, by decide⟩ g)
  refine br2 (by decide) ?_
  refine cP_isSheet (fun _ => ?_) (fun g => absurd ⟨by decide, by decide⟩ g)
  refine br1 (by decide) ?_
  refine ⟨qin 0 rfl (by omega) (by omega), ?_⟩
  refine ⟨qin 3 rfl (by omega) (by omega), ?_⟩
  refine cS0_isMissing (fun g => ?_) (fun g1 => ?_)
  · refine br1 (by decide) ?_
    exact h2 (Or.inl g)
  refine br2 (fun z => z rfl) ?_
  refine cS3_isMissing (fun g => ?_) (fun g2 => ?_)
  · refine br2 (by decide) ?_
    exact h2 (Or.inr g)
  refine br1 (fun z => z rfl) ?_
  refine ⟨fun g3 => ?_, fun g3 => ?_⟩
  · have h4 := h4 g1 g2 g3
    have h5 := h5 g1 g2 g3
    refine cS0_hasPlaces hz1 hb1 (fun g4 => ?_) (fun g4 => ?_)
    · refine br2 (by decide) ?_
      refine cS3_hasPlaces hz2 hb2 (fun g5 => ?_) (fun g5 => ?_)
      · refine br1 (by decide) ?_
        have h5 := h5 ⟨g4.1, g5.1, g4.2.1, g4.2.2, g5.2.2⟩
        have zz : ∀ x : Int32, 0 ≤ x.toInt → ¬ x < 0 := fun x hx => by rw [i_lt, show (0 : Int32).toInt = 0 from rfl]; omega
        have nn : ∀ x : Int32, 0 ≤ x.toInt → (x.toNatClampNeg : Int) = x.toInt := fun x hx => Int.toNat_of_nonneg hx
        have n1 := nn p g4.1
        have n2 := nn a g5.1
        have n3 := nn m g4.2.1
        have k1 := g4.2.2
        have k2 := g5.2.2
        refine ⟨⟨zz _ g4.1, zz _ g5.1, zz _ g4.2.1, by omega, by omega⟩, ?_⟩
        exact h5
      · refine br2 (fun z => z rfl) ?_
        exact h4 (fun z => g5 ⟨z.2.1, z.2.2.1, z.2.2.2.2⟩)
    · refine br1 (fun z => z rfl) ?_
      exact h4 (fun z => g4 ⟨z.1, z.2.2.1, z.2.2.2.1⟩)
  · exact h3 g1 g2 g3
set_option maxRecDepth 8000 in
theorem cP10_copy {p a m : Int32} {z1 z2 : Nat} (hz1 : F 15 = nI z1) (hb1 : z1 ≤ 24) (hz2 : F 14 = nI z2) (hb2 : z2 ≤ 24) (h2 : (F 11 = -1 ∨ F 10 = -1) → Q (some (.int (-1000000011))) (mem A F X)) (h3 : ¬ F 11 = -1 → ¬ F 10 = -1 → ¬ F 11 = F 10 → Q (some (.int (-1000000012))) (mem A F X)) (h4 : ¬ F 11 = -1 → ¬ F 10 = -1 → F 11 = F 10 → ¬ f_cpok p a m z1 z2 → Q (some (.int (-1000000013))) (mem A F X)) (h5 : ¬ F 11 = -1 → ¬ F 10 = -1 → F 11 = F 10 → f_cpok p a m z1 z2 → Q (some (.int m)) (mem (va_up A 10 (va_cpy (A 11) (A 10) p.toNatClampNeg a.toNatClampNeg m.toNatClampNeg)) F X)) : pz_C yX9_copy KX9_copy [.ref 0, .int 1, .int p, .int 0, .int a, .int m] (mem A F X) Q := by
  refine pz_C_of rfl rfl rfl (Nat.le_of_ble_eq_true rfl) (pz_wp_ok (pz_Is_ok SX9_copy) [] 100 ?_)
  refine cP_isSheet (fun _ => ?_) (fun g => absurd ⟨by decide, by decide⟩ g)
  refine br2 (by decide) ?_
  refine cP_isSheet (fun _ => ?_) (fun g => absurd ⟨by decide, by decide⟩ g)
  refine br1 (by decide) ?_
  refine ⟨qin 1 rfl (by omega) (by omega), ?_⟩
  refine ⟨qin 0 rfl (by omega) (by omega), ?_⟩
  refine cS1_isMissing (fun g => ?_) (fun g1 => ?_)
  · refine br1 (by decide) ?_
    exact h2 (Or.inl g)
  refine br2 (fun z => z rfl) ?_
  refine cS0_isMissing (fun g => ?_) (fun g2 => ?_)
  · refine br2 (by decide) ?_
    exact h2 (Or.inr g)
  refine br1 (fun z => z rfl) ?_
  refine ⟨fun g3 => ?_, fun g3 => ?_⟩
  · have h4 := h4 g1 g2 g3
    have h5 := h5 g1 g2 g3
    refine cS1_hasPlaces hz1 hb1 (fun g4 => ?_) (fun g4 => ?_)
    · refine br2 (by decide) ?_
      refine cS0_hasPlaces hz2 hb2 (fun g5 => ?_) (fun g5 => ?_)
      · refine br1 (by decide) ?_
        have h5 := h5 ⟨g4.1, g5.1, g4.2.1, g4.2.2, g5.2.2⟩
        have zz : ∀ x : Int32, 0 ≤ x.toInt → ¬ x < 0 := fun x hx => by rw [i_lt, show (0 : Int32).toInt = 0 from rfl]; omega
        have nn : ∀ x : Int32, 0 ≤ x.toInt → (x.toNatClampNeg : Int) = x.toInt := fun x hx => Int.toNat_of_nonneg hx
        have n1 := nn p g4.1
        have n2 := nn a g5.1
        have n3 := nn m g4.2.1
        have k1 := g4.2.2
        have k2 := g5.2.2
        refine ⟨⟨zz _ g4.1, zz _ g5.1, zz _ g4.2.1, by omega, by omega⟩, ?_⟩
        exact h5
      · refine br2 (fun z => z rfl) ?_
        exact h4 (fun z => g5 ⟨z.2.1, z.2.2.1, z.2.2.2.2⟩)
    · refine br1 (fun z => z rfl) ?_
      exact h4 (fun z => g4 ⟨z.1, z.2.2.1, z.2.2.2.1⟩)
  · exact h3 g1 g2 g3
set_option maxRecDepth 8000 in
theorem cP11_copy {p a m : Int32} {z1 z2 : Nat} (hz1 : F 15 = nI z1) (hb1 : z1 ≤ 24) (hz2 : F 15 = nI z2) (hb2 : z2 ≤ 24) (h2 : (F 11 = -1 ∨ F 11 = -1) → Q (some (.int (-1000000011))) (mem A F X)) (h3 : ¬ F 11 = -1 → ¬ F 11 = -1 → ¬ F 11 = F 11 → Q (some (.int (-1000000012))) (mem A F X)) (h4 : ¬ F 11 = -1 → ¬ F 11 = -1 → F 11 = F 11 → ¬ f_cpok p a m z1 z2 → Q (some (.int (-1000000013))) (mem A F X)) (h5 : ¬ F 11 = -1 → ¬ F 11 = -1 → F 11 = F 11 → f_cpok p a m z1 z2 → Q (some (.int m)) (mem (va_up A 11 (va_cpy (A 11) (A 11) p.toNatClampNeg a.toNatClampNeg m.toNatClampNeg)) F X)) : pz_C yX9_copy KX9_copy [.ref 0, .int 1, .int p, .int 1, .int a, .int m] (mem A F X) Q := by
  refine pz_C_of rfl rfl rfl (Nat.le_of_ble_eq_true rfl) (pz_wp_ok (pz_Is_ok SX9_copy) [] 100 ?_)
  refine cP_isSheet (fun _ => ?_) (fun g => absurd ⟨by decide, by decide⟩ g)
  refine br2 (by decide) ?_
  refine cP_isSheet (fun _ => ?_) (fun g => absurd ⟨by decide, by decide⟩ g)
  refine br1 (by decide) ?_
  refine ⟨qin 1 rfl (by omega) (by omega), ?_⟩
  refine ⟨qin 1 rfl (by omega) (by omega), ?_⟩
  refine cS1_isMissing (fun g => ?_) (fun g1 => ?_)
  · refine br1 (by decide) ?_
    exact h2 (Or.inl g)
  refine br2 (fun z => z rfl) ?_
  refine cS1_isMissing (fun g => ?_) (fun g2 => ?_)
  · refine br2 (by decide) ?_
    exact h2 (Or.inr g)
  refine br1 (fun z => z rfl) ?_
  refine ⟨fun g3 => ?_, fun g3 => ?_⟩
  · have h4 := h4 g1 g2 g3
    have h5 := h5 g1 g2 g3
    refine cS1_hasPlaces hz1 hb1 (fun g4 => ?_) (fun g4 => ?_)
    · refine br2 (by decide) ?_
      refine cS1_hasPlaces hz2 hb2 (fun g5 => ?_) (fun g5 => ?_)
      · refine br1 (by decide) ?_
        have h5 := h5 ⟨g4.1, g5.1, g4.2.1, g4.2.2, g5.2.2⟩
        have zz : ∀ x : Int32, 0 ≤ x.toInt → ¬ x < 0 := fun x hx => by rw [i_lt, show (0 : Int32).toInt = 0 from rfl]; omega
        have nn : ∀ x : Int32, 0 ≤ x.toInt → (x.toNatClampNeg : Int) = x.toInt := fun x hx => Int.toNat_of_nonneg hx
        have n1 := nn p g4.1
        have n2 := nn a g5.1
        have n3 := nn m g4.2.1
        have k1 := g4.2.2
        have k2 := g5.2.2
        refine ⟨⟨zz _ g4.1, zz _ g5.1, zz _ g4.2.1, by omega, by omega⟩, ?_⟩
        exact h5
      · refine br2 (fun z => z rfl) ?_
        exact h4 (fun z => g5 ⟨z.2.1, z.2.2.1, z.2.2.2.2⟩)
    · refine br1 (fun z => z rfl) ?_
      exact h4 (fun z => g4 ⟨z.1, z.2.2.1, z.2.2.2.1⟩)
  · exact h3 g1 g2 g3
set_option maxRecDepth 8000 in
theorem cP12_copy {p a m : Int32} {z1 z2 : Nat} (hz1 : F 15 = nI z1) (hb1 : z1 ≤ 24) (hz2 : F 16 = nI z2) (hb2 : z2 ≤ 24) (h2 : (F 11 = -1 ∨ F 12 = -1) → Q (some (.int (-1000000011))) (mem A F X)) (h3 : ¬ F 11 = -1 → ¬ F 12 = -1 → ¬ F 11 = F 12 → Q (some (.int (-1000000012))) (mem A F X)) (h4 : ¬ F 11 = -1 → ¬ F 12 = -1 → F 11 = F 12 → ¬ f_cpok p a m z1 z2 → Q (some (.int (-1000000013))) (mem A F X)) (h5 : ¬ F 11 = -1 → ¬ F 12 = -1 → F 11 = F 12 → f_cpok p a m z1 z2 → Q (some (.int m)) (mem (va_up A 12 (va_cpy (A 11) (A 12) p.toNatClampNeg a.toNatClampNeg m.toNatClampNeg)) F X)) : pz_C yX9_copy KX9_copy [.ref 0, .int 1, .int p, .int 2, .int a, .int m] (mem A F X) Q := by
  refine pz_C_of rfl rfl rfl (Nat.le_of_ble_eq_true rfl) (pz_wp_ok (pz_Is_ok SX9_copy) [] 100 ?_)
  refine cP_isSheet (fun _ => ?_) (fun g => absurd ⟨by decide, by decide⟩ g)
  refine br2 (by decide) ?_
  refine cP_isSheet (fun _ => ?_) (fun g => absurd ⟨by decide, by decide⟩ g)
  refine br1 (by decide) ?_
  refine ⟨qin 1 rfl (by omega) (by omega), ?_⟩
  refine ⟨qin 2 rfl (by omega) (by omega), ?_⟩
  refine cS1_isMissing (fun g => ?_) (fun g1 => ?_)
  · refine br1 (by decide) ?_
    exact h2 (Or.inl g)
  refine br2 (fun z => z rfl) ?_
  refine cS2_isMissing (fun g => ?_) (fun g2 => ?_)
  · refine br2 (by decide) ?_
    exact h2 (Or.inr g)
  refine br1 (fun z => z rfl) ?_
  refine ⟨fun g3 => ?_, fun g3 => ?_⟩
  · have h4 := h4 g1 g2 g3
    have h5 := h5 g1 g2 g3
    refine cS1_hasPlaces hz1 hb1 (fun g4 => ?_) (fun g4 => ?_)
    · refine br2 (by decide) ?_
      refine cS2_hasPlaces hz2 hb2 (fun g5 => ?_) (fun g5 => ?_)
      · refine br1 (by decide) ?_
        have h5 := h5 ⟨g4.1, g5.1, g4.2.1, g4.2.2, g5.2.2⟩
        have zz : ∀ x : Int32, 0 ≤ x.toInt → ¬ x < 0 := fun x hx => by rw [i_lt, show (0 : Int32).toInt = 0 from rfl]; omega
        have nn : ∀ x : Int32, 0 ≤ x.toInt → (x.toNatClampNeg : Int) = x.toInt := fun x hx => Int.toNat_of_nonneg hx
        have n1 := nn p g4.1
        have n2 := nn a g5.1
        have n3 := nn m g4.2.1
        have k1 := g4.2.2
        have k2 := g5.2.2
        refine ⟨⟨zz _ g4.1, zz _ g5.1, zz _ g4.2.1, by omega, by omega⟩, ?_⟩
        exact h5
      · refine br2 (fun z => z rfl) ?_
        exact h4 (fun z => g5 ⟨z.2.1, z.2.2.1, z.2.2.2.2⟩)
    · refine br1 (fun z => z rfl) ?_
      exact h4 (fun z => g4 ⟨z.1, z.2.2.1, z.2.2.2.1⟩)
  · exact h3 g1 g2 g3
set_option maxRecDepth 8000 in
theorem cP13_copy {p a m : Int32} {z1 z2 : Nat} (hz1 : F 15 = nI z1) (hb1 : z1 ≤ 24) (hz2 : F 17 = nI z2) (hb2 : z2 ≤ 24) (h2 : (F 11 = -1 ∨ F 13 = -1) → Q (some (.int (-1000000011))) (mem A F X)) (h3 : ¬ F 11 = -1 → ¬ F 13 = -1 → ¬ F 11 = F 13 → Q (some (.int (-1000000012))) (mem A F X)) (h4 : ¬ F 11 = -1 → ¬ F 13 = -1 → F 11 = F 13 → ¬ f_cpok p a m z1 z2 → Q (some (.int (-1000000013))) (mem A F X)) (h5 : ¬ F 11 = -1 → ¬ F 13 = -1 → F 11 = F 13 → f_cpok p a m z1 z2 → Q (some (.int m)) (mem (va_up A 13 (va_cpy (A 11) (A 13) p.toNatClampNeg a.toNatClampNeg m.toNatClampNeg)) F X)) : pz_C yX9_copy KX9_copy [.ref 0, .int 1, .int p, .int 3, .int a, .int m] (mem A F X) Q := by
  refine pz_C_of rfl rfl rfl (Nat.le_of_ble_eq_true rfl) (pz_wp_ok (pz_Is_ok SX9_copy) [] 100 ?_)
  refine cP_isSheet (fun _ => ?_) (fun g => absurd ⟨by decide, by decide⟩ g)
  refine br2 (by decide) ?_
  refine cP_isSheet (fun _ => ?_) (fun g => absurd ⟨by decide, by decide⟩ g)
  refine br1 (by decide) ?_
  refine ⟨qin 1 rfl (by omega) (by omega), ?_⟩
  refine ⟨qin 3 rfl (by omega) (by omega), ?_⟩
  refine cS1_isMissing (fun g => ?_) (fun g1 => ?_)
  · refine br1 (by decide) ?_
    exact h2 (Or.inl g)
  refine br2 (fun z => z rfl) ?_
  refine cS3_isMissing (fun g => ?_) (fun g2 => ?_)
  · refine br2 (by decide) ?_
    exact h2 (Or.inr g)
  refine br1 (fun z => z rfl) ?_
  refine ⟨fun g3 => ?_, fun g3 => ?_⟩
  · have h4 := h4 g1 g2 g3
    have h5 := h5 g1 g2 g3
    refine cS1_hasPlaces hz1 hb1 (fun g4 => ?_) (fun g4 => ?_)
    · refine br2 (by decide) ?_
      refine cS3_hasPlaces hz2 hb2 (fun g5 => ?_) (fun g5 => ?_)
      · refine br1 (by decide) ?_
        have h5 := h5 ⟨g4.1, g5.1, g4.2.1, g4.2.2, g5.2.2⟩
        have zz : ∀ x : Int32, 0 ≤ x.toInt → ¬ x < 0 := fun x hx => by rw [i_lt, show (0 : Int32).toInt = 0 from rfl]; omega
        have nn : ∀ x : Int32, 0 ≤ x.toInt → (x.toNatClampNeg : Int) = x.toInt := fun x hx => Int.toNat_of_nonneg hx
        have n1 := nn p g4.1
        have n2 := nn a g5.1
        have n3 := nn m g4.2.1
        have k1 := g4.2.2
        have k2 := g5.2.2
        refine ⟨⟨zz _ g4.1, zz _ g5.1, zz _ g4.2.1, by omega, by omega⟩, ?_⟩
        exact h5
      · refine br2 (fun z => z rfl) ?_
        exact h4 (fun z => g5 ⟨z.2.1, z.2.2.1, z.2.2.2.2⟩)
    · refine br1 (fun z => z rfl) ?_
      exact h4 (fun z => g4 ⟨z.1, z.2.2.1, z.2.2.2.1⟩)
  · exact h3 g1 g2 g3
set_option maxRecDepth 8000 in
theorem cP20_copy {p a m : Int32} {z1 z2 : Nat} (hz1 : F 16 = nI z1) (hb1 : z1 ≤ 24) (hz2 : F 14 = nI z2) (hb2 : z2 ≤ 24) (h2 : (F 12 = -1 ∨ F 10 = -1) → Q (some (.int (-1000000011))) (mem A F X)) (h3 : ¬ F 12 = -1 → ¬ F 10 = -1 → ¬ F 12 = F 10 → Q (some (.int (-1000000012))) (mem A F X)) (h4 : ¬ F 12 = -1 → ¬ F 10 = -1 → F 12 = F 10 → ¬ f_cpok p a m z1 z2 → Q (some (.int (-1000000013))) (mem A F X)) (h5 : ¬ F 12 = -1 → ¬ F 10 = -1 → F 12 = F 10 → f_cpok p a m z1 z2 → Q (some (.int m)) (mem (va_up A 10 (va_cpy (A 12) (A 10) p.toNatClampNeg a.toNatClampNeg m.toNatClampNeg)) F X)) : pz_C yX9_copy KX9_copy [.ref 0, .int 2, .int p, .int 0, .int a, .int m] (mem A F X) Q := by
  refine pz_C_of rfl rfl rfl (Nat.le_of_ble_eq_true rfl) (pz_wp_ok (pz_Is_ok SX9_copy) [] 100 ?_)
  refine cP_isSheet (fun _ => ?_) (fun g => absurd ⟨by decide, by decide⟩ g)
  refine br2 (by decide) ?_
  refine cP_isSheet (fun _ => ?_) (fun g => absurd ⟨by decide, by decide⟩ g)
  refine br1 (by decide) ?_
  refine ⟨qin 2 rfl (by omega) (by omega), ?_⟩
  refine ⟨qin 0 rfl (by omega) (by omega), ?_⟩
  refine cS2_isMissing (fun g => ?_) (fun g1 => ?_)
  · refine br1 (by decide) ?_
    exact h2 (Or.inl g)
  refine br2 (fun z => z rfl) ?_
  refine cS0_isMissing (fun g => ?_) (fun g2 => ?_)
  · refine br2 (by decide) ?_
    exact h2 (Or.inr g)
  refine br1 (fun z => z rfl) ?_
  refine ⟨fun g3 => ?_, fun g3 => ?_⟩
  · have h4 := h4 g1 g2 g3
    have h5 := h5 g1 g2 g3
    refine cS2_hasPlaces hz1 hb1 (fun g4 => ?_) (fun g4 => ?_)
    · refine br2 (by decide) ?_
      refine cS0_hasPlaces hz2 hb2 (fun g5 => ?_) (fun g5 => ?_)
      · refine br1 (by decide) ?_
        have h5 := h5 ⟨g4.1, g5.1, g4.2.1, g4.2.2, g5.2.2⟩
        have zz : ∀ x : Int32, 0 ≤ x.toInt → ¬ x < 0 := fun x hx => by rw [i_lt, show (0 : Int32).toInt = 0 from rfl]; omega
        have nn : ∀ x : Int32, 0 ≤ x.toInt → (x.toNatClampNeg : Int) = x.toInt := fun x hx => Int.toNat_of_nonneg hx
        have n1 := nn p g4.1
        have n2 := nn a g5.1
        have n3 := nn m g4.2.1
        have k1 := g4.2.2
        have k2 := g5.2.2
        refine ⟨⟨zz _ g4.1, zz _ g5.1, zz _ g4.2.1, by omega, by omega⟩, ?_⟩
        exact h5
      · refine br2 (fun z => z rfl) ?_
        exact h4 (fun z => g5 ⟨z.2.1, z.2.2.1, z.2.2.2.2⟩)
    · refine br1 (fun z => z rfl) ?_
      exact h4 (fun z => g4 ⟨z.1, z.2.2.1, z.2.2.2.1⟩)
  · exact h3 g1 g2 g3
set_option maxRecDepth 8000 in
theorem cP21_copy {p a m : Int32} {z1 z2 : Nat} (hz1 : F 16 = nI z1) (hb1 : z1 ≤ 24) (hz2 : F 15 = nI z2) (hb2 : z2 ≤ 24) (h2 : (F 12 = -1 ∨ F 11 = -1) → Q (some (.int (-1000000011))) (mem A F X)) (h3 : ¬ F 12 = -1 → ¬ F 11 = -1 → ¬ F 12 = F 11 → Q (some (.int (-1000000012))) (mem A F X)) (h4 : ¬ F 12 = -1 → ¬ F 11 = -1 → F 12 = F 11 → ¬ f_cpok p a m z1 z2 → Q (some (.int (-1000000013))) (mem A F X)) (h5 : ¬ F 12 = -1 → ¬ F 11 = -1 → F 12 = F 11 → f_cpok p a m z1 z2 → Q (some (.int m)) (mem (va_up A 11 (va_cpy (A 12) (A 11) p.toNatClampNeg a.toNatClampNeg m.toNatClampNeg)) F X)) : pz_C yX9_copy KX9_copy [.ref 0, .int 2, .int p, .int 1, .int a, .int m] (mem A F X) Q := by
  refine pz_C_of rfl rfl rfl (Nat.le_of_ble_eq_true rfl) (pz_wp_ok (pz_Is_ok SX9_copy) [] 100 ?_)
  refine cP_isSheet (fun _ => ?_) (fun g => absurd ⟨by decide, by decide⟩ g)
  refine br2 (by decide) ?_
  refine cP_isSheet (fun _ => ?_) (fun g => absurd ⟨by decide, by decide⟩ g)
  refine br1 (by decide) ?_
  refine ⟨qin 2 rfl (by omega) (by omega), ?_⟩
  refine ⟨qin 1 rfl (by omega) (by omega), ?_⟩
  refine cS2_isMissing (fun g => ?_) (fun g1 => ?_)
  · refine br1 (by decide) ?_
    exact h2 (Or.inl g)
  refine br2 (fun z => z rfl) ?_
  refine cS1_isMissing (fun g => ?_) (fun g2 => ?_)
  · refine br2 (by decide) ?_
    exact h2 (Or.inr g)
  refine br1 (fun z => z rfl) ?_
  refine ⟨fun g3 => ?_, fun g3 => ?_⟩
  · have h4 := h4 g1 g2 g3
    have h5 := h5 g1 g2 g3
    refine cS2_hasPlaces hz1 hb1 (fun g4 => ?_) (fun g4 => ?_)
    · refine br2 (by decide) ?_
      refine cS1_hasPlaces hz2 hb2 (fun g5 => ?_) (fun g5 => ?_)
      · refine br1 (by decide) ?_
        have h5 := h5 ⟨g4.1, g5.1, g4.2.1, g4.2.2, g5.2.2⟩
        have zz : ∀ x : Int32, 0 ≤ x.toInt → ¬ x < 0 := fun x hx => by rw [i_lt, show (0 : Int32).toInt = 0 from rfl]; omega
        have nn : ∀ x : Int32, 0 ≤ x.toInt → (x.toNatClampNeg : Int) = x.toInt := fun x hx => Int.toNat_of_nonneg hx
        have n1 := nn p g4.1
        have n2 := nn a g5.1
        have n3 := nn m g4.2.1
        have k1 := g4.2.2
        have k2 := g5.2.2
        refine ⟨⟨zz _ g4.1, zz _ g5.1, zz _ g4.2.1, by omega, by omega⟩, ?_⟩
        exact h5
      · refine br2 (fun z => z rfl) ?_
        exact h4 (fun z => g5 ⟨z.2.1, z.2.2.1, z.2.2.2.2⟩)
    · refine br1 (fun z => z rfl) ?_
      exact h4 (fun z => g4 ⟨z.1, z.2.2.1, z.2.2.2.1⟩)
  · exact h3 g1 g2 g3
set_option maxRecDepth 8000 in
theorem cP22_copy {p a m : Int32} {z1 z2 : Nat} (hz1 : F 16 = nI z1) (hb1 : z1 ≤ 24) (hz2 : F 16 = nI z2) (hb2 : z2 ≤ 24) (h2 : (F 12 = -1 ∨ F 12 = -1) → Q (some (.int (-1000000011))) (mem A F X)) (h3 : ¬ F 12 = -1 → ¬ F 12 = -1 → ¬ F 12 = F 12 → Q (some (.int (-1000000012))) (mem A F X)) (h4 : ¬ F 12 = -1 → ¬ F 12 = -1 → F 12 = F 12 → ¬ f_cpok p a m z1 z2 → Q (some (.int (-1000000013))) (mem A F X)) (h5 : ¬ F 12 = -1 → ¬ F 12 = -1 → F 12 = F 12 → f_cpok p a m z1 z2 → Q (some (.int m)) (mem (va_up A 12 (va_cpy (A 12) (A 12) p.toNatClampNeg a.toNatClampNeg m.toNatClampNeg)) F X)) : pz_C yX9_copy KX9_copy [.ref 0, .int 2, .int p, .int 2, .int a, .int m] (mem A F X) Q := by
  refine pz_C_of rfl rfl rfl (Nat.le_of_ble_eq_true rfl) (pz_wp_ok (pz_Is_ok SX9_copy) [] 100 ?_)
  refine cP_isSheet (fun _ => ?_) (fun g => absurd ⟨by decide, by decide⟩ g)
  refine br2 (by decide) ?_
  refine cP_isSheet (fun _ => ?_) (fun g => absurd ⟨by decide, by decide⟩ g)
  refine br1 (by decide) ?_
  refine ⟨qin 2 rfl (by omega) (by omega), ?_⟩
  refine ⟨qin 2 rfl (by omega) (by omega), ?_⟩
  refine cS2_isMissing (fun g => ?_) (fun g1 => ?_)
  · refine br1 (by decide) ?_
    exact h2 (Or.inl g)
  refine br2 (fun z => z rfl) ?_
  refine cS2_isMissing (fun g => ?_) (fun g2 => ?_)
  · refine br2 (by decide) ?_
    exact h2 (Or.inr g)
  refine br1 (fun z => z rfl) ?_
  refine ⟨fun g3 => ?_, fun g3 => ?_⟩
  · have h4 := h4 g1 g2 g3
    have h5 := h5 g1 g2 g3
    refine cS2_hasPlaces hz1 hb1 (fun g4 => ?_) (fun g4 => ?_)
    · refine br2 (by decide) ?_
      refine cS2_hasPlaces hz2 hb2 (fun g5 => ?_) (fun g5 => ?_)
      · refine br1 (by decide) ?_
        have h5 := h5 ⟨g4.1, g5.1, g4.2.1, g4.2.2, g5.2.2⟩
        have zz : ∀ x : Int32, 0 ≤ x.toInt → ¬ x < 0 := fun x hx => by rw [i_lt, show (0 : Int32).toInt = 0 from rfl]; omega
        have nn : ∀ x : Int32, 0 ≤ x.toInt → (x.toNatClampNeg : Int) = x.toInt := fun x hx => Int.toNat_of_nonneg hx
        have n1 := nn p g4.1
        have n2 := nn a g5.1
        have n3 := nn m g4.2.1
        have k1 := g4.2.2
        have k2 := g5.2.2
        refine ⟨⟨zz _ g4.1, zz _ g5.1, zz _ g4.2.1, by omega, by omega⟩, ?_⟩
        exact h5
      · refine br2 (fun z => z rfl) ?_
        exact h4 (fun z => g5 ⟨z.2.1, z.2.2.1, z.2.2.2.2⟩)
    · refine br1 (fun z => z rfl) ?_
      exact h4 (fun z => g4 ⟨z.1, z.2.2.1, z.2.2.2.1⟩)
  · exact h3 g1 g2 g3
set_option maxRecDepth 8000 in
theorem cP23_copy {p a m : Int32} {z1 z2 : Nat} (hz1 : F 16 = nI z1) (hb1 : z1 ≤ 24) (hz2 : F 17 = nI z2) (hb2 : z2 ≤ 24) (h2 : (F 12 = -1 ∨ F 13 = -1) → Q (some (.int (-1000000011))) (mem A F X)) (h3 : ¬ F 12 = -1 → ¬ F 13 = -1 → ¬ F 12 = F 13 → Q (some (.int (-1000000012))) (mem A F X)) (h4 : ¬ F 12 = -1 → ¬ F 13 = -1 → F 12 = F 13 → ¬ f_cpok p a m z1 z2 → Q (some (.int (-1000000013))) (mem A F X)) (h5 : ¬ F 12 = -1 → ¬ F 13 = -1 → F 12 = F 13 → f_cpok p a m z1 z2 → Q (some (.int m)) (mem (va_up A 13 (va_cpy (A 12) (A 13) p.toNatClampNeg a.toNatClampNeg m.toNatClampNeg)) F X)) : pz_C yX9_copy KX9_copy [.ref 0, .int 2, .int p, .int 3, .int a, .int m] (mem A F X) Q := by
  refine pz_C_of rfl rfl rfl (Nat.le_of_ble_eq_true rfl) (pz_wp_ok (pz_Is_ok SX9_copy) [] 100 ?_)
  refine cP_isSheet (fun _ => ?_) (fun g => absurd ⟨by decide, by decide⟩ g)
  refine br2 (by decide) ?_
  refine cP_isSheet (fun _ => ?_) (fun g => absurd ⟨by decide, by decide⟩ g)
  refine br1 (by decide) ?_
  refine ⟨qin 2 rfl (by omega) (by omega), ?_⟩
  refine ⟨qin 3 rfl (by omega) (by omega), ?_⟩
  refine cS2_isMissing (fun g => ?_) (fun g1 => ?_)
  · refine br1 (by decide) ?_
    exact h2 (Or.inl g)
  refine br2 (fun z => z rfl) ?_
  refine cS3_isMissing (fun g => ?_) (fun g2 => ?_)
  · refine br2 (by decide) ?_
    exact h2 (Or.inr g)
  refine br1 (fun z => z rfl) ?_
  refine ⟨fun g3 => ?_, fun g3 => ?_⟩
  · have h4 := h4 g1 g2 g3
    have h5 := h5 g1 g2 g3
    refine cS2_hasPlaces hz1 hb1 (fun g4 => ?_) (fun g4 => ?_)
    · refine br2 (by decide) ?_
      refine cS3_hasPlaces hz2 hb2 (fun g5 => ?_) (fun g5 => ?_)
      · refine br1 (by decide) ?_
        have h5 := h5 ⟨g4.1, g5.1, g4.2.1, g4.2.2, g5.2.2⟩
        have zz : ∀ x : Int32, 0 ≤ x.toInt → ¬ x < 0 := fun x hx => by rw [i_lt, show (0 : Int32).toInt = 0 from rfl]; omega
        have nn : ∀ x : Int32, 0 ≤ x.toInt → (x.toNatClampNeg : Int) = x.toInt := fun x hx => Int.toNat_of_nonneg hx
        have n1 := nn p g4.1
        have n2 := nn a g5.1
        have n3 := nn m g4.2.1
        have k1 := g4.2.2
        have k2 := g5.2.2
        refine ⟨⟨zz _ g4.1, zz _ g5.1, zz _ g4.2.1, by omega, by omega⟩, ?_⟩
        exact h5
      · refine br2 (fun z => z rfl) ?_
        exact h4 (fun z => g5 ⟨z.2.1, z.2.2.1, z.2.2.2.2⟩)
    · refine br1 (fun z => z rfl) ?_
      exact h4 (fun z => g4 ⟨z.1, z.2.2.1, z.2.2.2.1⟩)
  · exact h3 g1 g2 g3
set_option maxRecDepth 8000 in
theorem cP30_copy {p a m : Int32} {z1 z2 : Nat} (hz1 : F 17 = nI z1) (hb1 : z1 ≤ 24) (hz2 : F 14 = nI z2) (hb2 : z2 ≤ 24) (h2 : (F 13 = -1 ∨ F 10 = -1) → Q (some (.int (-1000000011))) (mem A F X)) (h3 : ¬ F 13 = -1 → ¬ F 10 = -1 → ¬ F 13 = F 10 → Q (some (.int (-1000000012))) (mem A F X)) (h4 : ¬ F 13 = -1 → ¬ F 10 = -1 → F 13 = F 10 → ¬ f_cpok p a m z1 z2 → Q (some (.int (-1000000013))) (mem A F X)) (h5 : ¬ F 13 = -1 → ¬ F 10 = -1 → F 13 = F 10 → f_cpok p a m z1 z2 → Q (some (.int m)) (mem (va_up A 10 (va_cpy (A 13) (A 10) p.toNatClampNeg a.toNatClampNeg m.toNatClampNeg)) F X)) : pz_C yX9_copy KX9_copy [.ref 0, .int 3, .int p, .int 0, .int a, .int m] (mem A F X) Q := by
  refine pz_C_of rfl rfl rfl (Nat.le_of_ble_eq_true rfl) (pz_wp_ok (pz_Is_ok SX9_copy) [] 100 ?_)
  refine cP_isSheet (fun _ => ?_) (fun g => absurd ⟨by decide, by decide⟩ g)
  refine br2 (by decide) ?_
  refine cP_isSheet (fun _ => ?_) (fun g => absurd ⟨by decide, by decide⟩ g)
  refine br1 (by decide) ?_
  refine ⟨qin 3 rfl (by omega) (by omega), ?_⟩
  refine ⟨qin 0 rfl (by omega) (by omega), ?_⟩
  refine cS3_isMissing (fun g => ?_) (fun g1 => ?_)
  · refine br1 (by decide) ?_
    exact h2 (Or.inl g)
  refine br2 (fun z => z rfl) ?_
  refine cS0_isMissing (fun g => ?_) (fun g2 => ?_)
  · refine br2 (by decide) ?_
    exact h2 (Or.inr g)
  refine br1 (fun z => z rfl) ?_
  refine ⟨fun g3 => ?_, fun g3 => ?_⟩
  · have h4 := h4 g1 g2 g3
    have h5 := h5 g1 g2 g3
    refine cS3_hasPlaces hz1 hb1 (fun g4 => ?_) (fun g4 => ?_)
    · refine br2 (by decide) ?_
      refine cS0_hasPlaces hz2 hb2 (fun g5 => ?_) (fun g5 => ?_)
      · refine br1 (by decide) ?_
        have h5 := h5 ⟨g4.1, g5.1, g4.2.1, g4.2.2, g5.2.2⟩
        have zz : ∀ x : Int32, 0 ≤ x.toInt → ¬ x < 0 := fun x hx => by rw [i_lt, show (0 : Int32).toInt = 0 from rfl]; omega
        have nn : ∀ x : Int32, 0 ≤ x.toInt → (x.toNatClampNeg : Int) = x.toInt := fun x hx => Int.toNat_of_nonneg hx
        have n1 := nn p g4.1
        have n2 := nn a g5.1
        have n3 := nn m g4.2.1
        have k1 := g4.2.2
        have k2 := g5.2.2
        refine ⟨⟨zz _ g4.1, zz _ g5.1, zz _ g4.2.1, by omega, by omega⟩, ?_⟩
        exact h5
      · refine br2 (fun z => z rfl) ?_
        exact h4 (fun z => g5 ⟨z.2.1, z.2.2.1, z.2.2.2.2⟩)
    · refine br1 (fun z => z rfl) ?_
      exact h4 (fun z => g4 ⟨z.1, z.2.2.1, z.2.2.2.1⟩)
  · exact h3 g1 g2 g3
set_option maxRecDepth 8000 in
theorem cP31_copy {p a m : Int32} {z1 z2 : Nat} (hz1 : F 17 = nI z1) (hb1 : z1 ≤ 24) (hz2 : F 15 = nI z2) (hb2 : z2 ≤ 24) (h2 : (F 13 = -1 ∨ F 11 = -1) → Q (some (.int (-1000000011))) (mem A F X)) (h3 : ¬ F 13 = -1 → ¬ F 11 = -1 → ¬ F 13 = F 11 → Q (some (.int (-1000000012))) (mem A F X)) (h4 : ¬ F 13 = -1 → ¬ F 11 = -1 → F 13 = F 11 → ¬ f_cpok p a m z1 z2 → Q (some (.int (-1000000013))) (mem A F X)) (h5 : ¬ F 13 = -1 → ¬ F 11 = -1 → F 13 = F 11 → f_cpok p a m z1 z2 → Q (some (.int m)) (mem (va_up A 11 (va_cpy (A 13) (A 11) p.toNatClampNeg a.toNatClampNeg m.toNatClampNeg)) F X)) : pz_C yX9_copy KX9_copy [.ref 0, .int 3, .int p, .int 1, .int a, .int m] (mem A F X) Q := by
  refine pz_C_of rfl rfl rfl (Nat.le_of_ble_eq_true rfl) (pz_wp_ok (pz_Is_ok SX9_copy) [] 100 ?_)
  refine cP_isSheet (fun _ => ?_) (fun g => absurd ⟨by decide, by decide⟩ g)
  refine br2 (by decide) ?_
  refine cP_isSheet (fun _ => ?_) (fun g => absurd ⟨by decide, by decide⟩ g)
  refine br1 (by decide) ?_
  refine ⟨qin 3 rfl (by omega) (by omega), ?_⟩
  refine ⟨qin 1 rfl (by omega) (by omega), ?_⟩
  refine cS3_isMissing (fun g => ?_) (fun g1 => ?_)
  · refine br1 (by decide) ?_
    exact h2 (Or.inl g)
  refine br2 (fun z => z rfl) ?_
  refine cS1_isMissing (fun g => ?_) (fun g2 => ?_)
  · refine br2 (by decide) ?_
    exact h2 (Or.inr g)
  refine br1 (fun z => z rfl) ?_
  refine ⟨fun g3 => ?_, fun g3 => ?_⟩
  · have h4 := h4 g1 g2 g3
    have h5 := h5 g1 g2 g3
    refine cS3_hasPlaces hz1 hb1 (fun g4 => ?_) (fun g4 => ?_)
    · refine br2 (by decide) ?_
      refine cS1_hasPlaces hz2 hb2 (fun g5 => ?_) (fun g5 => ?_)
      · refine br1 (by decide) ?_
        have h5 := h5 ⟨g4.1, g5.1, g4.2.1, g4.2.2, g5.2.2⟩
        have zz : ∀ x : Int32, 0 ≤ x.toInt → ¬ x < 0 := fun x hx => by rw [i_lt, show (0 : Int32).toInt = 0 from rfl]; omega
        have nn : ∀ x : Int32, 0 ≤ x.toInt → (x.toNatClampNeg : Int) = x.toInt := fun x hx => Int.toNat_of_nonneg hx
        have n1 := nn p g4.1
        have n2 := nn a g5.1
        have n3 := nn m g4.2.1
        have k1 := g4.2.2
        have k2 := g5.2.2
        refine ⟨⟨zz _ g4.1, zz _ g5.1, zz _ g4.2.1, by omega, by omega⟩, ?_⟩
        exact h5
      · refine br2 (fun z => z rfl) ?_
        exact h4 (fun z => g5 ⟨z.2.1, z.2.2.1, z.2.2.2.2⟩)
    · refine br1 (fun z => z rfl) ?_
      exact h4 (fun z => g4 ⟨z.1, z.2.2.1, z.2.2.2.1⟩)
  · exact h3 g1 g2 g3
set_option maxRecDepth 8000 in
theorem cP32_copy {p a m : Int32} {z1 z2 : Nat} (hz1 : F 17 = nI z1) (hb1 : z1 ≤ 24) (hz2 : F 16 = nI z2) (hb2 : z2 ≤ 24) (h2 : (F 13 = -1 ∨ F 12 = -1) → Q (some (.int (-1000000011))) (mem A F X)) (h3 : ¬ F 13 = -1 → ¬ F 12 = -1 → ¬ F 13 = F 12 → Q (some (.int (-1000000012))) (mem A F X)) (h4 : ¬ F 13 = -1 → ¬ F 12 = -1 → F 13 = F 12 → ¬ f_cpok p a m z1 z2 → Q (some (.int (-1000000013))) (mem A F X)) (h5 : ¬ F 13 = -1 → ¬ F 12 = -1 → F 13 = F 12 → f_cpok p a m z1 z2 → Q (some (.int m)) (mem (va_up A 12 (va_cpy (A 13) (A 12) p.toNatClampNeg a.toNatClampNeg m.toNatClampNeg)) F X)) : pz_C yX9_copy KX9_copy [.ref 0, .int 3, .int p, .int 2, .int a, .int m] (mem A F X) Q := by
  refine pz_C_of rfl rfl rfl (Nat.le_of_ble_eq_true rfl) (pz_wp_ok (pz_Is_ok SX9_copy) [] 100 ?_)
  refine cP_isSheet (fun _ => ?_) (fun g => absurd ⟨by decide, by decide⟩ g)
  refine br2 (by decide) ?_
  refine cP_isSheet (fun _ => ?_) (fun g => absurd ⟨by decide, by decide⟩ g)
  refine br1 (by decide) ?_
  refine ⟨qin 3 rfl (by omega) (by omega), ?_⟩
  refine ⟨qin 2 rfl (by omega) (by omega), ?_⟩
  refine cS3_isMissing (fun g => ?_) (fun g1 => ?_)
  · refine br1 (by decide) ?_
    exact h2 (Or.inl g)
  refine br2 (fun z => z rfl) ?_
  refine cS2_isMissing (fun g => ?_) (fun g2 => ?_)
  · refine br2 (by decide) ?_
    exact h2 (Or.inr g)
  refine br1 (fun z => z rfl) ?_
  refine ⟨fun g3 => ?_, fun g3 => ?_⟩
  · have h4 := h4 g1 g2 g3
    have h5 := h5 g1 g2 g3
    refine cS3_hasPlaces hz1 hb1 (fun g4 => ?_) (fun g4 => ?_)
    · refine br2 (by decide) ?_
      refine cS2_hasPlaces hz2 hb2 (fun g5 => ?_) (fun g5 => ?_)
      · refine br1 (by decide) ?_
        have h5 := h5 ⟨g4.1, g5.1, g4.2.1, g4.2.2, g5.2.2⟩
        have zz : ∀ x : Int32, 0 ≤ x.toInt → ¬ x < 0 := fun x hx => by rw [i_lt, show (0 : Int32).toInt = 0 from rfl]; omega
        have nn : ∀ x : Int32, 0 ≤ x.toInt → (x.toNatClampNeg : Int) = x.toInt := fun x hx => Int.toNat_of_nonneg hx
        have n1 := nn p g4.1
        have n2 := nn a g5.1
        have n3 := nn m g4.2.1
        have k1 := g4.2.2
        have k2 := g5.2.2
        refine ⟨⟨zz _ g4.1, zz _ g5.1, zz _ g4.2.1, by omega, by omega⟩, ?_⟩
        exact h5
      · refine br2 (fun z => z rfl) ?_
        exact h4 (fun z => g5 ⟨z.2.1, z.2.2.1, z.2.2.2.2⟩)
    · refine br1 (fun z => z rfl) ?_
      exact h4 (fun z => g4 ⟨z.1, z.2.2.1, z.2.2.2.1⟩)
  · exact h3 g1 g2 g3
set_option maxRecDepth 8000 in
theorem cP33_copy {p a m : Int32} {z1 z2 : Nat} (hz1 : F 17 = nI z1) (hb1 : z1 ≤ 24) (hz2 : F 17 = nI z2) (hb2 : z2 ≤ 24) (h2 : (F 13 = -1 ∨ F 13 = -1) → Q (some (.int (-1000000011))) (mem A F X)) (h3 : ¬ F 13 = -1 → ¬ F 13 = -1 → ¬ F 13 = F 13 → Q (some (.int (-1000000012))) (mem A F X)) (h4 : ¬ F 13 = -1 → ¬ F 13 = -1 → F 13 = F 13 → ¬ f_cpok p a m z1 z2 → Q (some (.int (-1000000013))) (mem A F X)) (h5 : ¬ F 13 = -1 → ¬ F 13 = -1 → F 13 = F 13 → f_cpok p a m z1 z2 → Q (some (.int m)) (mem (va_up A 13 (va_cpy (A 13) (A 13) p.toNatClampNeg a.toNatClampNeg m.toNatClampNeg)) F X)) : pz_C yX9_copy KX9_copy [.ref 0, .int 3, .int p, .int 3, .int a, .int m] (mem A F X) Q := by
  refine pz_C_of rfl rfl rfl (Nat.le_of_ble_eq_true rfl) (pz_wp_ok (pz_Is_ok SX9_copy) [] 100 ?_)
  refine cP_isSheet (fun _ => ?_) (fun g => absurd ⟨by decide, by decide⟩ g)
  refine br2 (by decide) ?_
  refine cP_isSheet (fun _ => ?_) (fun g => absurd ⟨by decide, by decide⟩ g)
  refine br1 (by decide) ?_
  refine ⟨qin 3 rfl (by omega) (by omega), ?_⟩
  refine ⟨qin 3 rfl (by omega) (by omega), ?_⟩
  refine cS3_isMissing (fun g => ?_) (fun g1 => ?_)
  · refine br1 (by decide) ?_
    exact h2 (Or.inl g)
  refine br2 (fun z => z rfl) ?_
  refine cS3_isMissing (fun g => ?_) (fun g2 => ?_)
  · refine br2 (by decide) ?_
    exact h2 (Or.inr g)
  refine br1 (fun z => z rfl) ?_
  refine ⟨fun g3 => ?_, fun g3 => ?_⟩
  · have h4 := h4 g1 g2 g3
    have h5 := h5 g1 g2 g3
    refine cS3_hasPlaces hz1 hb1 (fun g4 => ?_) (fun g4 => ?_)
    · refine br2 (by decide) ?_
      refine cS3_hasPlaces hz2 hb2 (fun g5 => ?_) (fun g5 => ?_)
      · refine br1 (by decide) ?_
        have h5 := h5 ⟨g4.1, g5.1, g4.2.1, g4.2.2, g5.2.2⟩
        have zz : ∀ x : Int32, 0 ≤ x.toInt → ¬ x < 0 := fun x hx => by rw [i_lt, show (0 : Int32).toInt = 0 from rfl]; omega
        have nn : ∀ x : Int32, 0 ≤ x.toInt → (x.toNatClampNeg : Int) = x.toInt := fun x hx => Int.toNat_of_nonneg hx
        have n1 := nn p g4.1
        have n2 := nn a g5.1
        have n3 := nn m g4.2.1
        have k1 := g4.2.2
        have k2 := g5.2.2
        refine ⟨⟨zz _ g4.1, zz _ g5.1, zz _ g4.2.1, by omega, by omega⟩, ?_⟩
        exact h5
      · refine br2 (fun z => z rfl) ?_
        exact h4 (fun z => g5 ⟨z.2.1, z.2.2.1, z.2.2.2.2⟩)
    · refine br1 (fun z => z rfl) ?_
      exact h4 (fun z => g4 ⟨z.1, z.2.2.1, z.2.2.2.1⟩)
  · exact h3 g1 g2 g3
end POT
