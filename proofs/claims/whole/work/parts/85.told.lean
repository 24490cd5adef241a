/-! a text that was read can be worked out -/
theorem k_read_to {T : Nat → Int32} {n key : Nat} {x : kS} (h : k_read T n = .inl (key, x)) : x.2.2.length ≤ n ∧ k_stp key x.2.2 ∧ k_one x.2.2 := by
  have t1 := (k_tok_ok T (n := n) (e := 0) 3 (by omega)).1
  unfold k_read at h
  cases hk : k_key T (k_tok T n 3 0) with
  | none => rw [hk] at h; cases h
  | some key' =>
    rw [hk] at h
    dsimp only at h
    have hs := k_expr_to (k_part_to T n key' 17 0 0) (k_nx T n (k_tok T n 3 0, 0, [])) (k_ok_nx (x := (k_tok T n 3 0, 0, [])) t1).1
    cases hy : k_expr T n (k_part T n key' 17 0 0) (k_nx T n (k_tok T n 3 0, 0, [])) with
    | inr e => rw [hy] at h; cases h
    | inl y =>
      rw [hy] at h
      dsimp only at h
      by_cases g : y.1.1 = 0
      · rw [if_pos g] at h
        have h := Sum.inl.inj h
        have hx : y = x := congrArg Prod.snd h
        have hk' : key' = key := congrArg Prod.fst h
        subst hx
        subst hk'
        obtain ⟨b1, b2, ds, b3, b4, b5, b6⟩ := hs.1 y hy
        have e : y.2.2 = ds := b3.trans (List.nil_append ds)
        have := b1.1
        have := b1.2.1
        rw [e]
        exact ⟨by omega, b5, b6⟩
      · rw [if_neg g] at h
        cases h
theorem f_stp_len {nm : Nat → Int32} {w v : Int32} {st st' : List Int32} (h : f_stp nm w v st = some st') : st'.length ≤ st.length + 1 := by
  unfold f_stp at h
  by_cases g : w = 2
  · rw [if_pos g] at h
    by_cases g' : v = 33
    · rw [if_pos g'] at h
      cases st with
      | nil => cases h
      | cons a r => cases h; simp only [List.length_cons]; omega
    · rw [if_neg g'] at h
      match st, h with
      | [], h => cases h
      | [a], h => cases h
      | a :: b :: r, h => cases h; simp only [List.length_cons]; omega
  · rw [if_neg g] at h
    cases h
    simp only [List.length_cons]
    omega
theorem k_runs_pre (nm : Nat → Int32) : ∀ (a b : List (Int32 × Int32)) (st s' : List Int32), k_runs nm (a ++ b) st = some s' → ∃ s, k_runs nm a st = some s ∧ s.length ≤ a.length + st.length ∧ k_runs nm b s = some s'
  | [], b, st, s', h => ⟨st, rfl, by rw [List.length_nil]; omega, h⟩
  | x :: r, b, st, s', h => by
    rw [List.cons_append, k_runs] at h
    cases hx : f_stp nm x.1 x.2 st with
    | none => rw [hx] at h; cases h
    | some s1 =>
      rw [hx] at h
      dsimp only at h
      obtain ⟨s, c1, c2, c3⟩ := k_runs_pre nm r b s1 s' h
      have := f_stp_len hx
      refine ⟨s, ?_, by rw [List.length_cons]; omega, c3⟩
      rw [k_runs, hx]
      exact c1
theorem f_run_runs {t nm : Nat → Int32} {b : Nat} {ds : List (Int32 × Int32)} (h : ∀ k p, ds[k]? = some p → t (b + 4 + 2 * k) = p.1 ∧ t (b + 4 + 2 * k + 1) = p.2) : ∀ k, k ≤ ds.length → ∀ s, k_runs nm (ds.take k) [] = some s → f_run t nm b k = some s
  | 0, hk, s, e => by
    rw [List.take_zero] at e
    exact e
  | k + 1, hk, s, e => by
    have hlt : k < ds.length := by omega
    have hp : ds[k]? = some ds[k] := List.getElem?_eq_getElem hlt
    rw [List.take_add_one, hp] at e
    obtain ⟨s1, c1, c2, c3⟩ := k_runs_pre nm (ds.take k) [ds[k]] [] s e
    have ih := f_run_runs h k (by omega) s1 c1
    obtain ⟨d1, d2⟩ := h k _ hp
    rw [f_run, ih]
    dsimp only
    rw [d1, d2]
    rw [k_runs] at c3
    cases hx : f_stp nm ds[k].1 ds[k].2 s1 with
    | none => rw [hx] at c3; cases c3
    | some s2 => rw [hx] at c3; exact c3
theorem alw_l {key : Nat} {v : Int32} (h : alw key v) : ∃ l, l < 128 ∧ v = nI l := by
  rcases h with ⟨-, h | h | h⟩ | ⟨-, h | h⟩ | ⟨-, h | h⟩
  · exact ⟨98, by omega, h⟩
  · exact ⟨116, by omega, h⟩
  · exact ⟨112, by omega, h⟩
  · exact ⟨97, by omega, h⟩
  · exact ⟨112, by omega, h⟩
  · exact ⟨97, by omega, h⟩
  · exact ⟨99, by omega, h⟩
theorem okTx_told {T t t' : Nat → Int32} {n nt key : Nat} {x : kS} (hn : n ≤ 96) (h : k_read T n = .inl (key, x)) (ht : f_told t t' nt key x) : okTx t' (142 + 200 * nt) := by
  obtain ⟨a1, a2, a3⟩ := k_read_to h
  obtain ⟨e1, e2, e3, e4, e5, e6⟩ := ht
  have hm : ∀ k, k < x.2.2.length → ∃ p, x.2.2[k]? = some p ∧ p ∈ x.2.2 := fun k hk => ⟨x.2.2[k], List.getElem?_eq_getElem hk, List.getElem_mem hk⟩
  refine ⟨x.2.2.length, key, ⟨e4, by omega, fun k hk => ?_, fun nm k hk => ?_, fun nm => ?_⟩, k_read_ok h, e2, fun k hk hw => ?_⟩
  · obtain ⟨p, p1, p2⟩ := hm k hk
    obtain ⟨q1, q2⟩ := e5 k p p1
    unfold okStep
    rw [q1, q2]
    rcases a2 p p2 with ⟨z, -⟩ | ⟨z, z'⟩ | ⟨z, -⟩
    · exact Or.inl z
    · exact Or.inr (Or.inl ⟨z, alw_l z'⟩)
    · exact Or.inr (Or.inr z)
  · obtain ⟨v, hv⟩ := a3 nm []
    rw [← List.take_append_drop k x.2.2] at hv
    obtain ⟨s, c1, c2, c3⟩ := k_runs_pre nm _ _ _ _ hv
    rw [List.length_take, List.length_nil] at c2
    exact ⟨s, f_run_runs e5 k hk s c1, by omega⟩
  · obtain ⟨v, hv⟩ := a3 nm []
    rw [f_run_runs e5 _ (Nat.le_refl _) [v] (by rw [List.take_length]; exact hv)]
    intro z
    cases z
  · obtain ⟨p, p1, p2⟩ := hm k hk
    obtain ⟨q1, q2⟩ := e5 k p p1
    rw [q1] at hw
    rw [q2]
    rcases a2 p p2 with ⟨z, -⟩ | ⟨z, z'⟩ | ⟨z, -⟩
    · rw [z] at hw; exact absurd hw (by decide)
    · exact z'
    · rw [z] at hw; exact absurd hw (by decide)
theorem okS_told {T t t' : Nat → Int32} {n nt key : Nat} {x : kS} (hn : n ≤ 96) (h : k_read T n = .inl (key, x)) (ho : okS t) (h1 : t 1 = nI nt) (hb : nt < 14) (ht : f_told t t' nt key x) : okS t' := by
  have hx := okTx_told hn h ht
  obtain ⟨e1, e2, e3, e4, e5, e6⟩ := ht
  have ht2 := ho.nt
  have en : f_nt t = nt := qcl nt h1 (by omega)
  rw [en] at ht2
  obtain ⟨o1, o2, o3, o4, o5, o6⟩ := ho
  refine ⟨by rw [e6 0 (by omega) (by omega)]; exact o1, ⟨nt + 1, by omega, e1, fun i hi => ?_⟩, by rw [e6 3 (by omega) (by omega)]; exact o3, by rw [e6 4 (by omega) (by omega)]; exact o4, by rw [e6 8 (by omega) (by omega)]; exact o5, fun k hk => by rw [e6 _ (by omega) (by omega)]; exact o6 k hk⟩
  by_cases g : i = nt
  · rw [g]; exact hx
  · exact okTx_cg (fun j a b => e6 j (by omega) (by omega)) (ht2.2.2 i (by omega))
theorem rTx_told {T t t' : Nat → Int32} {X : qX} {n nt key i : Nat} {x : kS} (hn : n ≤ 96) (h : k_read T n = .inl (key, x)) (ht : f_told t t' nt key x) (hi : i ≤ X.2.2.1) (hX : X.1 nt = some (xr i)) (e0 : X.2.2.2.2 i 0 = nI x.2.2.length) (e1 : X.2.2.2.2 i 1 = nI key) (e2 : X.2.2.2.2 i 2 = nI x.2.1) (e3 : ∀ k p, x.2.2[k]? = some p → X.2.2.2.1 i k = encS key p.1 p.2) : rTx X t' nt i := by
  obtain ⟨a1, a2, a3⟩ := k_read_to h
  have hk3 := k_read_ok h
  obtain ⟨d1, d2, d3, d4, d5, d6⟩ := ht
  have ek : (t' (142 + 200 * nt)).toNatClampNeg = key := qcl key d2 (by omega)
  have em : f_m t' nt = x.2.2.length := qcl _ d4 (by omega)
  refine ⟨hi, hX, by rw [d4]; exact e0, by rw [d2]; exact e1, by rw [d3]; exact e2, fun j hj => ?_⟩
  rw [em] at hj
  have p1 : x.2.2[j]? = some x.2.2[j] := List.getElem?_eq_getElem hj
  obtain ⟨q1, q2⟩ := d5 j _ p1
  rw [ek, q1, q2]
  exact ⟨e3 j _ p1, a2 _ (List.getElem_mem hj)⟩
