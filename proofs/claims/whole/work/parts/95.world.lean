/-! the world at the law's start -/
def exw (T K V : Nat → Nat) (b f : Nat) : Nat → Nat := fun i => if i < 1000010 then T (i - 1000000) else if i < 1000020 then K (i - 1000010) else if i < 1000030 then V (i - 1000020) else if i < 1000040 then b else f
theorem exw_T {T K V : Nat → Nat} {b f t : Nat} (h : t < 4) : exw T K V b f (1000000 + t) = T t := by
  unfold exw
  rw [if_pos (by omega), show 1000000 + t - 1000000 = t by omega]
theorem exw_K {T K V : Nat → Nat} {b f t : Nat} (h : t < 6) : exw T K V b f (1000010 + t) = K t := by
  unfold exw
  rw [if_neg (by omega), if_pos (by omega), show 1000010 + t - 1000010 = t by omega]
theorem exw_V {T K V : Nat → Nat} {b f t : Nat} (h : t < 6) : exw T K V b f (1000020 + t) = V t := by
  unfold exw
  rw [if_neg (by omega), if_neg (by omega), if_pos (by omega), show 1000020 + t - 1000020 = t by omega]
theorem exw_b {T K V : Nat → Nat} {b f : Nat} : exw T K V b f 1000030 = b := by
  unfold exw
  rw [if_neg (by omega), if_neg (by omega), if_neg (by omega), if_pos (by omega)]
theorem exw_f {T K V : Nat → Nat} {b f : Nat} : exw T K V b f 1000040 = f := by
  unfold exw
  rw [if_neg (by omega), if_neg (by omega), if_neg (by omega), if_neg (by omega)]
def flw : List Cond := flatC (Jvm.Cond.and given_1 narrow_1)
theorem flw_arr : ∀ t, t < 4 → Cond.arrayOf (.static (pz_stn t).1 (pz_stn t).2.1 "[I") .int ∈ flw ∧ Cond.eq (.length (.static (pz_stn t).1 (pz_stn t).2.1 "[I")) (.int (Int32.ofNat (pz_stn t).2.2.1)) ∈ flw := by decide +kernel
theorem flw_e0 : ∀ j, j < 4 → flw[22 + j]? = some (Cond.eq (.elem (.static (pz_stn 0).1 (pz_stn 0).2.1 "[I") (.int (Int32.ofNat j))) (.int ((pz_stn 0).2.2.2.getD j 0))) := by decide +kernel
theorem flw_e1 : ∀ j, j < 3 → flw[7 + j]? = some (Cond.eq (.elem (.static (pz_stn 1).1 (pz_stn 1).2.1 "[I") (.int (Int32.ofNat j))) (.int ((pz_stn 1).2.2.2.getD j 0))) := by decide +kernel
theorem flw_e2 : ∀ j, j < 6 → flw[13 + j]? = some (Cond.eq (.elem (.static (pz_stn 2).1 (pz_stn 2).2.1 "[I") (.int (Int32.ofNat j))) (.int ((pz_stn 2).2.2.2.getD j 0))) := by decide +kernel
theorem flw_c0 : ∀ j, j < 12 → flw[29 + (0 + j)]? = some (Cond.eq (.elem (.static (pz_stn 3).1 (pz_stn 3).2.1 "[I") (.int (Int32.ofNat (0 + j)))) (.int ((pz_stn 3).2.2.2.getD (0 + j) 0))) := by decide +kernel
theorem flw_c1 : ∀ j, j < 12 → flw[29 + (12 + j)]? = some (Cond.eq (.elem (.static (pz_stn 3).1 (pz_stn 3).2.1 "[I") (.int (Int32.ofNat (12 + j)))) (.int ((pz_stn 3).2.2.2.getD (12 + j) 0))) := by decide +kernel
theorem flw_c2 : ∀ j, j < 12 → flw[29 + (24 + j)]? = some (Cond.eq (.elem (.static (pz_stn 3).1 (pz_stn 3).2.1 "[I") (.int (Int32.ofNat (24 + j)))) (.int ((pz_stn 3).2.2.2.getD (24 + j) 0))) := by decide +kernel
theorem flw_c3 : ∀ j, j < 12 → flw[29 + (36 + j)]? = some (Cond.eq (.elem (.static (pz_stn 3).1 (pz_stn 3).2.1 "[I") (.int (Int32.ofNat (36 + j)))) (.int ((pz_stn 3).2.2.2.getD (36 + j) 0))) := by decide +kernel
theorem flw_c4 : ∀ j, j < 12 → flw[29 + (48 + j)]? = some (Cond.eq (.elem (.static (pz_stn 3).1 (pz_stn 3).2.1 "[I") (.int (Int32.ofNat (48 + j)))) (.int ((pz_stn 3).2.2.2.getD (48 + j) 0))) := by decide +kernel
theorem flw_c5 : ∀ j, j < 12 → flw[29 + (60 + j)]? = some (Cond.eq (.elem (.static (pz_stn 3).1 (pz_stn 3).2.1 "[I") (.int (Int32.ofNat (60 + j)))) (.int ((pz_stn 3).2.2.2.getD (60 + j) 0))) := by decide +kernel
theorem flw_c6 : ∀ j, j < 12 → flw[29 + (72 + j)]? = some (Cond.eq (.elem (.static (pz_stn 3).1 (pz_stn 3).2.1 "[I") (.int (Int32.ofNat (72 + j)))) (.int ((pz_stn 3).2.2.2.getD (72 + j) 0))) := by decide +kernel
theorem flw_c7 : ∀ j, j < 12 → flw[29 + (84 + j)]? = some (Cond.eq (.elem (.static (pz_stn 3).1 (pz_stn 3).2.1 "[I") (.int (Int32.ofNat (84 + j)))) (.int ((pz_stn 3).2.2.2.getD (84 + j) 0))) := by decide +kernel
theorem flw_c8 : ∀ j, j < 12 → flw[29 + (96 + j)]? = some (Cond.eq (.elem (.static (pz_stn 3).1 (pz_stn 3).2.1 "[I") (.int (Int32.ofNat (96 + j)))) (.int ((pz_stn 3).2.2.2.getD (96 + j) 0))) := by decide +kernel
theorem flw_c9 : ∀ j, j < 12 → flw[29 + (108 + j)]? = some (Cond.eq (.elem (.static (pz_stn 3).1 (pz_stn 3).2.1 "[I") (.int (Int32.ofNat (108 + j)))) (.int ((pz_stn 3).2.2.2.getD (108 + j) 0))) := by decide +kernel
theorem flw_c10 : ∀ j, j < 12 → flw[29 + (120 + j)]? = some (Cond.eq (.elem (.static (pz_stn 3).1 (pz_stn 3).2.1 "[I") (.int (Int32.ofNat (120 + j)))) (.int ((pz_stn 3).2.2.2.getD (120 + j) 0))) := by decide +kernel
theorem flw_c11 : ∀ j, j < 12 → flw[29 + (132 + j)]? = some (Cond.eq (.elem (.static (pz_stn 3).1 (pz_stn 3).2.1 "[I") (.int (Int32.ofNat (132 + j)))) (.int ((pz_stn 3).2.2.2.getD (132 + j) 0))) := by decide +kernel
theorem flw_e3 : ∀ j, j < 144 → flw[29 + j]? = some (Cond.eq (.elem (.static (pz_stn 3).1 (pz_stn 3).2.1 "[I") (.int (Int32.ofNat j))) (.int ((pz_stn 3).2.2.2.getD j 0))) := by
  intro j hj
  by_cases g0 : j < 12
  · have h := flw_c0 (j - 0) (by omega)
    rw [show 0 + (j - 0) = j by omega] at h
    exact h
  by_cases g1 : j < 24
  · have h := flw_c1 (j - 12) (by omega)
    rw [show 12 + (j - 12) = j by omega] at h
    exact h
  by_cases g2 : j < 36
  · have h := flw_c2 (j - 24) (by omega)
    rw [show 24 + (j - 24) = j by omega] at h
    exact h
  by_cases g3 : j < 48
  · have h := flw_c3 (j - 36) (by omega)
    rw [show 36 + (j - 36) = j by omega] at h
    exact h
  by_cases g4 : j < 60
  · have h := flw_c4 (j - 48) (by omega)
    rw [show 48 + (j - 48) = j by omega] at h
    exact h
  by_cases g5 : j < 72
  · have h := flw_c5 (j - 60) (by omega)
    rw [show 60 + (j - 60) = j by omega] at h
    exact h
  by_cases g6 : j < 84
  · have h := flw_c6 (j - 72) (by omega)
    rw [show 72 + (j - 72) = j by omega] at h
    exact h
  by_cases g7 : j < 96
  · have h := flw_c7 (j - 84) (by omega)
    rw [show 84 + (j - 84) = j by omega] at h
    exact h
  by_cases g8 : j < 108
  · have h := flw_c8 (j - 96) (by omega)
    rw [show 96 + (j - 96) = j by omega] at h
    exact h
  by_cases g9 : j < 120
  · have h := flw_c9 (j - 108) (by omega)
    rw [show 108 + (j - 108) = j by omega] at h
    exact h
  by_cases g10 : j < 132
  · have h := flw_c10 (j - 120) (by omega)
    rw [show 120 + (j - 120) = j by omega] at h
    exact h
  by_cases g11 : j < 144
  · have h := flw_c11 (j - 132) (by omega)
    rw [show 132 + (j - 132) = j by omega] at h
    exact h
  omega
theorem flw_el : ∀ t, t < 4 → ∀ j, j < (pz_stn t).2.2.1 → Cond.eq (.elem (.static (pz_stn t).1 (pz_stn t).2.1 "[I") (.int (Int32.ofNat j))) (.int ((pz_stn t).2.2.2.getD j 0)) ∈ flw := by
  intro t ht
  rcases (show t = 0 ∨ t = 1 ∨ t = 2 ∨ t = 3 by omega) with rfl | rfl | rfl | rfl
  · exact fun j hj => List.mem_of_getElem? (flw_e0 j hj)
  · exact fun j hj => List.mem_of_getElem? (flw_e1 j hj)
  · exact fun j hj => List.mem_of_getElem? (flw_e2 j hj)
  · exact fun j hj => List.mem_of_getElem? (flw_e3 j hj)
theorem flw_st : ∀ t, t < 4 → Cond.laysStatic (pz_stn t).1 (pz_stn t).2.1 "[I" ∈ lw_tbl ∧ Cond.initialized (pz_stn t).1 ∈ lw_tbl ∧ (pz_stn t).2.2.1 < 2 ^ 31 := by decide +kernel
theorem flw_ex : ∀ i, i < 6 → Cond.exactly (.string RX3 (pz_txt i).1) "java/lang/String" ∈ flw ∧ Cond.eq (.field (.string RX3 (pz_txt i).1) "java/lang/String" "coder" "B") (.int 0) ∈ flw ∧ Cond.arrayOf (.field (.string RX3 (pz_txt i).1) "java/lang/String" "value" "[B") .byte ∈ flw ∧ Cond.eq (.length (.field (.string RX3 (pz_txt i).1) "java/lang/String" "value" "[B")) (.int (Int32.ofNat (pz_len.getD i 0))) ∈ flw ∧ pz_len.getD i 0 < 2 ^ 31 ∧ Cond.stringRef RX3 (pz_txt i).1 (pz_txt i).2 ∈ lw_tbl := by decide +kernel
theorem flw_se : ∀ i, i < 6 → ∀ j, j < pz_len.getD i 0 → Cond.eq (.elem (.field (.string RX3 (pz_txt i).1) "java/lang/String" "value" "[B") (.int (Int32.ofNat j))) (.int ((pz_byt.getD i []).getD j 0)) ∈ flw := by decide +kernel
theorem flw_ne : ∀ i, i < 6 → ∀ j, j < 6 → i ≠ j → Cond.not (Cond.eq (.string RX3 (pz_txt i).1) (.string RX3 (pz_txt j).1)) ∈ flw ∨ Cond.not (Cond.eq (.string RX3 (pz_txt j).1) (.string RX3 (pz_txt i).1)) ∈ flw := by decide +kernel
theorem flw_m : Cond.eq (.static "java/lang/String" "COMPACT_STRINGS" "Z") (.int 1) ∈ flw ∧ Cond.isRef (.static "jdk/internal/util/Preconditions" "SIOOBE_FORMATTER" "Ljava/util/function/BiFunction;") ∈ flw := by decide +kernel
theorem tbl_m : ∀ w ∈ ([Cond.laysStatic "java/lang/String" "COMPACT_STRINGS" "Z", Cond.initialized "java/lang/String", Cond.laysStatic "jdk/internal/util/Preconditions" "SIOOBE_FORMATTER" "Ljava/util/function/BiFunction;", Cond.initialized "jdk/internal/util/Preconditions", Cond.arrayClass .int, Cond.arrayClass .byte, Cond.arrayOver (.object RX6), Cond.arrayOver (.object RX4), Cond.arrayOver (.object RX5), Cond.instantiable RX1 2, Cond.instantiable RX3 8, Cond.instantiable RX4 3, Cond.instantiable RX5 5, Cond.instantiable RX6 4, Cond.instantiable RX7 14, Cond.instantiable RX8 2, Cond.instantiable RX9 12, Cond.instantiable RX10 33] : List Cond), w ∈ lw_tbl := by decide +kernel
theorem st_tab {args : Array Value} {s : State} {A : Nat → Prop} {C n : String} {N : Nat} {l : List Int32} (hA : ∀ a : Nat, a < s.heap.size → ¬ A a) (hN : N < 2 ^ 31) (hl : (Cond.laysStatic C n "[I").before args s = true) (hi : (Cond.initialized C).before args s = true) (harr : (Cond.arrayOf (.static C n "[I") .int).before args s = true) (hlen : (Cond.eq (.length (.static C n "[I")) (.int (Int32.ofNat N))).before args s = true) (hel : ∀ j, j < N → (Cond.eq (.elem (.static C n "[I") (.int (Int32.ofNat j))) (.int (l.getD j 0))).before args s = true) : ∃ t, va_Z C n "[I" (.ref t) A s s.heap ∧ va_T .int t N (fun j => .int (l.getD j 0)) A s s.heap := by
  obtain ⟨t, ht, hT⟩ := va_Tof (f := fun j => .int (l.getD j 0)) (A := A) hN harr (va_eqt hlen) (fun j hj => va_eqt (hel j hj)) hA
  exact ⟨t, va_Zof hl hi ht hA, hT⟩
theorem st_arrP {args : Array Value} {s : State} {ty : FieldType} (h : (Cond.arrayClass ty).before args s = true) : ∃ cA : ClassId, ArrOfT s cA ty ∧ s.vm.findClass ("[" ++ ty.toString) = some cA := by
  obtain ⟨cA, k, comp, h1, h2, h3⟩ := Cond.arrayClass_spec h
  exact ⟨cA, fun n z => ⟨fun k h => (by cases h), k, h2, comp, h3⟩, h1⟩
theorem st_arrO {args : Array Value} {s : State} {C : String} (h : (Cond.arrayOver (.object C)).before args s = true) : ∃ cA : ClassId, ArrOfT s cA (.object C) ∧ va_RA s cA (.object C) := by
  obtain ⟨comp, cA, k, h1, h2, h3, h4, h5⟩ := Cond.arrayOver_spec h
  exact ⟨cA, fun n z => ⟨fun k h => (by cases h), k, h3, comp, h4⟩, k, comp, h3, h4, h1, h5⟩
theorem vk_S_cg {N : Nat} {len : List Nat} {byt : List (List Int32)} {k v k' v' : Nat → Nat} {A : Nat → Prop} {U : State} {H : Heap} (hk : ∀ i, i < N → k' i = k i) (hv : ∀ i, i < N → v' i = v i) (h : vk_S N len byt k v A U H) : vk_S N len byt k' v' A U H := by
  refine ⟨fun i hi => ?_, fun i j hi hj e => ?_⟩
  · rw [hk i hi, hv i hi]; exact h.1 i hi
  · rw [hk i hi, hk j hj] at e; exact h.2 i j hi hj e
theorem st_world {s : State} {b L : Nat} {xs : Nat → Int32} (hts : ∀ w ∈ lw_tbl, w.before #[Value.ref b] s = true) (hgv : (Jvm.Cond.and given_1 narrow_1).before #[Value.ref b] s = true) (hX : va_X b L xs s s.heap) (hbl : b < s.heap.size) : ∃ E : pz_V, E.2.2.1 = s.heap.size ∧ va_K E.1 pz_cls (pz_tys E) s ∧ pz_SG E s s.heap ∧ pz_scr b L xs E s := by
  have hs : ∀ w ∈ flw, w.before #[Value.ref b] s = true := flat_of_before _ hgv
  have hA : ∀ a : Nat, a < s.heap.size → ¬ (fun q : Nat => s.heap.size ≤ q) a := fun a h => Nat.not_le.mpr h
  have hm := fun w hw => hts w (tbl_m w hw)
  -- the classes
  have hk : ∀ ci : Nat, ∃ x : ClassId × (Nat → Nat), ∀ q : vw_C, pz_cls[ci]? = some q → u_Kn s q.1 q.2.1 q.2.2 x.1 x.2 := by
    intro ci
    cases hq : pz_cls[ci]? with
    | none => exact ⟨(0, fun _ => 0), fun q h => by cases h⟩
    | some q =>
      have hin : ∀ w ∈ u_ws q.1 q.2.1 q.2.2, w ∈ lw_tbl := fun w hw => (List.mem_filter.mp ((pz_cok_all ci q hq).1 w hw)).1
      have hi : (Cond.instantiable q.1 q.2.2).before #[Value.ref b] s = true := by
        match ci, hq with
        | 0, h => cases h; exact hm _ (by simp)
        | 1, h => cases h; exact hm _ (by simp)
        | 2, h => cases h; exact hm _ (by simp)
        | 3, h => cases h; exact hm _ (by simp)
        | 4, h => cases h; exact hm _ (by simp)
        | 5, h => cases h; exact hm _ (by simp)
        | 6, h => cases h; exact hm _ (by simp)
        | 7, h => cases h; exact hm _ (by simp)
        | 8, h => cases h; exact hm _ (by simp)
        | n + 9, h => simp [pz_cls] at h
      obtain ⟨cC, iS, hK⟩ := u_known hts hin hi
      exact ⟨(cC, iS), fun q' h => by cases h; exact hK⟩
  obtain ⟨D, hD⟩ := Classical.axiomOfChoice hk
  -- the arrays' classes
  obtain ⟨c0, a0, n0⟩ := st_arrP (hm (Cond.arrayClass .int) (by simp))
  obtain ⟨c1, a1, n1⟩ := st_arrP (hm (Cond.arrayClass .byte) (by simp))
  obtain ⟨c2, a2, n2⟩ := st_arrO (hm (Cond.arrayOver (.object RX6)) (by simp))
  obtain ⟨c3, a3, n3⟩ := st_arrO (hm (Cond.arrayOver (.object RX4)) (by simp))
  obtain ⟨c4, a4, n4⟩ := st_arrO (hm (Cond.arrayOver (.object RX5)) (by simp))
  -- the static rows
  have ht : ∀ t : Nat, ∃ a : Nat, t < 4 → va_Z (pz_stn t).1 (pz_stn t).2.1 "[I" (.ref a) (fun q : Nat => s.heap.size ≤ q) s s.heap ∧ va_T .int a (pz_stn t).2.2.1 (fun j => .int ((pz_stn t).2.2.2.getD j 0)) (fun q : Nat => s.heap.size ≤ q) s s.heap := by
    intro t
    by_cases g : t < 4
    · obtain ⟨w1, w2, w3⟩ := flw_st t g
      obtain ⟨a, h⟩ := st_tab (args := #[Value.ref b]) (s := s) (l := (pz_stn t).2.2.2) hA w3 (hts _ w1) (hts _ w2) (hs _ (flw_arr t g).1) (hs _ (flw_arr t g).2) (fun j hj => hs _ (flw_el t g j hj))
      exact ⟨a, fun _ => h⟩
    · exact ⟨0, fun z => absurd z g⟩
  obtain ⟨T, hT⟩ := Classical.axiomOfChoice ht
  -- the texts
  obtain ⟨K, V, hS, hE⟩ := vk_Sof (args := #[Value.ref b]) (s := s) (N := 6) (tm := fun i => .string RX3 (pz_txt i).1) (len := pz_len) (byt := pz_byt) (A := fun q : Nat => s.heap.size ≤ q) (fun i hi => (flw_ex i hi).2.2.2.2.1) (fun i hi => hs _ (flw_ex i hi).1) (fun i hi => hs _ (flw_ex i hi).2.1) (fun i hi => hs _ (flw_ex i hi).2.2.1) (fun i hi => hs _ (flw_ex i hi).2.2.2.1) (fun i hi j hj => hs _ (flw_se i hi j hj)) (fun i j hi hj hne => (flw_ne i hi j hj hne).elim (fun z => Or.inl (hs _ z)) (fun z => Or.inr (hs _ z))) hA
  have hZc : va_Z "java/lang/String" "COMPACT_STRINGS" "Z" (.int 1) (fun q : Nat => s.heap.size ≤ q) s s.heap := va_Zof (hm _ (by simp)) (hm _ (by simp)) (va_eqi (hs _ flw_m.1)) hA
  have hZf := va_Zqof (args := #[Value.ref b]) (s := s) (C := "jdk/internal/util/Preconditions") (n := "SIOOBE_FORMATTER") (d := "Ljava/util/function/BiFunction;") (A := fun q : Nat => s.heap.size ≤ q) (hm _ (by simp)) (hm _ (by simp)) (hs _ flw_m.2) hA
  obtain ⟨f, hf⟩ : ∃ f : Nat, va_Z "jdk/internal/util/Preconditions" "SIOOBE_FORMATTER" "Ljava/util/function/BiFunction;" .null (fun q : Nat => s.heap.size ≤ q) s s.heap ∨ va_Z "jdk/internal/util/Preconditions" "SIOOBE_FORMATTER" "Ljava/util/function/BiFunction;" (.ref f) (fun q : Nat => s.heap.size ≤ q) s s.heap := by
    rcases hZf with z | ⟨t, z⟩
    · exact ⟨0, Or.inl z⟩
    · exact ⟨t, Or.inr z⟩
  refine ⟨((fun ci => (D ci).1, fun ci => (D ci).2), fun t => (match t with | 0 => c0 | 1 => c1 | 2 => c2 | 3 => c3 | _ => c4), s.heap.size, exw T K V b f), rfl, ⟨fun ci q hq => hD ci q hq, fun k q hq => ?_⟩, ⟨fun t g => ?_, fun w hw => ?_, ⟨?_, ?_, ?_⟩, hZc, ?_, ?_, fun i hi => ?_⟩, hX, hbl, exw_b (T := T) (K := K) (V := V) (b := b) (f := f)⟩
  · match k, hq with
    | 0, h => cases h; exact ⟨a0, n0⟩
    | 1, h => cases h; exact ⟨a1, n1⟩
    | 2, h => cases h; exact ⟨a2, n2⟩
    | 3, h => cases h; exact ⟨a3, n3⟩
    | 4, h => cases h; exact ⟨a4, n4⟩
    | n + 5, h => simp [pz_tys] at h
  · show va_Z _ _ "[I" (.ref (exw T K V b f (1000000 + t))) _ s s.heap ∧ va_T .int (exw T K V b f (1000000 + t)) _ _ _ s s.heap
    rw [exw_T g]
    exact hT t g
  · obtain ⟨h1, h2⟩ := List.mem_filter.mp hw
    have h3 := hts w h1
    cases w <;> first | (exact va_Nw.of rfl h3) | (exact absurd h2 (by simp [pz_isN]))
  · exact va_AO.of (hm (Cond.arrayOver (.object RX6)) (by simp))
  · exact va_AO.of (hm (Cond.arrayOver (.object RX4)) (by simp))
  · exact va_AO.of (hm (Cond.arrayOver (.object RX5)) (by simp))
  · show _ ∨ va_Z _ _ _ (.ref (exw T K V b f 1000040)) _ s s.heap
    rw [exw_f]
    exact hf
  · exact vk_S_cg (fun i hi => exw_K hi) (fun i hi => exw_V hi) hS
  · show vk_R RX3 (pz_txt i).1 (pz_txt i).2 (exw T K V b f (1000010 + i)) s
    rw [exw_K hi]
    exact vk_R.of (hts _ (flw_ex i hi).2.2.2.2.2) (hE i hi)
