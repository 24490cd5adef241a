/-! The pure machine: memory is a list of cells; a reference is a cell's place in it (from 1000000 on: what lies outside: static rows, texts). Cell number i lies at the address B + i. -/
def pz_TB : List Cond := lw_tbl.filter goodWord
theorem pz_good : GoodIn pz_TB pz_TB := fun w h => ⟨h, good_of_word (List.mem_filter.mp h).2⟩
theorem pz_in {w : Cond} (h : (decide (w ∈ lw_tbl) && goodWord w) = true) : w ∈ pz_TB := by
  simp only [Bool.and_eq_true, decide_eq_true_eq] at h
  exact List.mem_filter.mpr h
theorem pz_goodC {w : Cond} (h : w ∈ pz_TB) : GoodIn pz_TB (w :: pz_TB) := fun z hz => by
  rcases List.mem_cons.mp hz with rfl | hz
  · exact pz_good _ h
  · exact pz_good _ hz
abbrev pz_E : Type := (Nat × Nat × (Nat → Int32)) ⊕ (Nat × Nat × (Nat → Option Nat)) ⊕ (Nat × List Value)
abbrev pz_M : Type := List pz_E
abbrev pz_V : Type := va_G × (Nat → ClassId) × Nat × (Nat → Nat)
def pz_x (E : pz_V) (i : Nat) : Nat := if i < 1000000 then E.2.2.1 + i else E.2.2.2 i
def pz_v (E : pz_V) (v : Value) : Value := match v with
  | .ref i => .ref (pz_x E i)
  | v => v
def pz_e (E : pz_V) (c : pz_E) : va_E := match c with
  | .inl a => .inl (E.2.1 a.1, a.2.1, .inl a.2.2)
  | .inr (.inl a) => .inl (E.2.1 a.1, a.2.1, .inr (.inr (.inr (.inr (fun j => (a.2.2 j).map (pz_x E))))))
  | .inr (.inr o) => .inr (o.1, o.2.map (pz_v E))
def pz_cls : List vw_C := [(RX1, TX1, 2), (RX3, TX3, 8), (RX4, TX4, 3), (RX5, TX5, 5), (RX6, TX6, 4), (RX7, TX7, 14), (RX8, TX8, 2), (RX9, TX9, 12), (RX10, TX10, 33)]
def pz_tys (E : pz_V) : List (ClassId × FieldType) := [(E.2.1 0, .int), (E.2.1 1, .byte), (E.2.1 2, .object RX6), (E.2.1 3, .object RX4), (E.2.1 4, .object RX5)]
def pz_A (E : pz_V) : Nat → Prop := fun q => E.2.2.1 ≤ q
/-- the heap holds the memory -/
def pz_W (E : pz_V) (M : pz_M) (H : Heap) : Prop := H.size = E.2.2.1 + M.length ∧ M.length ≤ 1000000 ∧ ∀ (i : Nat) (c : pz_E), M[i]? = some c → va_at E.1 pz_cls (E.2.2.1 + i, pz_e E c) H
/-! what lies outside -/
def pz_stn (t : Nat) : String × String × Nat × List Int32 := match t with
  | 0 => ("LittlePot", "RULE_MOST", 4, [9, 99, 9, 100])
  | 1 => ("LittlePot", "LAID_MOST", 3, [20, 20, 999])
  | 2 => ("LittlePot$Kinds", "ABOVE", 6, [-1, 0, 0, 1, 2, 0])
  | _ => ("LittlePot$Near", "CELL", 144, [1, -1, 6, -1, 2, 0, 7, -1, 3, 1, 8, -1, 4, 2, 9, -1, 5, 3, 10, -1, -1, 4, 11, -1, 7, -1, 12, 0, 8, 6, 13, 1, 9, 7, 14, 2, 10, 8, 15, 3, 11, 9, 16, 4, -1, 10, 17, 5, 13, -1, 18, 6, 14, 12, 19, 7, 15, 13, 20, 8, 16, 14, 21, 9, 17, 15, 22, 10, -1, 16, 23, 11, 19, -1, 24, 12, 20, 18, 25, 13, 21, 19, 26, 14, 22, 20, 27, 15, 23, 21, 28, 16, -1, 22, 29, 17, 25, -1, 30, 18, 26, 24, 31, 19, 27, 25, 32, 20, 28, 26, 33, 21, 29, 27, 34, 22, -1, 28, 35, 23, 31, -1, -1, 24, 32, 30, -1, 25, 33, 31, -1, 26, 34, 32, -1, 27, 35, 33, -1, 28, -1, 34, -1, 29])
def pz_isN : Cond → Bool
  | .fieldLinkNest _ _ _ _ _ _ => true
  | .methodLinkNest _ _ _ _ => true
  | _ => false
def pz_nw : List Cond := lw_tbl.filter pz_isN
def pz_txt (i : Nat) : Nat × String := match i with
  | 0 => (67, "boil")
  | 1 => (75, "fee")
  | 2 => (77, "fine")
  | 3 => (90, "btp")
  | 4 => (92, "ap")
  | _ => (94, "ac")
def pz_len : List Nat := [4, 3, 4, 3, 2, 2]
def pz_byt : List (List Int32) := [[98, 111, 105, 108], [102, 101, 101], [102, 105, 110, 101], [98, 116, 112], [97, 112], [97, 99]]
def pz_SG (E : pz_V) (U : State) (H : Heap) : Prop :=
  (∀ t, t < 4 → va_Z (pz_stn t).1 (pz_stn t).2.1 "[I" (.ref (E.2.2.2 (1000000 + t))) (pz_A E) U H ∧ va_T .int (E.2.2.2 (1000000 + t)) (pz_stn t).2.2.1 (fun j => .int ((pz_stn t).2.2.2.getD j 0)) (pz_A E) U H) ∧
  (∀ w ∈ pz_nw, va_Nw w U) ∧ (va_AO RX6 U ∧ va_AO RX4 U ∧ va_AO RX5 U) ∧
  va_Z "java/lang/String" "COMPACT_STRINGS" "Z" (.int 1) (pz_A E) U H ∧ (va_Z "jdk/internal/util/Preconditions" "SIOOBE_FORMATTER" "Ljava/util/function/BiFunction;" .null (pz_A E) U H ∨ va_Z "jdk/internal/util/Preconditions" "SIOOBE_FORMATTER" "Ljava/util/function/BiFunction;" (.ref (E.2.2.2 1000040)) (pz_A E) U H) ∧
  vk_S 6 pz_len pz_byt (fun i => E.2.2.2 (1000010 + i)) (fun i => E.2.2.2 (1000020 + i)) (pz_A E) U H ∧ ∀ i, i < 6 → vk_R RX3 (pz_txt i).1 (pz_txt i).2 (E.2.2.2 (1000010 + i)) U
theorem pz_Nw_warm {s U : State} (hW : s.WarmedH U.vm) {w : Cond} (hn : pz_isN w = true) (h : va_Nw w s) : va_Nw w U := by
  cases w <;> first | (exact va_Nw.warmF hW h) | (exact va_Nw.warmM hW h) | (exact absurd hn (by simp [pz_isN]))
theorem pz_Nw_same {u U : State} (hv : u.vm = U.vm) {w : Cond} (hn : pz_isN w = true) (h : va_Nw w u) : va_Nw w U := by
  cases w <;> first | (exact va_Nw.same rfl hv h) | (exact absurd hn (by simp [pz_isN]))
theorem pz_SG.kept {E : pz_V} {U : State} {H H' : Heap} (h : pz_SG E U H) (hk : ∀ q, q < E.2.2.1 → H'[q]? = H[q]?) : pz_SG E U H' := by
  have hq : ∀ a : Nat, a < H.size → ¬ pz_A E a → H'[a]? = H[a]? := fun a _ ha => hk a (Nat.not_le.mp ha)
  obtain ⟨h1, h2, h3, h4, h5, h6, h7⟩ := h
  exact ⟨fun t ht => ⟨(h1 t ht).1.kept hq, (h1 t ht).2.kept hq⟩, h2, h3, h4.kept hq, h5.elim (fun z => Or.inl (z.kept hq)) (fun z => Or.inr (z.kept hq)), h6.kept hq, h7⟩
theorem pz_SG.warm {E : pz_V} {s U : State} {H : Heap} (hW : s.WarmedH U.vm) (h : pz_SG E s H) : pz_SG E U H := by
  obtain ⟨h1, h2, h3, h4, h5, h6, h7⟩ := h
  have hvm := hW.alike
  exact ⟨fun t ht => ⟨(h1 t ht).1.moved hvm, (h1 t ht).2.moved hvm⟩, fun w hw => pz_Nw_warm hW (List.mem_filter.mp hw).2 (h2 w hw), ⟨h3.1.moved hvm, h3.2.1.moved hvm, h3.2.2.moved hvm⟩, h4.moved hvm, h5.elim (fun z => Or.inl (z.moved hvm)) (fun z => Or.inr (z.moved hvm)), h6.moved hvm, fun i hi => (h7 i hi).warm hW⟩
theorem pz_SG.same {E : pz_V} {u U : State} {H : Heap} (hv : u.vm = U.vm) (h : pz_SG E u H) : pz_SG E U H := by
  obtain ⟨h1, h2, h3, h4, h5, h6, h7⟩ := h
  have hvm : u.vm.Alike U.vm := hv ▸ Vm.Alike.refl u.vm
  exact ⟨fun t ht => ⟨(h1 t ht).1.moved hvm, (h1 t ht).2.moved hvm⟩, fun w hw => pz_Nw_same hv (List.mem_filter.mp hw).2 (h2 w hw), ⟨h3.1.moved hvm, h3.2.1.moved hvm, h3.2.2.moved hvm⟩, h4.moved hvm, h5.elim (fun z => Or.inl (z.moved hvm)) (fun z => Or.inr (z.moved hvm)), h6.moved hvm, fun i hi => (h7 i hi).same hv.symm⟩
/-! a method: (own class, bytes, locals, depth, its name, cells, slots, what it returns) -/
abbrev pz_K : Type := String × ByteArray × Nat × Nat × String × Nat × Nat × Option FieldType
abbrev pz_own (κ : pz_K) : String := κ.1
abbrev pz_cc (κ : pz_K) : ByteArray := κ.2.1
abbrev pz_nL (κ : pz_K) : Nat := κ.2.2.1
abbrev pz_d (κ : pz_K) : Nat := κ.2.2.2.1
abbrev pz_nm (κ : pz_K) : String := κ.2.2.2.2.1
abbrev pz_mc (κ : pz_K) : Nat := κ.2.2.2.2.2.1
abbrev pz_ms (κ : pz_K) : Nat := κ.2.2.2.2.2.2.1
abbrev pz_rt (κ : pz_K) : Option FieldType := κ.2.2.2.2.2.2.2
abbrev pz_L : Type := List (Option Value)
abbrev pz_Q : Type := Option Value → pz_M → Prop
def pz_Cx (φ : pz_V → State → Prop) (κ : pz_K) (E : pz_V) (p : Program) (R : Room) (s : State) (m : MethodId) (args : Array Value) (meth : Method) (c : Code) : Prop :=
  p.tables.exec = Jvm.exec ∧ c.code = pz_cc κ ∧ c.maxLocals = pz_nL κ ∧ s.vm.findClass (pz_own κ) = some m.cls ∧ (∀ w ∈ pz_TB, w.before args s = true) ∧ meth.name = pz_nm κ ∧ pz_d κ ≤ R.frames ∧ 40 * pz_d κ ≤ R.locals ∧ R.cells = pz_mc κ ∧ R.slots = pz_ms κ ∧ va_K E.1 pz_cls (pz_tys E) s ∧ pz_SG E s s.heap ∧ E.2.2.1 ≤ s.heap.size ∧ φ E s
def pz_ls (E : pz_V) (L : pz_L) (nL : Nat) (ls : Array Slot) : Prop := L.length = nL ∧ ls.size = nL ∧ lv_wf ls ∧ ∀ (i : Nat) (v : Value), L[i]? = some (some v) → ls[i]? = some (.val (pz_v E v))
def pz_rv (ret : Option FieldType) (ins : Instr) (v : Option Value) : Prop := match ins, v with
  | .ireturn, some (.int x) => ∃ ty, ret = some ty ∧ narrow ty (.int x) = .int x
  | .areturn, some (.ref _) => (∃ n, ret = some (.object n)) ∨ ∃ t, ret = some (.array t)
  | .areturn, some .null => (∃ n, ret = some (.object n)) ∨ ∃ t, ret = some (.array t)
  | .return_, none => ret = none
  | _, _ => False
/-- from here the method comes to its end, with Q of what it answers and of the memory -/
def pz_T (φ : pz_V → State → Prop) (κ : pz_K) (Q : pz_Q) (pc : Nat) (u : Nat × Nat) (L : pz_L) (S : List Value) (M : pz_M) : Prop :=
  ∀ (E : pz_V) (p : Program) (l : Launch) (e : Env) (R : Room) (s : State) (m : MethodId) (args : Array Value) (below : List Frame) (meth : Method) (c : Code) (H : Heap) (locs : List Loc) (ls : Array Slot) (P : State → Prop),
    pz_Cx φ κ E p R s m args meth c → u.1 ≤ pz_mc κ → u.2 ≤ pz_ms κ → pz_W E M H → va_S (pz_A E) s.heap H locs → pz_ls E L (pz_nL κ) ls →
    (∀ (pc' : Nat) (H' : Heap) (locs' : List Loc) (ls' : Array Slot) (M' : pz_M) (v : Option Value) (ins : Instr), decode (pz_cc κ) pc' = .ok (ins, 1) → pz_rv (pz_rt κ) ins v → Q v M' → pz_W E M' H' → va_S (pz_A E) s.heap H' locs' →
      W p l e R s m args below meth c H' locs' (pz_mc κ) (pz_ms κ) P (F0 m pc' ls' ((v.map (pz_v E)).toList))) →
    W p l e R s m args below meth c H locs u.1 u.2 P (F0 m pc ls (S.map (pz_v E)))
/-- a method's contract: (name, own class .. what it returns) from these arguments and this memory -/
def pz_Pc (E : pz_V) (av : List Value) (M : pz_M) : Array Value → State → Prop := va_Pc (av.map (pz_v E)) (fun U => pz_W E M U.heap ∧ va_K E.1 pz_cls (pz_tys E) U ∧ pz_SG E U U.heap)
def pz_Qc (E : pz_V) (Q : pz_Q) : Array Value → State → Outcome → State → Prop := fun _ st o t => ∃ (v : Option Value) (M' : pz_M), o = .returned (v.map (pz_v E)) ∧ Q v M' ∧ pz_W E M' t.heap ∧ st.heap.size ≤ t.heap.size ∧ ∀ q, q < E.2.2.1 → t.heap[q]? = st.heap[q]?
def pz_rm (κ : pz_K) : Room := { frames := pz_d κ, cells := pz_mc κ, slots := pz_ms κ, locals := 40 * pz_d κ }
def pz_C (y : MethodName) (κ : pz_K) (av : List Value) (M : pz_M) (Q : pz_Q) : Prop :=
  ∀ (l : Launch) (E : pz_V), Met l y (.code y (pz_cc κ) (pz_nL κ) (pz_rt κ) :: pz_TB) (pz_rm κ) (pz_Pc E av M) (pz_Qc E Q) (pz_mc κ) (pz_ms κ) (pz_A E)
/-- the locals at a method's start -/
def pz_L0 : List Value → Nat → pz_L
  | _, 0 => []
  | [], n + 1 => none :: pz_L0 [] n
  | .long x :: vs, n + 1 => some (.long x) :: (match n with
    | 0 => []
    | k + 1 => none :: pz_L0 vs k)
  | .double _ :: _, n + 1 => none :: pz_L0 [] n
  | v :: vs, n + 1 => some v :: pz_L0 vs n
theorem pz_blind (E : pz_V) (av : List Value) (M : pz_M) : FrameBlind (pz_Pc E av M) := by
  intro a U g mk h
  obtain ⟨h1, h2, h3, h4⟩ := h
  exact ⟨h1, h2, va_K.moved (u := U) (U := U.calling g mk a) (Vm.Alike.refl U.vm) h3, pz_SG.same (u := U) rfl h4⟩
