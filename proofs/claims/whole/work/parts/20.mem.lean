/-! the memory of a run of the law: cells 0 .. 68 the pot's, 69 .. 89 the reference's, then the texts that were made -/
def qm (n o s : Nat) (t : Nat → Int32) : Nat → Int32 := fun j => if j < n then t (o + s * j) else 0
abbrev qA : Type := Nat → Nat → Int32
abbrev qF : Type := Nat → Int32
abbrev qX : Type := (Nat → Option Nat) × Nat × Nat × (Nat → Nat → Int32) × (Nat → Nat → Int32)
def qt_o (b : Nat) (t : Nat → Int32) : pz_E := .inr (.inr (5, [.ref (b + 1), .ref (b + 2), .ref (b + 3), .ref (b + 4), .ref (b + 5), .ref (b + 6), .ref (b + 7), .int (t 0), .int (t 3), .int (t 4), .int (t 2), .int (t 5), .int (t 1), .ref 1]))
def qt_h (t : Nat → Int32) : pz_E := .inl (0, 36, qm 36 10 1 t)
def qt_w (t : Nat → Int32) : pz_E := .inl (0, 36, qm 36 46 1 t)
def qt_p (t : Nat → Int32) : pz_E := .inl (0, 36, qm 36 82 1 t)
def qt_k (t : Nat → Int32) : pz_E := .inl (0, 8, qm 8 118 3 t)
def qt_l (t : Nat → Int32) : pz_E := .inl (0, 8, qm 8 119 3 t)
def qt_a (t : Nat → Int32) : pz_E := .inl (0, 8, qm 8 120 3 t)
def qt_r (t : Nat → Int32) : pz_E := .inl (0, 4, qm 4 6 1 t)
def qs_o (F : qF) (a b c : Nat) : pz_E := .inr (.inr (2, [.ref a, .int (F b), .int (F c)]))
def ql_o (F : qF) (r j : Nat) : pz_E := .inr (.inr (3, [.int (F (20 + j)), .int (F (25 + j)), .int (F (30 + j)), .int (F (35 + j)), .ref r]))
def qx_o (X : qX) (i c : Nat) : pz_E := .inr (.inr (4, [.ref c, .int (X.2.2.2.2 i 0), .int (X.2.2.2.2 i 1), .int (X.2.2.2.2 i 2)]))
def qx_c (X : qX) (i : Nat) : pz_E := .inl (0, 96, X.2.2.2.1 i)
def qx_t (X : qX) : Nat → Nat → pz_M
  | 0, _ => []
  | n + 1, i => qx_o X i (89 + 2 * i) :: qx_c X i :: qx_t X n (i + 1)
def qi (n : Nat) (f : Nat → Int32) : pz_E := .inl (0, n, f)
def mem (A : qA) (F : qF) (X : qX) : pz_M := [
  .inr (.inr (7, [.ref 1, .ref 4, .ref 12, .ref 20, .ref 28, .ref 36, .ref 40, .ref 43, .ref 44, .ref 45, .int (F 0), .int (F 1)])),
  .inr (.inr (0, [.ref 2, .ref 3])), .inr (.inl (2, 14, X.1)), qi 96 (A 4),
  qt_o 4 (A 0), qt_h (A 0), qt_w (A 0), qt_p (A 0), qt_k (A 0), qt_l (A 0), qt_a (A 0), qt_r (A 0),
  qt_o 12 (A 1), qt_h (A 1), qt_w (A 1), qt_p (A 1), qt_k (A 1), qt_l (A 1), qt_a (A 1), qt_r (A 1),
  qt_o 20 (A 2), qt_h (A 2), qt_w (A 2), qt_p (A 2), qt_k (A 2), qt_l (A 2), qt_a (A 2), qt_r (A 2),
  qt_o 28 (A 3), qt_h (A 3), qt_w (A 3), qt_p (A 3), qt_k (A 3), qt_l (A 3), qt_a (A 3), qt_r (A 3),
  .inr (.inr (1, [.ref X.2.1, .int (F 2), .ref 39, .int (F 3), .int (F 4), .int (F 5), .int (F 6), .int (F 7)])), qx_o X 0 38, qx_c X 0, .inl (1, 96, A 5),
  .inr (.inr (6, [.ref 41, .ref 42])), qi 36 (A 6), qi 36 (A 7),
  .inr (.inl (3, 4, fun i => match i with | 0 => some 46 | 1 => some 48 | 2 => some 50 | 3 => some 52 | _ => none)), .inr (.inl (4, 5, fun i => match i with | 0 => some 54 | 1 => some 57 | 2 => some 60 | 3 => some 63 | 4 => some 66 | _ => none)), qi 60 (A 8),
  qs_o F 47 10 14, qi 24 (A 10), qs_o F 49 11 15, qi 24 (A 11), qs_o F 51 12 16, qi 24 (A 12), qs_o F 53 13 17, qi 24 (A 13),
  ql_o F 55 0, qs_o F 56 40 45, qi 24 (A 14), ql_o F 58 1, qs_o F 59 41 46, qi 24 (A 15), ql_o F 61 2, qs_o F 62 42 47, qi 24 (A 16), ql_o F 64 3, qs_o F 65 43 48, qi 24 (A 17), ql_o F 67 4, qs_o F 68 44 49, qi 24 (A 18),
  .inr (.inr (8, [.ref 70, .ref 71, .ref 72, .int (F 60), .ref 73, .ref 74, .ref 75, .ref 76, .ref 77, .ref 78, .ref 79, .ref 80, .ref 81, .ref 82, .ref 83, .ref 84, .int (F 61), .int (F 62), .int (F 63), .int (F 64), .int (F 65), .int (F 66), .int (F 67), .int (F 68), .int (F 69), .int (F 70), .int (F 71), .ref 85, .ref 86, .ref 87, .ref 88, .int (F 72), .ref 89])),
  qi 3142 (A 20), qi 3142 (A 21), qi 3142 (A 22), qi 4 (A 23), qi 4 (A 24), qi 96 (A 25), qi 5 (A 26), qi 5 (A 27), qi 5 (A 28), qi 5 (A 29), qi 120 (A 30), qi 36 (A 31), qi 36 (A 32), qi 142 (A 33), qi 96 (A 34), qi 128 (A 35), qi 100 (A 36), qi 24 (A 37), qi 60 (A 38), qi 60 (A 39)] ++ qx_t X X.2.2.1 1
