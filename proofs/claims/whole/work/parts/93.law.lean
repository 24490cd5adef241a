/-! the law's loop -/
theorem pz_T_swp {φ : pz_V → State → Prop} {κ : pz_K} {Q : pz_Q} {M : pz_M} {pc : Nat} {cs : List (Int32 × Nat)} {d : Nat} (hS : pz_Sp φ κ pc (pz_sw cs d)) {u : Nat × Nat} {L : pz_L} {S : List Value} {x : Int32} (h : pz_T φ κ Q (pz_tgt x cs d) u L S M) : pz_T φ κ Q pc u L (.int x :: S) M := hS Q (fun pc u L S M => pz_T φ κ Q pc u L S M) u L _ M (pz_swc_of h) (fun _ _ _ _ _ z => z)
def ltab : List (Int32 × Nat) := [(0, 216), (1, 249), (2, 282), (3, 315), (4, 358), (5, 391), (6, 424), (7, 457), (8, 480), (9, 503), (10, 536), (11, 559), (12, 582), (13, 605), (14, 628), (15, 671), (16, 704), (17, 727), (18, 760), (19, 803), (20, 836), (21, 879), (22, 892), (23, 915), (24, 958), (25, 981), (26, 994), (27, 1027), (28, 1050), (29, 1093), (30, 1136), (31, 1159), (32, 1182), (33, 1245), (34, 1288), (35, 1321), (36, 1354), (37, 1387), (38, 1410), (39, 1433), (40, 1446), (41, 1459)]
def ltg : List Nat := [216, 249, 282, 315, 358, 391, 424, 457, 480, 503, 536, 559, 582, 605, 628, 671, 704, 727, 760, 803, 836, 879, 892, 915, 958, 981, 994, 1027, 1050, 1093, 1136, 1159, 1182, 1245, 1288, 1321, 1354, 1387, 1410, 1433, 1446, 1459]
theorem ltab_at : ∀ q, q < 64 → pz_tgt (nI q) ltab 1482 = ltg.getD q 1482 := by decide +kernel
theorem ltg_o : ∀ q, q < 64 → 42 ≤ q → ltg.getD q 1482 = 1482 := by decide
abbrev lL (c : Nat) : pz_L := [some (.ref 1000030), some (.ref 0), some (.ref 69), some (.int (nI (6 * c)))]
theorem l_in {c j sN : Nat} {x : Int32} (hj : j < 6) (hx : x = nI j) (h : 6 * c + 6 ≤ sN) (hN : sN ≤ 3072) : vp_in (nI (6 * c) + x) sN := by
  rw [hx, nI_add]
  exact vp_in_nI (by omega) (by omega)
section LAW
variable {b sN c : Nat} {xs : Nat → Int32} {A : qA} {F : qF} {X : qX} {Q : pz_Q} {u : Nat × Nat}
set_option maxRecDepth 8000 in
theorem tL_eater (hN : sN ≤ 3072) (hc : c < 512) (hi : 6 * c + 6 ≤ sN) (hI : Inv c A F X) (hk : ∀ (A2 : qA) (F2 : qF) (X2 : qX), Inv (c + 1) A2 F2 X2 → pz_T (pz_scr b sN xs) KL_law Q 1482 u (lL c) [] (mem A2 F2 X2)) : pz_T (pz_scr b sN xs) KL_law Q 216 u (lL c) [] (mem A F X) := by
  refine pz_wp_okp (pz_Ip_ok (SL_1 b sN xs)) [1482] 100 ?_
  refine ⟨l_in (j := 1) (by omega) rfl hi hN, ?_⟩
  refine ⟨l_in (j := 2) (by omega) rfl hi hN, ?_⟩
  refine J_eater hc hI _ (fun v A1 F1 X1 H => ?_)
  refine ⟨l_in (j := 1) (by omega) rfl hi hN, ?_⟩
  refine ⟨l_in (j := 2) (by omega) rfl hi hN, ?_⟩
  refine H _ (fun A2 F2 X2 hI2 => ?_)
  exact br1 (fun z => z rfl) (hk A2 F2 X2 hI2)
set_option maxRecDepth 8000 in
theorem tL_told (hN : sN ≤ 3072) (hc : c < 512) (hi : 6 * c + 6 ≤ sN) (hI : Inv c A F X) (hk : ∀ (A2 : qA) (F2 : qF) (X2 : qX), Inv (c + 1) A2 F2 X2 → pz_T (pz_scr b sN xs) KL_law Q 1482 u (lL c) [] (mem A2 F2 X2)) : pz_T (pz_scr b sN xs) KL_law Q 249 u (lL c) [] (mem A F X) := by
  refine pz_wp_okp (pz_Ip_ok (SL_2 b sN xs)) [1482] 100 ?_
  refine ⟨l_in (j := 1) (by omega) rfl hi hN, ?_⟩
  refine ⟨l_in (j := 2) (by omega) rfl hi hN, ?_⟩
  refine J_told hc hI _ (fun v A1 F1 X1 H => ?_)
  refine ⟨l_in (j := 1) (by omega) rfl hi hN, ?_⟩
  refine ⟨l_in (j := 2) (by omega) rfl hi hN, ?_⟩
  refine H _ (fun A2 F2 X2 hI2 => ?_)
  exact br1 (fun z => z rfl) (hk A2 F2 X2 hI2)
set_option maxRecDepth 8000 in
theorem tL_cell (hN : sN ≤ 3072) (hc : c < 512) (hi : 6 * c + 6 ≤ sN) (hI : Inv c A F X) (hk : ∀ (A2 : qA) (F2 : qF) (X2 : qX), Inv (c + 1) A2 F2 X2 → pz_T (pz_scr b sN xs) KL_law Q 1482 u (lL c) [] (mem A2 F2 X2)) : pz_T (pz_scr b sN xs) KL_law Q 282 u (lL c) [] (mem A F X) := by
  refine pz_wp_okp (pz_Ip_ok (SL_3 b sN xs)) [1482] 100 ?_
  refine ⟨l_in (j := 1) (by omega) rfl hi hN, ?_⟩
  refine ⟨l_in (j := 2) (by omega) rfl hi hN, ?_⟩
  refine J_cell hc hI _ (fun v A1 F1 X1 H => ?_)
  refine ⟨l_in (j := 1) (by omega) rfl hi hN, ?_⟩
  refine ⟨l_in (j := 2) (by omega) rfl hi hN, ?_⟩
  refine H _ (fun A2 F2 X2 hI2 => ?_)
  exact br1 (fun z => z rfl) (hk A2 F2 X2 hI2)
set_option maxRecDepth 8000 in
theorem tL_lays (hN : sN ≤ 3072) (hc : c < 512) (hi : 6 * c + 6 ≤ sN) (hI : Inv c A F X) (hk : ∀ (A2 : qA) (F2 : qF) (X2 : qX), Inv (c + 1) A2 F2 X2 → pz_T (pz_scr b sN xs) KL_law Q 1482 u (lL c) [] (mem A2 F2 X2)) : pz_T (pz_scr b sN xs) KL_law Q 315 u (lL c) [] (mem A F X) := by
  refine pz_wp_okp (pz_Ip_ok (SL_4 b sN xs)) [1482] 100 ?_
  refine ⟨l_in (j := 1) (by omega) rfl hi hN, ?_⟩
  refine ⟨l_in (j := 2) (by omega) rfl hi hN, ?_⟩
  refine ⟨l_in (j := 3) (by omega) rfl hi hN, ?_⟩
  refine J_lays hc hI _ (fun v A1 F1 X1 H => ?_)
  refine ⟨l_in (j := 1) (by omega) rfl hi hN, ?_⟩
  refine ⟨l_in (j := 2) (by omega) rfl hi hN, ?_⟩
  refine ⟨l_in (j := 3) (by omega) rfl hi hN, ?_⟩
  refine H _ (fun A2 F2 X2 hI2 => ?_)
  exact br1 (fun z => z rfl) (hk A2 F2 X2 hI2)
set_option maxRecDepth 8000 in
theorem tL_as (hN : sN ≤ 3072) (hc : c < 512) (hi : 6 * c + 6 ≤ sN) (hI : Inv c A F X) (hk : ∀ (A2 : qA) (F2 : qF) (X2 : qX), Inv (c + 1) A2 F2 X2 → pz_T (pz_scr b sN xs) KL_law Q 1482 u (lL c) [] (mem A2 F2 X2)) : pz_T (pz_scr b sN xs) KL_law Q 358 u (lL c) [] (mem A F X) := by
  refine pz_wp_okp (pz_Ip_ok (SL_5 b sN xs)) [1482] 100 ?_
  refine ⟨l_in (j := 1) (by omega) rfl hi hN, ?_⟩
  refine ⟨l_in (j := 2) (by omega) rfl hi hN, ?_⟩
  refine J_as hc hI _ (fun v A1 F1 X1 H => ?_)
  refine ⟨l_in (j := 1) (by omega) rfl hi hN, ?_⟩
  refine ⟨l_in (j := 2) (by omega) rfl hi hN, ?_⟩
  refine H _ (fun A2 F2 X2 hI2 => ?_)
  exact br1 (fun z => z rfl) (hk A2 F2 X2 hI2)
set_option maxRecDepth 8000 in
theorem tL_turns (hN : sN ≤ 3072) (hc : c < 512) (hi : 6 * c + 6 ≤ sN) (hI : Inv c A F X) (hk : ∀ (A2 : qA) (F2 : qF) (X2 : qX), Inv (c + 1) A2 F2 X2 → pz_T (pz_scr b sN xs) KL_law Q 1482 u (lL c) [] (mem A2 F2 X2)) : pz_T (pz_scr b sN xs) KL_law Q 391 u (lL c) [] (mem A F X) := by
  refine pz_wp_okp (pz_Ip_ok (SL_6 b sN xs)) [1482] 100 ?_
  refine ⟨l_in (j := 1) (by omega) rfl hi hN, ?_⟩
  refine ⟨l_in (j := 2) (by omega) rfl hi hN, ?_⟩
  refine J_turns hc hI _ (fun v A1 F1 X1 H => ?_)
  refine ⟨l_in (j := 1) (by omega) rfl hi hN, ?_⟩
  refine ⟨l_in (j := 2) (by omega) rfl hi hN, ?_⟩
  refine H _ (fun A2 F2 X2 hI2 => ?_)
  exact br1 (fun z => z rfl) (hk A2 F2 X2 hI2)
set_option maxRecDepth 8000 in
theorem tL_sends (hN : sN ≤ 3072) (hc : c < 512) (hi : 6 * c + 6 ≤ sN) (hI : Inv c A F X) (hk : ∀ (A2 : qA) (F2 : qF) (X2 : qX), Inv (c + 1) A2 F2 X2 → pz_T (pz_scr b sN xs) KL_law Q 1482 u (lL c) [] (mem A2 F2 X2)) : pz_T (pz_scr b sN xs) KL_law Q 424 u (lL c) [] (mem A F X) := by
  refine pz_wp_okp (pz_Ip_ok (SL_7 b sN xs)) [1482] 100 ?_
  refine ⟨l_in (j := 1) (by omega) rfl hi hN, ?_⟩
  refine ⟨l_in (j := 2) (by omega) rfl hi hN, ?_⟩
  refine J_sends hc hI _ (fun v A1 F1 X1 H => ?_)
  refine ⟨l_in (j := 1) (by omega) rfl hi hN, ?_⟩
  refine ⟨l_in (j := 2) (by omega) rfl hi hN, ?_⟩
  refine H _ (fun A2 F2 X2 hI2 => ?_)
  exact br1 (fun z => z rfl) (hk A2 F2 X2 hI2)
set_option maxRecDepth 8000 in
theorem tL_cook (hN : sN ≤ 3072) (hc : c < 512) (hi : 6 * c + 6 ≤ sN) (hI : Inv c A F X) (hk : ∀ (A2 : qA) (F2 : qF) (X2 : qX), Inv (c + 1) A2 F2 X2 → pz_T (pz_scr b sN xs) KL_law Q 1482 u (lL c) [] (mem A2 F2 X2)) : pz_T (pz_scr b sN xs) KL_law Q 457 u (lL c) [] (mem A F X) := by
  refine pz_wp_okp (pz_Ip_ok (SL_8 b sN xs)) [1482] 100 ?_
  refine ⟨l_in (j := 1) (by omega) rfl hi hN, ?_⟩
  refine J_cook hc hI _ (fun v A1 F1 X1 H => ?_)
  refine ⟨l_in (j := 1) (by omega) rfl hi hN, ?_⟩
  refine H _ (fun A2 F2 X2 hI2 => ?_)
  exact br1 (fun z => z rfl) (hk A2 F2 X2 hI2)
set_option maxRecDepth 8000 in
theorem tL_say (hN : sN ≤ 3072) (hc : c < 512) (hi : 6 * c + 6 ≤ sN) (hI : Inv c A F X) (hk : ∀ (A2 : qA) (F2 : qF) (X2 : qX), Inv (c + 1) A2 F2 X2 → pz_T (pz_scr b sN xs) KL_law Q 1482 u (lL c) [] (mem A2 F2 X2)) : pz_T (pz_scr b sN xs) KL_law Q 480 u (lL c) [] (mem A F X) := by
  refine pz_wp_okp (pz_Ip_ok (SL_9 b sN xs)) [1482] 100 ?_
  refine ⟨l_in (j := 1) (by omega) rfl hi hN, ?_⟩
  refine J_say hc hI _ (fun v A1 F1 X1 H => ?_)
  refine ⟨l_in (j := 1) (by omega) rfl hi hN, ?_⟩
  refine H _ (fun A2 F2 X2 hI2 => ?_)
  exact br1 (fun z => z rfl) (hk A2 F2 X2 hI2)
set_option maxRecDepth 8000 in
theorem tL_rule (hN : sN ≤ 3072) (hc : c < 512) (hi : 6 * c + 6 ≤ sN) (hI : Inv c A F X) (hk : ∀ (A2 : qA) (F2 : qF) (X2 : qX), Inv (c + 1) A2 F2 X2 → pz_T (pz_scr b sN xs) KL_law Q 1482 u (lL c) [] (mem A2 F2 X2)) : pz_T (pz_scr b sN xs) KL_law Q 503 u (lL c) [] (mem A F X) := by
  refine pz_wp_okp (pz_Ip_ok (SL_10 b sN xs)) [1482] 100 ?_
  refine ⟨l_in (j := 1) (by omega) rfl hi hN, ?_⟩
  refine ⟨l_in (j := 2) (by omega) rfl hi hN, ?_⟩
  refine J_rule hc hI _ (fun v A1 F1 X1 H => ?_)
  refine ⟨l_in (j := 1) (by omega) rfl hi hN, ?_⟩
  refine ⟨l_in (j := 2) (by omega) rfl hi hN, ?_⟩
  refine H _ (fun A2 F2 X2 hI2 => ?_)
  exact br1 (fun z => z rfl) (hk A2 F2 X2 hI2)
set_option maxRecDepth 8000 in
theorem tL_deal (hN : sN ≤ 3072) (hc : c < 512) (hi : 6 * c + 6 ≤ sN) (hI : Inv c A F X) (hk : ∀ (A2 : qA) (F2 : qF) (X2 : qX), Inv (c + 1) A2 F2 X2 → pz_T (pz_scr b sN xs) KL_law Q 1482 u (lL c) [] (mem A2 F2 X2)) : pz_T (pz_scr b sN xs) KL_law Q 536 u (lL c) [] (mem A F X) := by
  refine pz_wp_okp (pz_Ip_ok (SL_11 b sN xs)) [1482] 100 ?_
  refine ⟨l_in (j := 1) (by omega) rfl hi hN, ?_⟩
  refine J_deal hc hI _ (fun v A1 F1 X1 H => ?_)
  refine ⟨l_in (j := 1) (by omega) rfl hi hN, ?_⟩
  refine H _ (fun A2 F2 X2 hI2 => ?_)
  exact br1 (fun z => z rfl) (hk A2 F2 X2 hI2)
set_option maxRecDepth 8000 in
theorem tL_seed (hN : sN ≤ 3072) (hc : c < 512) (hi : 6 * c + 6 ≤ sN) (hI : Inv c A F X) (hk : ∀ (A2 : qA) (F2 : qF) (X2 : qX), Inv (c + 1) A2 F2 X2 → pz_T (pz_scr b sN xs) KL_law Q 1482 u (lL c) [] (mem A2 F2 X2)) : pz_T (pz_scr b sN xs) KL_law Q 559 u (lL c) [] (mem A F X) := by
  refine pz_wp_okp (pz_Ip_ok (SL_12 b sN xs)) [1482] 100 ?_
  refine ⟨l_in (j := 1) (by omega) rfl hi hN, ?_⟩
  refine J_seed hc hI _ (fun v A1 F1 X1 H => ?_)
  refine ⟨l_in (j := 1) (by omega) rfl hi hN, ?_⟩
  refine H _ (fun A2 F2 X2 hI2 => ?_)
  exact br1 (fun z => z rfl) (hk A2 F2 X2 hI2)
set_option maxRecDepth 8000 in
theorem tL_minutes (hN : sN ≤ 3072) (hc : c < 512) (hi : 6 * c + 6 ≤ sN) (hI : Inv c A F X) (hk : ∀ (A2 : qA) (F2 : qF) (X2 : qX), Inv (c + 1) A2 F2 X2 → pz_T (pz_scr b sN xs) KL_law Q 1482 u (lL c) [] (mem A2 F2 X2)) : pz_T (pz_scr b sN xs) KL_law Q 582 u (lL c) [] (mem A F X) := by
  refine pz_wp_okp (pz_Ip_ok (SL_13 b sN xs)) [1482] 100 ?_
  refine ⟨l_in (j := 1) (by omega) rfl hi hN, ?_⟩
  refine J_minutes hc hI _ (fun v A1 F1 X1 H => ?_)
  refine ⟨l_in (j := 1) (by omega) rfl hi hN, ?_⟩
  refine H _ (fun A2 F2 X2 hI2 => ?_)
  exact br1 (fun z => z rfl) (hk A2 F2 X2 hI2)
set_option maxRecDepth 8000 in
theorem tL_town (hN : sN ≤ 3072) (hc : c < 512) (hi : 6 * c + 6 ≤ sN) (hI : Inv c A F X) (hk : ∀ (A2 : qA) (F2 : qF) (X2 : qX), Inv (c + 1) A2 F2 X2 → pz_T (pz_scr b sN xs) KL_law Q 1482 u (lL c) [] (mem A2 F2 X2)) : pz_T (pz_scr b sN xs) KL_law Q 605 u (lL c) [] (mem A F X) := by
  refine pz_wp_okp (pz_Ip_ok (SL_14 b sN xs)) [1482] 100 ?_
  refine ⟨l_in (j := 1) (by omega) rfl hi hN, ?_⟩
  refine J_town_ hc hI _ (fun v A1 F1 X1 H => ?_)
  refine ⟨l_in (j := 1) (by omega) rfl hi hN, ?_⟩
  refine H _ (fun A2 F2 X2 hI2 => ?_)
  exact br1 (fun z => z rfl) (hk A2 F2 X2 hI2)
set_option maxRecDepth 8000 in
theorem tL_path (hN : sN ≤ 3072) (hc : c < 512) (hi : 6 * c + 6 ≤ sN) (hI : Inv c A F X) (hk : ∀ (A2 : qA) (F2 : qF) (X2 : qX), Inv (c + 1) A2 F2 X2 → pz_T (pz_scr b sN xs) KL_law Q 1482 u (lL c) [] (mem A2 F2 X2)) : pz_T (pz_scr b sN xs) KL_law Q 628 u (lL c) [] (mem A F X) := by
  refine pz_wp_okp (pz_Ip_ok (SL_15 b sN xs)) [1482] 100 ?_
  refine ⟨l_in (j := 1) (by omega) rfl hi hN, ?_⟩
  refine ⟨l_in (j := 2) (by omega) rfl hi hN, ?_⟩
  refine ⟨l_in (j := 3) (by omega) rfl hi hN, ?_⟩
  refine J_path hc hI _ (fun v A1 F1 X1 H => ?_)
  refine ⟨l_in (j := 1) (by omega) rfl hi hN, ?_⟩
  refine ⟨l_in (j := 2) (by omega) rfl hi hN, ?_⟩
  refine ⟨l_in (j := 3) (by omega) rfl hi hN, ?_⟩
  refine H _ (fun A2 F2 X2 hI2 => ?_)
  exact br1 (fun z => z rfl) (hk A2 F2 X2 hI2)
set_option maxRecDepth 8000 in
theorem tL_behind (hN : sN ≤ 3072) (hc : c < 512) (hi : 6 * c + 6 ≤ sN) (hI : Inv c A F X) (hk : ∀ (A2 : qA) (F2 : qF) (X2 : qX), Inv (c + 1) A2 F2 X2 → pz_T (pz_scr b sN xs) KL_law Q 1482 u (lL c) [] (mem A2 F2 X2)) : pz_T (pz_scr b sN xs) KL_law Q 671 u (lL c) [] (mem A F X) := by
  refine pz_wp_okp (pz_Ip_ok (SL_16 b sN xs)) [1482] 100 ?_
  refine ⟨l_in (j := 1) (by omega) rfl hi hN, ?_⟩
  refine ⟨l_in (j := 2) (by omega) rfl hi hN, ?_⟩
  refine J_behind hc hI _ (fun v A1 F1 X1 H => ?_)
  refine ⟨l_in (j := 1) (by omega) rfl hi hN, ?_⟩
  refine ⟨l_in (j := 2) (by omega) rfl hi hN, ?_⟩
  refine H _ (fun A2 F2 X2 hI2 => ?_)
  exact br1 (fun z => z rfl) (hk A2 F2 X2 hI2)
set_option maxRecDepth 8000 in
theorem tL_wets (hN : sN ≤ 3072) (hc : c < 512) (hi : 6 * c + 6 ≤ sN) (hI : Inv c A F X) (hk : ∀ (A2 : qA) (F2 : qF) (X2 : qX), Inv (c + 1) A2 F2 X2 → pz_T (pz_scr b sN xs) KL_law Q 1482 u (lL c) [] (mem A2 F2 X2)) : pz_T (pz_scr b sN xs) KL_law Q 704 u (lL c) [] (mem A F X) := by
  refine pz_wp_okp (pz_Ip_ok (SL_17 b sN xs)) [1482] 100 ?_
  refine ⟨l_in (j := 1) (by omega) rfl hi hN, ?_⟩
  refine J_wets hc hI _ (fun v A1 F1 X1 H => ?_)
  refine ⟨l_in (j := 1) (by omega) rfl hi hN, ?_⟩
  refine H _ (fun A2 F2 X2 hI2 => ?_)
  exact br1 (fun z => z rfl) (hk A2 F2 X2 hI2)
set_option maxRecDepth 8000 in
theorem tL_deepest (hN : sN ≤ 3072) (hc : c < 512) (hi : 6 * c + 6 ≤ sN) (hI : Inv c A F X) (hk : ∀ (A2 : qA) (F2 : qF) (X2 : qX), Inv (c + 1) A2 F2 X2 → pz_T (pz_scr b sN xs) KL_law Q 1482 u (lL c) [] (mem A2 F2 X2)) : pz_T (pz_scr b sN xs) KL_law Q 727 u (lL c) [] (mem A F X) := by
  refine pz_wp_okp (pz_Ip_ok (SL_18 b sN xs)) [1482] 100 ?_
  refine ⟨l_in (j := 1) (by omega) rfl hi hN, ?_⟩
  refine ⟨l_in (j := 2) (by omega) rfl hi hN, ?_⟩
  refine J_deepest hc hI _ (fun v A1 F1 X1 H => ?_)
  refine ⟨l_in (j := 1) (by omega) rfl hi hN, ?_⟩
  refine ⟨l_in (j := 2) (by omega) rfl hi hN, ?_⟩
  refine H _ (fun A2 F2 X2 hI2 => ?_)
  exact br1 (fun z => z rfl) (hk A2 F2 X2 hI2)
set_option maxRecDepth 8000 in
theorem tL_walled (hN : sN ≤ 3072) (hc : c < 512) (hi : 6 * c + 6 ≤ sN) (hI : Inv c A F X) (hk : ∀ (A2 : qA) (F2 : qF) (X2 : qX), Inv (c + 1) A2 F2 X2 → pz_T (pz_scr b sN xs) KL_law Q 1482 u (lL c) [] (mem A2 F2 X2)) : pz_T (pz_scr b sN xs) KL_law Q 760 u (lL c) [] (mem A F X) := by
  refine pz_wp_okp (pz_Ip_ok (SL_19 b sN xs)) [1482] 100 ?_
  refine ⟨l_in (j := 1) (by omega) rfl hi hN, ?_⟩
  refine ⟨l_in (j := 2) (by omega) rfl hi hN, ?_⟩
  refine ⟨l_in (j := 3) (by omega) rfl hi hN, ?_⟩
  refine J_walled hc hI _ (fun v A1 F1 X1 H => ?_)
  refine ⟨l_in (j := 1) (by omega) rfl hi hN, ?_⟩
  refine ⟨l_in (j := 2) (by omega) rfl hi hN, ?_⟩
  refine ⟨l_in (j := 3) (by omega) rfl hi hN, ?_⟩
  refine H _ (fun A2 F2 X2 hI2 => ?_)
  exact br1 (fun z => z rfl) (hk A2 F2 X2 hI2)
set_option maxRecDepth 8000 in
theorem tL_enough (hN : sN ≤ 3072) (hc : c < 512) (hi : 6 * c + 6 ≤ sN) (hI : Inv c A F X) (hk : ∀ (A2 : qA) (F2 : qF) (X2 : qX), Inv (c + 1) A2 F2 X2 → pz_T (pz_scr b sN xs) KL_law Q 1482 u (lL c) [] (mem A2 F2 X2)) : pz_T (pz_scr b sN xs) KL_law Q 803 u (lL c) [] (mem A F X) := by
  refine pz_wp_okp (pz_Ip_ok (SL_20 b sN xs)) [1482] 100 ?_
  refine ⟨l_in (j := 1) (by omega) rfl hi hN, ?_⟩
  refine ⟨l_in (j := 2) (by omega) rfl hi hN, ?_⟩
  refine J_enough hc hI _ (fun v A1 F1 X1 H => ?_)
  refine ⟨l_in (j := 1) (by omega) rfl hi hN, ?_⟩
  refine ⟨l_in (j := 2) (by omega) rfl hi hN, ?_⟩
  refine H _ (fun A2 F2 X2 hI2 => ?_)
  exact br1 (fun z => z rfl) (hk A2 F2 X2 hI2)
set_option maxRecDepth 8000 in
theorem tL_stood (hN : sN ≤ 3072) (hc : c < 512) (hi : 6 * c + 6 ≤ sN) (hI : Inv c A F X) (hk : ∀ (A2 : qA) (F2 : qF) (X2 : qX), Inv (c + 1) A2 F2 X2 → pz_T (pz_scr b sN xs) KL_law Q 1482 u (lL c) [] (mem A2 F2 X2)) : pz_T (pz_scr b sN xs) KL_law Q 836 u (lL c) [] (mem A F X) := by
  refine pz_wp_okp (pz_Ip_ok (SL_21 b sN xs)) [1482] 100 ?_
  refine ⟨l_in (j := 1) (by omega) rfl hi hN, ?_⟩
  refine ⟨l_in (j := 2) (by omega) rfl hi hN, ?_⟩
  refine ⟨l_in (j := 3) (by omega) rfl hi hN, ?_⟩
  refine J_stood hc hI _ (fun v A1 F1 X1 H => ?_)
  refine ⟨l_in (j := 1) (by omega) rfl hi hN, ?_⟩
  refine ⟨l_in (j := 2) (by omega) rfl hi hN, ?_⟩
  refine ⟨l_in (j := 3) (by omega) rfl hi hN, ?_⟩
  refine H _ (fun A2 F2 X2 hI2 => ?_)
  exact br1 (fun z => z rfl) (hk A2 F2 X2 hI2)
set_option maxRecDepth 8000 in
theorem tL_fee (hN : sN ≤ 3072) (hc : c < 512) (hi : 6 * c + 6 ≤ sN) (hI : Inv c A F X) (hk : ∀ (A2 : qA) (F2 : qF) (X2 : qX), Inv (c + 1) A2 F2 X2 → pz_T (pz_scr b sN xs) KL_law Q 1482 u (lL c) [] (mem A2 F2 X2)) : pz_T (pz_scr b sN xs) KL_law Q 879 u (lL c) [] (mem A F X) := by
  refine pz_wp_okp (pz_Ip_ok (SL_22 b sN xs)) [1482] 100 ?_
  refine J_fee hc hI _ (fun v A1 F1 X1 H => ?_)
  refine H _ (fun A2 F2 X2 hI2 => ?_)
  exact br1 (fun z => z rfl) (hk A2 F2 X2 hI2)
set_option maxRecDepth 8000 in
theorem tL_fine (hN : sN ≤ 3072) (hc : c < 512) (hi : 6 * c + 6 ≤ sN) (hI : Inv c A F X) (hk : ∀ (A2 : qA) (F2 : qF) (X2 : qX), Inv (c + 1) A2 F2 X2 → pz_T (pz_scr b sN xs) KL_law Q 1482 u (lL c) [] (mem A2 F2 X2)) : pz_T (pz_scr b sN xs) KL_law Q 892 u (lL c) [] (mem A F X) := by
  refine pz_wp_okp (pz_Ip_ok (SL_23 b sN xs)) [1482] 100 ?_
  refine ⟨l_in (j := 1) (by omega) rfl hi hN, ?_⟩
  refine J_fine hc hI _ (fun v A1 F1 X1 H => ?_)
  refine ⟨l_in (j := 1) (by omega) rfl hi hN, ?_⟩
  refine H _ (fun A2 F2 X2 hI2 => ?_)
  exact br1 (fun z => z rfl) (hk A2 F2 X2 hI2)
set_option maxRecDepth 8000 in
theorem tL_feed (hN : sN ≤ 3072) (hc : c < 512) (hi : 6 * c + 6 ≤ sN) (hI : Inv c A F X) (hk : ∀ (A2 : qA) (F2 : qF) (X2 : qX), Inv (c + 1) A2 F2 X2 → pz_T (pz_scr b sN xs) KL_law Q 1482 u (lL c) [] (mem A2 F2 X2)) : pz_T (pz_scr b sN xs) KL_law Q 915 u (lL c) [] (mem A F X) := by
  refine pz_wp_okp (pz_Ip_ok (SL_24 b sN xs)) [1482] 100 ?_
  refine ⟨l_in (j := 1) (by omega) rfl hi hN, ?_⟩
  refine ⟨l_in (j := 2) (by omega) rfl hi hN, ?_⟩
  refine ⟨l_in (j := 3) (by omega) rfl hi hN, ?_⟩
  refine J_feed hc hI _ (fun v A1 F1 X1 H => ?_)
  refine ⟨l_in (j := 1) (by omega) rfl hi hN, ?_⟩
  refine ⟨l_in (j := 2) (by omega) rfl hi hN, ?_⟩
  refine ⟨l_in (j := 3) (by omega) rfl hi hN, ?_⟩
  refine H _ (fun A2 F2 X2 hI2 => ?_)
  exact br1 (fun z => z rfl) (hk A2 F2 X2 hI2)
set_option maxRecDepth 8000 in
theorem tL_trim (hN : sN ≤ 3072) (hc : c < 512) (hi : 6 * c + 6 ≤ sN) (hI : Inv c A F X) (hk : ∀ (A2 : qA) (F2 : qF) (X2 : qX), Inv (c + 1) A2 F2 X2 → pz_T (pz_scr b sN xs) KL_law Q 1482 u (lL c) [] (mem A2 F2 X2)) : pz_T (pz_scr b sN xs) KL_law Q 958 u (lL c) [] (mem A F X) := by
  refine pz_wp_okp (pz_Ip_ok (SL_25 b sN xs)) [1482] 100 ?_
  refine ⟨l_in (j := 1) (by omega) rfl hi hN, ?_⟩
  refine J_trim hc hI _ (fun v A1 F1 X1 H => ?_)
  refine ⟨l_in (j := 1) (by omega) rfl hi hN, ?_⟩
  refine H _ (fun A2 F2 X2 hI2 => ?_)
  exact br1 (fun z => z rfl) (hk A2 F2 X2 hI2)
set_option maxRecDepth 8000 in
theorem tL_text (hN : sN ≤ 3072) (hc : c < 512) (hi : 6 * c + 6 ≤ sN) (hI : Inv c A F X) (h1 : u.1 + 2 ≤ 600000) (h2 : u.2 + 100 ≤ 7302250) (hk : ∀ (A2 : qA) (F2 : qF) (X2 : qX), Inv (c + 1) A2 F2 X2 → pz_T (pz_scr b sN xs) KL_law Q 1482 (u.1 + 2, u.2 + 100) (lL c) [] (mem A2 F2 X2)) : pz_T (pz_scr b sN xs) KL_law Q 981 u (lL c) [] (mem A F X) := by
  refine pz_wp_okp (pz_Ip_ok (SL_26 b sN xs)) [1482] 100 ?_
  refine ⟨⟨h1, h2⟩, ?_⟩
  refine J_text hc hI _ (fun v A1 F1 X1 H => ?_)
  refine H _ (fun A2 F2 X2 hI2 => ?_)
  exact br1 (fun z => z rfl) (hk A2 F2 X2 hI2)
set_option maxRecDepth 8000 in
theorem tL_textTold (hN : sN ≤ 3072) (hc : c < 512) (hi : 6 * c + 6 ≤ sN) (hI : Inv c A F X) (hk : ∀ (A2 : qA) (F2 : qF) (X2 : qX), Inv (c + 1) A2 F2 X2 → pz_T (pz_scr b sN xs) KL_law Q 1482 u (lL c) [] (mem A2 F2 X2)) : pz_T (pz_scr b sN xs) KL_law Q 994 u (lL c) [] (mem A F X) := by
  refine pz_wp_okp (pz_Ip_ok (SL_27 b sN xs)) [1482] 100 ?_
  refine ⟨l_in (j := 1) (by omega) rfl hi hN, ?_⟩
  refine ⟨l_in (j := 2) (by omega) rfl hi hN, ?_⟩
  refine J_textTold hc hI _ (fun v A1 F1 X1 H => ?_)
  refine ⟨l_in (j := 1) (by omega) rfl hi hN, ?_⟩
  refine ⟨l_in (j := 2) (by omega) rfl hi hN, ?_⟩
  refine H _ (fun A2 F2 X2 hI2 => ?_)
  exact br1 (fun z => z rfl) (hk A2 F2 X2 hI2)
set_option maxRecDepth 8000 in
theorem tL_why (hN : sN ≤ 3072) (hc : c < 512) (hi : 6 * c + 6 ≤ sN) (hI : Inv c A F X) (hk : ∀ (A2 : qA) (F2 : qF) (X2 : qX), Inv (c + 1) A2 F2 X2 → pz_T (pz_scr b sN xs) KL_law Q 1482 u (lL c) [] (mem A2 F2 X2)) : pz_T (pz_scr b sN xs) KL_law Q 1027 u (lL c) [] (mem A F X) := by
  refine pz_wp_okp (pz_Ip_ok (SL_28 b sN xs)) [1482] 100 ?_
  refine ⟨l_in (j := 1) (by omega) rfl hi hN, ?_⟩
  refine J_why hc hI _ (fun v A1 F1 X1 H => ?_)
  refine ⟨l_in (j := 1) (by omega) rfl hi hN, ?_⟩
  refine H _ (fun A2 F2 X2 hI2 => ?_)
  exact br1 (fun z => z rfl) (hk A2 F2 X2 hI2)
set_option maxRecDepth 8000 in
theorem tL_sheet (hN : sN ≤ 3072) (hc : c < 512) (hi : 6 * c + 6 ≤ sN) (hI : Inv c A F X) (hk : ∀ (A2 : qA) (F2 : qF) (X2 : qX), Inv (c + 1) A2 F2 X2 → pz_T (pz_scr b sN xs) KL_law Q 1482 u (lL c) [] (mem A2 F2 X2)) : pz_T (pz_scr b sN xs) KL_law Q 1050 u (lL c) [] (mem A F X) := by
  refine pz_wp_okp (pz_Ip_ok (SL_29 b sN xs)) [1482] 100 ?_
  refine ⟨l_in (j := 1) (by omega) rfl hi hN, ?_⟩
  refine ⟨l_in (j := 2) (by omega) rfl hi hN, ?_⟩
  refine ⟨l_in (j := 3) (by omega) rfl hi hN, ?_⟩
  refine J_sheet hc hI _ (fun v A1 F1 X1 H => ?_)
  refine ⟨l_in (j := 1) (by omega) rfl hi hN, ?_⟩
  refine ⟨l_in (j := 2) (by omega) rfl hi hN, ?_⟩
  refine ⟨l_in (j := 3) (by omega) rfl hi hN, ?_⟩
  refine H _ (fun A2 F2 X2 hI2 => ?_)
  exact br1 (fun z => z rfl) (hk A2 F2 X2 hI2)
set_option maxRecDepth 8000 in
theorem tL_mark (hN : sN ≤ 3072) (hc : c < 512) (hi : 6 * c + 6 ≤ sN) (hI : Inv c A F X) (hk : ∀ (A2 : qA) (F2 : qF) (X2 : qX), Inv (c + 1) A2 F2 X2 → pz_T (pz_scr b sN xs) KL_law Q 1482 u (lL c) [] (mem A2 F2 X2)) : pz_T (pz_scr b sN xs) KL_law Q 1093 u (lL c) [] (mem A F X) := by
  refine pz_wp_okp (pz_Ip_ok (SL_30 b sN xs)) [1482] 100 ?_
  refine ⟨l_in (j := 1) (by omega) rfl hi hN, ?_⟩
  refine ⟨l_in (j := 2) (by omega) rfl hi hN, ?_⟩
  refine ⟨l_in (j := 3) (by omega) rfl hi hN, ?_⟩
  refine J_mark hc hI _ (fun v A1 F1 X1 H => ?_)
  refine ⟨l_in (j := 1) (by omega) rfl hi hN, ?_⟩
  refine ⟨l_in (j := 2) (by omega) rfl hi hN, ?_⟩
  refine ⟨l_in (j := 3) (by omega) rfl hi hN, ?_⟩
  refine H _ (fun A2 F2 X2 hI2 => ?_)
  exact br1 (fun z => z rfl) (hk A2 F2 X2 hI2)
set_option maxRecDepth 8000 in
theorem tL_pour (hN : sN ≤ 3072) (hc : c < 512) (hi : 6 * c + 6 ≤ sN) (hI : Inv c A F X) (hk : ∀ (A2 : qA) (F2 : qF) (X2 : qX), Inv (c + 1) A2 F2 X2 → pz_T (pz_scr b sN xs) KL_law Q 1482 u (lL c) [] (mem A2 F2 X2)) : pz_T (pz_scr b sN xs) KL_law Q 1136 u (lL c) [] (mem A F X) := by
  refine pz_wp_okp (pz_Ip_ok (SL_31 b sN xs)) [1482] 100 ?_
  refine ⟨l_in (j := 1) (by omega) rfl hi hN, ?_⟩
  refine J_pour hc hI _ (fun v A1 F1 X1 H => ?_)
  refine ⟨l_in (j := 1) (by omega) rfl hi hN, ?_⟩
  refine H _ (fun A2 F2 X2 hI2 => ?_)
  exact br1 (fun z => z rfl) (hk A2 F2 X2 hI2)
set_option maxRecDepth 8000 in
theorem tL_reads (hN : sN ≤ 3072) (hc : c < 512) (hi : 6 * c + 6 ≤ sN) (hI : Inv c A F X) (hk : ∀ (A2 : qA) (F2 : qF) (X2 : qX), Inv (c + 1) A2 F2 X2 → pz_T (pz_scr b sN xs) KL_law Q 1482 u (lL c) [] (mem A2 F2 X2)) : pz_T (pz_scr b sN xs) KL_law Q 1159 u (lL c) [] (mem A F X) := by
  refine pz_wp_okp (pz_Ip_ok (SL_32 b sN xs)) [1482] 100 ?_
  refine ⟨l_in (j := 1) (by omega) rfl hi hN, ?_⟩
  refine J_reads hc hI _ (fun v A1 F1 X1 H => ?_)
  refine ⟨l_in (j := 1) (by omega) rfl hi hN, ?_⟩
  refine H _ (fun A2 F2 X2 hI2 => ?_)
  exact br1 (fun z => z rfl) (hk A2 F2 X2 hI2)
set_option maxRecDepth 8000 in
theorem tL_copy (hN : sN ≤ 3072) (hc : c < 512) (hi : 6 * c + 6 ≤ sN) (hI : Inv c A F X) (hk : ∀ (A2 : qA) (F2 : qF) (X2 : qX), Inv (c + 1) A2 F2 X2 → pz_T (pz_scr b sN xs) KL_law Q 1482 u (lL c) [] (mem A2 F2 X2)) : pz_T (pz_scr b sN xs) KL_law Q 1182 u (lL c) [] (mem A F X) := by
  refine pz_wp_okp (pz_Ip_ok (SL_33 b sN xs)) [1482] 100 ?_
  refine ⟨l_in (j := 1) (by omega) rfl hi hN, ?_⟩
  refine ⟨l_in (j := 2) (by omega) rfl hi hN, ?_⟩
  refine ⟨l_in (j := 3) (by omega) rfl hi hN, ?_⟩
  refine ⟨l_in (j := 4) (by omega) rfl hi hN, ?_⟩
  refine ⟨l_in (j := 5) (by omega) rfl hi hN, ?_⟩
  refine J_copy hc hI _ (fun v A1 F1 X1 H => ?_)
  refine ⟨l_in (j := 1) (by omega) rfl hi hN, ?_⟩
  refine ⟨l_in (j := 2) (by omega) rfl hi hN, ?_⟩
  refine ⟨l_in (j := 3) (by omega) rfl hi hN, ?_⟩
  refine ⟨l_in (j := 4) (by omega) rfl hi hN, ?_⟩
  refine ⟨l_in (j := 5) (by omega) rfl hi hN, ?_⟩
  refine H _ (fun A2 F2 X2 hI2 => ?_)
  exact br1 (fun z => z rfl) (hk A2 F2 X2 hI2)
set_option maxRecDepth 8000 in
theorem tL_lay (hN : sN ≤ 3072) (hc : c < 512) (hi : 6 * c + 6 ≤ sN) (hI : Inv c A F X) (hk : ∀ (A2 : qA) (F2 : qF) (X2 : qX), Inv (c + 1) A2 F2 X2 → pz_T (pz_scr b sN xs) KL_law Q 1482 u (lL c) [] (mem A2 F2 X2)) : pz_T (pz_scr b sN xs) KL_law Q 1245 u (lL c) [] (mem A F X) := by
  refine pz_wp_okp (pz_Ip_ok (SL_34 b sN xs)) [1482] 100 ?_
  refine ⟨l_in (j := 1) (by omega) rfl hi hN, ?_⟩
  refine ⟨l_in (j := 2) (by omega) rfl hi hN, ?_⟩
  refine ⟨l_in (j := 3) (by omega) rfl hi hN, ?_⟩
  refine J_lay hc hI _ (fun v A1 F1 X1 H => ?_)
  refine ⟨l_in (j := 1) (by omega) rfl hi hN, ?_⟩
  refine ⟨l_in (j := 2) (by omega) rfl hi hN, ?_⟩
  refine ⟨l_in (j := 3) (by omega) rfl hi hN, ?_⟩
  refine H _ (fun A2 F2 X2 hI2 => ?_)
  exact br1 (fun z => z rfl) (hk A2 F2 X2 hI2)
set_option maxRecDepth 8000 in
theorem tL_ask (hN : sN ≤ 3072) (hc : c < 512) (hi : 6 * c + 6 ≤ sN) (hI : Inv c A F X) (hk : ∀ (A2 : qA) (F2 : qF) (X2 : qX), Inv (c + 1) A2 F2 X2 → pz_T (pz_scr b sN xs) KL_law Q 1482 u (lL c) [] (mem A2 F2 X2)) : pz_T (pz_scr b sN xs) KL_law Q 1288 u (lL c) [] (mem A F X) := by
  refine pz_wp_okp (pz_Ip_ok (SL_35 b sN xs)) [1482] 100 ?_
  refine ⟨l_in (j := 1) (by omega) rfl hi hN, ?_⟩
  refine ⟨l_in (j := 2) (by omega) rfl hi hN, ?_⟩
  refine J_ask hc hI _ (fun v A1 F1 X1 H => ?_)
  refine ⟨l_in (j := 1) (by omega) rfl hi hN, ?_⟩
  refine ⟨l_in (j := 2) (by omega) rfl hi hN, ?_⟩
  refine H _ (fun A2 F2 X2 hI2 => ?_)
  exact br1 (fun z => z rfl) (hk A2 F2 X2 hI2)
set_option maxRecDepth 8000 in
theorem tL_item (hN : sN ≤ 3072) (hc : c < 512) (hi : 6 * c + 6 ≤ sN) (hI : Inv c A F X) (hk : ∀ (A2 : qA) (F2 : qF) (X2 : qX), Inv (c + 1) A2 F2 X2 → pz_T (pz_scr b sN xs) KL_law Q 1482 u (lL c) [] (mem A2 F2 X2)) : pz_T (pz_scr b sN xs) KL_law Q 1321 u (lL c) [] (mem A F X) := by
  refine pz_wp_okp (pz_Ip_ok (SL_36 b sN xs)) [1482] 100 ?_
  refine ⟨l_in (j := 1) (by omega) rfl hi hN, ?_⟩
  refine ⟨l_in (j := 2) (by omega) rfl hi hN, ?_⟩
  refine J_item hc hI _ (fun v A1 F1 X1 H => ?_)
  refine ⟨l_in (j := 1) (by omega) rfl hi hN, ?_⟩
  refine ⟨l_in (j := 2) (by omega) rfl hi hN, ?_⟩
  refine H _ (fun A2 F2 X2 hI2 => ?_)
  exact br1 (fun z => z rfl) (hk A2 F2 X2 hI2)
set_option maxRecDepth 8000 in
theorem tL_rest (hN : sN ≤ 3072) (hc : c < 512) (hi : 6 * c + 6 ≤ sN) (hI : Inv c A F X) (hk : ∀ (A2 : qA) (F2 : qF) (X2 : qX), Inv (c + 1) A2 F2 X2 → pz_T (pz_scr b sN xs) KL_law Q 1482 u (lL c) [] (mem A2 F2 X2)) : pz_T (pz_scr b sN xs) KL_law Q 1354 u (lL c) [] (mem A F X) := by
  refine pz_wp_okp (pz_Ip_ok (SL_37 b sN xs)) [1482] 100 ?_
  refine ⟨l_in (j := 1) (by omega) rfl hi hN, ?_⟩
  refine ⟨l_in (j := 2) (by omega) rfl hi hN, ?_⟩
  refine J_rest hc hI _ (fun v A1 F1 X1 H => ?_)
  refine ⟨l_in (j := 1) (by omega) rfl hi hN, ?_⟩
  refine ⟨l_in (j := 2) (by omega) rfl hi hN, ?_⟩
  refine H _ (fun A2 F2 X2 hI2 => ?_)
  exact br1 (fun z => z rfl) (hk A2 F2 X2 hI2)
set_option maxRecDepth 8000 in
theorem tL_tell (hN : sN ≤ 3072) (hc : c < 512) (hi : 6 * c + 6 ≤ sN) (hI : Inv c A F X) (hk : ∀ (A2 : qA) (F2 : qF) (X2 : qX), Inv (c + 1) A2 F2 X2 → pz_T (pz_scr b sN xs) KL_law Q 1482 u (lL c) [] (mem A2 F2 X2)) : pz_T (pz_scr b sN xs) KL_law Q 1387 u (lL c) [] (mem A F X) := by
  refine pz_wp_okp (pz_Ip_ok (SL_38 b sN xs)) [1482] 100 ?_
  refine ⟨l_in (j := 1) (by omega) rfl hi hN, ?_⟩
  refine J_tell hc hI _ (fun v A1 F1 X1 H => ?_)
  refine ⟨l_in (j := 1) (by omega) rfl hi hN, ?_⟩
  refine H _ (fun A2 F2 X2 hI2 => ?_)
  exact br1 (fun z => z rfl) (hk A2 F2 X2 hI2)
set_option maxRecDepth 8000 in
theorem tL_check (hN : sN ≤ 3072) (hc : c < 512) (hi : 6 * c + 6 ≤ sN) (hI : Inv c A F X) (hk : ∀ (A2 : qA) (F2 : qF) (X2 : qX), Inv (c + 1) A2 F2 X2 → pz_T (pz_scr b sN xs) KL_law Q 1482 u (lL c) [] (mem A2 F2 X2)) : pz_T (pz_scr b sN xs) KL_law Q 1410 u (lL c) [] (mem A F X) := by
  refine pz_wp_okp (pz_Ip_ok (SL_39 b sN xs)) [1482] 100 ?_
  refine ⟨l_in (j := 1) (by omega) rfl hi hN, ?_⟩
  refine J_check hc hI _ (fun v A1 F1 X1 H => ?_)
  refine ⟨l_in (j := 1) (by omega) rfl hi hN, ?_⟩
  refine H _ (fun A2 F2 X2 hI2 => ?_)
  exact br1 (fun z => z rfl) (hk A2 F2 X2 hI2)
set_option maxRecDepth 8000 in
theorem tL_keep (hN : sN ≤ 3072) (hc : c < 512) (hi : 6 * c + 6 ≤ sN) (hI : Inv c A F X) (hk : ∀ (A2 : qA) (F2 : qF) (X2 : qX), Inv (c + 1) A2 F2 X2 → pz_T (pz_scr b sN xs) KL_law Q 1482 u (lL c) [] (mem A2 F2 X2)) : pz_T (pz_scr b sN xs) KL_law Q 1433 u (lL c) [] (mem A F X) := by
  refine pz_wp_okp (pz_Ip_ok (SL_40 b sN xs)) [1482] 100 ?_
  refine J_keep hc hI _ (fun v A1 F1 X1 H => ?_)
  refine H _ (fun A2 F2 X2 hI2 => ?_)
  exact br1 (fun z => z rfl) (hk A2 F2 X2 hI2)
set_option maxRecDepth 8000 in
theorem tL_back (hN : sN ≤ 3072) (hc : c < 512) (hi : 6 * c + 6 ≤ sN) (hI : Inv c A F X) (hk : ∀ (A2 : qA) (F2 : qF) (X2 : qX), Inv (c + 1) A2 F2 X2 → pz_T (pz_scr b sN xs) KL_law Q 1482 u (lL c) [] (mem A2 F2 X2)) : pz_T (pz_scr b sN xs) KL_law Q 1446 u (lL c) [] (mem A F X) := by
  refine pz_wp_okp (pz_Ip_ok (SL_41 b sN xs)) [1482] 100 ?_
  refine J_back hc hI _ (fun v A1 F1 X1 H => ?_)
  refine H _ (fun A2 F2 X2 hI2 => ?_)
  exact br1 (fun z => z rfl) (hk A2 F2 X2 hI2)
set_option maxRecDepth 8000 in
theorem tL_count (hN : sN ≤ 3072) (hc : c < 512) (hi : 6 * c + 6 ≤ sN) (hI : Inv c A F X) (hk : ∀ (A2 : qA) (F2 : qF) (X2 : qX), Inv (c + 1) A2 F2 X2 → pz_T (pz_scr b sN xs) KL_law Q 1482 u (lL c) [] (mem A2 F2 X2)) : pz_T (pz_scr b sN xs) KL_law Q 1459 u (lL c) [] (mem A F X) := by
  refine pz_wp_okp (pz_Ip_ok (SL_42 b sN xs)) [1482] 100 ?_
  refine ⟨l_in (j := 1) (by omega) rfl hi hN, ?_⟩
  refine J_count hc hI _ (fun v A1 F1 X1 H => ?_)
  refine ⟨l_in (j := 1) (by omega) rfl hi hN, ?_⟩
  refine H _ (fun A2 F2 X2 hI2 => ?_)
  exact br1 (fun z => z rfl) (hk A2 F2 X2 hI2)
theorem l_end {c sN : Nat} (hN : sN ≤ 3072) (hc : c ≤ 512) (h : sN < 6 * c + 6) : nI sN - 6 < nI (6 * c) := by
  have e : (nI sN - 6).toInt = (sN : Int) - 6 := by
    rw [i_sub (by rw [nIi (by omega)]; show _ ≤ (sN : Int) - 6; omega) (by rw [nIi (by omega)]; show (sN : Int) - 6 < _; omega), nIi (by omega)]
    rfl
  rw [i_lt, e, nIi (by omega)]
  omega
abbrev lL' (x : Int32) : pz_L := [some (.ref 1000030), some (.ref 0), some (.ref 69), some (.int x)]
theorem tL_all (hN : sN ≤ 3072) (hc : c < 512) (hi : 6 * c + 6 ≤ sN) (hI : Inv c A F X) {q : Nat} (hq : q < 42) (h1 : u.1 + 2 ≤ 600000) (h2 : u.2 + 100 ≤ 7302250) (hk : ∀ (A2 : qA) (F2 : qF) (X2 : qX), Inv (c + 1) A2 F2 X2 → pz_T (pz_scr b sN xs) KL_law Q 1482 u (lL c) [] (mem A2 F2 X2)) (hk2 : ∀ (A2 : qA) (F2 : qF) (X2 : qX), Inv (c + 1) A2 F2 X2 → pz_T (pz_scr b sN xs) KL_law Q 1482 (u.1 + 2, u.2 + 100) (lL c) [] (mem A2 F2 X2)) : pz_T (pz_scr b sN xs) KL_law Q (ltg.getD q 1482) u (lL c) [] (mem A F X) := by
  match q, hq with
  | 0, _ => exact tL_eater hN hc hi hI hk
  | 1, _ => exact tL_told hN hc hi hI hk
  | 2, _ => exact tL_cell hN hc hi hI hk
  | 3, _ => exact tL_lays hN hc hi hI hk
  | 4, _ => exact tL_as hN hc hi hI hk
  | 5, _ => exact tL_turns hN hc hi hI hk
  | 6, _ => exact tL_sends hN hc hi hI hk
  | 7, _ => exact tL_cook hN hc hi hI hk
  | 8, _ => exact tL_say hN hc hi hI hk
  | 9, _ => exact tL_rule hN hc hi hI hk
  | 10, _ => exact tL_deal hN hc hi hI hk
  | 11, _ => exact tL_seed hN hc hi hI hk
  | 12, _ => exact tL_minutes hN hc hi hI hk
  | 13, _ => exact tL_town hN hc hi hI hk
  | 14, _ => exact tL_path hN hc hi hI hk
  | 15, _ => exact tL_behind hN hc hi hI hk
  | 16, _ => exact tL_wets hN hc hi hI hk
  | 17, _ => exact tL_deepest hN hc hi hI hk
  | 18, _ => exact tL_walled hN hc hi hI hk
  | 19, _ => exact tL_enough hN hc hi hI hk
  | 20, _ => exact tL_stood hN hc hi hI hk
  | 21, _ => exact tL_fee hN hc hi hI hk
  | 22, _ => exact tL_fine hN hc hi hI hk
  | 23, _ => exact tL_feed hN hc hi hI hk
  | 24, _ => exact tL_trim hN hc hi hI hk
  | 25, _ => exact tL_text hN hc hi hI h1 h2 hk2
  | 26, _ => exact tL_textTold hN hc hi hI hk
  | 27, _ => exact tL_why hN hc hi hI hk
  | 28, _ => exact tL_sheet hN hc hi hI hk
  | 29, _ => exact tL_mark hN hc hi hI hk
  | 30, _ => exact tL_pour hN hc hi hI hk
  | 31, _ => exact tL_reads hN hc hi hI hk
  | 32, _ => exact tL_copy hN hc hi hI hk
  | 33, _ => exact tL_lay hN hc hi hI hk
  | 34, _ => exact tL_ask hN hc hi hI hk
  | 35, _ => exact tL_item hN hc hi hI hk
  | 36, _ => exact tL_rest hN hc hi hI hk
  | 37, _ => exact tL_tell hN hc hi hI hk
  | 38, _ => exact tL_check hN hc hi hI hk
  | 39, _ => exact tL_keep hN hc hi hI hk
  | 40, _ => exact tL_back hN hc hi hI hk
  | 41, _ => exact tL_count hN hc hi hI hk
  | q + 42, hq => exact absurd hq (by omega)
set_option maxRecDepth 8000 in
theorem tL_loop (hN : sN ≤ 3072) (hQ : ∀ M : pz_M, Q (some (.int 1)) M) : ∀ (d c : Nat), c + d = 512 → ∀ (A : qA) (F : qF) (X : qX) (u : Nat × Nat), Inv c A F X → u.1 ≤ 90 + 2 * c → u.2 ≤ 11724 + 100 * c → pz_T (pz_scr b sN xs) KL_law Q 18 u (lL c) [] (mem A F X) := by
  intro d
  induction d with
  | zero =>
    intro c hd A F X u hI hu1 hu2
    refine pz_wp_okp (pz_Ip_ok (SL_0 b sN xs)) [33, 1488] 100 ?_
    refine br1 (fun z => z (l_end hN (by omega) (by omega))) ?_
    refine pz_wp_okp (pz_Ip_ok (SL_43 b sN xs)) [] 100 ?_
    exact ⟨Or.inr rfl, hQ _⟩
  | succ d ih =>
    intro c hd A F X u hI hu1 hu2
    refine pz_wp_okp (pz_Ip_ok (SL_0 b sN xs)) [33, 1488] 100 ?_
    refine ⟨fun g => ?_, fun g => ?_⟩
    · refine pz_wp_okp (pz_Ip_ok (SL_43 b sN xs)) [] 100 ?_
      exact ⟨Or.inr rfl, hQ _⟩
    · have hi : 6 * c + 6 ≤ sN := Nat.not_lt.mp (fun z => g (l_end hN (by omega) z))
      refine ⟨vp_in_nI (by omega) (by omega), ?_⟩
      refine pz_T_swp (pz_Ip_ok (SL_0 b sN xs) (33, pz_sw ltab 1482) (List.mem_of_getElem? (i := 21) rfl)) ?_
      have nxt : ∀ (A2 : qA) (F2 : qF) (X2 : qX) (u2 : Nat × Nat), Inv (c + 1) A2 F2 X2 → u2.1 ≤ 90 + 2 * (c + 1) → u2.2 ≤ 11724 + 100 * (c + 1) → pz_T (pz_scr b sN xs) KL_law Q 1482 u2 (lL c) [] (mem A2 F2 X2) := by
        intro A2 F2 X2 u2 hI2 v1 v2
        refine pz_wp_okp (pz_Ip_ok (SL_43 b sN xs)) [18] 100 ?_
        refine qT (ih (c + 1) (by omega) A2 F2 X2 u2 hI2 v1 v2) ?_ rfl rfl
        show lL' (nI (6 * c) + 6) = lL' (nI (6 * (c + 1)))
        rw [show nI (6 * c) + 6 = nI (6 * c + 6) from nI_add (6 * c) 6, show 6 * (c + 1) = 6 * c + 6 by omega]
      have nx0 : ∀ (A2 : qA) (F2 : qF) (X2 : qX), Inv (c + 1) A2 F2 X2 → pz_T (pz_scr b sN xs) KL_law Q 1482 u (lL c) [] (mem A2 F2 X2) := fun A2 F2 X2 h2 => nxt A2 F2 X2 u h2 (by omega) (by omega)
      obtain ⟨q, hq, eq⟩ := pk_andE (xs (nI (6 * c)).toNatClampNeg) (m := 63) 6 (by decide)
      have hq : q < 64 := hq
      rw [eq, ltab_at q hq]
      have hc : c < 512 := by omega
      rcases Nat.lt_or_ge q 42 with g42 | g42
      · exact tL_all hN hc hi hI g42 (by omega) (by omega) nx0 (fun A2 F2 X2 h2 => nxt A2 F2 X2 _ h2 (by show u.1 + 2 ≤ _; omega) (by show u.2 + 100 ≤ _; omega))
      · have e : ltg.getD q 1482 = 1482 := ltg_o q hq g42
        rw [e]
        exact nx0 A F X (inv_same hc hI)
end LAW
