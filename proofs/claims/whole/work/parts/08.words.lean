def pz_Is (κ : pz_K) : List (Nat × pz_I) → Prop
  | [] => True
  | q :: r => pz_S κ q.1 q.2 ∧ pz_Is κ r
theorem pz_Is_ok {κ : pz_K} : ∀ {I : List (Nat × pz_I)}, pz_Is κ I → ∀ q ∈ I, pz_S κ q.1 q.2
  | [], _, q, hq => absurd hq List.not_mem_nil
  | z :: r, h, q, hq => by
    rcases List.mem_cons.mp hq with rfl | hq
    · exact h.1
    · exact pz_Is_ok h.2 q hq
theorem pz_Is_app {κ : pz_K} : ∀ {I J : List (Nat × pz_I)}, pz_Is κ I → pz_Is κ J → pz_Is κ (I ++ J)
  | [], _, _, h => h
  | _ :: _, _, h, h' => ⟨h.1, pz_Is_app h.2 h'⟩
def nf_0 : List Value := [.null, .null]
def nf_1 : List Value := [.null, .int 0, .null, .int 0, .int 0, .int 0, .int 0, .int 0]
def nf_2 : List Value := [.null, .int 0, .int 0]
def nf_3 : List Value := [.int 0, .int 0, .int 0, .int 0, .null]
def nf_4 : List Value := [.null, .int 0, .int 0, .int 0]
def nf_5 : List Value := [.null, .null, .null, .null, .null, .null, .null, .int 0, .int 0, .int 0, .int 0, .int 0, .int 0, .null]
def nf_6 : List Value := [.null, .null]
def nf_7 : List Value := [.null, .null, .null, .null, .null, .null, .null, .null, .null, .null, .int 0, .int 0]
def nf_8 : List Value := [.null, .null, .null, .int 0, .null, .null, .null, .null, .null, .null, .null, .null, .null, .null, .null, .null, .int 0, .int 0, .int 0, .int 0, .int 0, .int 0, .int 0, .int 0, .int 0, .int 0, .int 0, .null, .null, .null, .null, .int 0, .null]
theorem pz_at (i : Nat) {w : Cond} (h : lw_tbl[i]? = some w) (hg : goodWord w = true) : w ∈ pz_TB := List.mem_filter.mpr ⟨List.mem_of_getElem? h, hg⟩
theorem pz_f3 {a b c : Cond} (h1 : a ∈ pz_TB) (h2 : b ∈ pz_TB) (h3 : c ∈ pz_TB) : ∀ w ∈ ([a, b, c] : List Cond), w ∈ pz_TB := List.forall_mem_cons.mpr ⟨h1, List.forall_mem_cons.mpr ⟨h2, List.forall_mem_cons.mpr ⟨h3, fun _ h => absurd h List.not_mem_nil⟩⟩⟩
theorem pz_f4 {a b c d : Cond} (h1 : a ∈ pz_TB) (h2 : b ∈ pz_TB) (h3 : c ∈ pz_TB) (h4 : d ∈ pz_TB) : ∀ w ∈ ([a, b, c, d] : List Cond), w ∈ pz_TB := List.forall_mem_cons.mpr ⟨h1, pz_f3 h2 h3 h4⟩
theorem pz_f5 {a b c d e : Cond} (h1 : a ∈ pz_TB) (h2 : b ∈ pz_TB) (h3 : c ∈ pz_TB) (h4 : d ∈ pz_TB) (h5 : e ∈ pz_TB) : ∀ w ∈ ([a, b, c, d, e] : List Cond), w ∈ pz_TB := List.forall_mem_cons.mpr ⟨h1, pz_f4 h2 h3 h4 h5⟩
theorem wm_X9_1 : Cond.methodLink RX9 1 Lib.objectInit ∈ pz_TB := pz_at 86 (by decide +kernel) rfl
theorem woi1 : Cond.instanceMethod Lib.objectInit ∈ pz_TB := pz_at 87 (by decide +kernel) rfl
theorem woi2 : Cond.code Lib.objectInit ⟨#[0xb1]⟩ 1 none ∈ pz_TB := pz_at 88 (by decide +kernel) rfl
theorem wk_X9_7 : Cond.classLink RX9 7 RX1 ∈ pz_TB := pz_at 89 (by decide +kernel) rfl
theorem wi_RX1 : Cond.instantiable RX1 2 ∈ pz_TB := pz_at 90 (by decide +kernel) rfl
theorem wn_RX1 : Cond.initialized RX1 ∈ pz_TB := pz_at 64 (by decide +kernel) rfl
theorem w93 : Cond.code yX1_init cX1_init 1 none ∈ pz_TB := pz_at 93 (by decide +kernel) rfl
theorem w64 : Cond.initialized RX1 ∈ pz_TB := pz_at 64 (by decide +kernel) rfl
theorem w92 : Cond.instanceMethod yX1_init ∈ pz_TB := pz_at 92 (by decide +kernel) rfl
theorem wf_X9_10 : Cond.fieldLink RX9 10 "LittlePot" "laws" "LLittlePot$Laws;" ∈ pz_TB := pz_at 285 (by decide +kernel) rfl
theorem wk_X9_16 : Cond.classLink RX9 16 RX7 ∈ pz_TB := pz_at 105 (by decide +kernel) rfl
theorem wi_RX7 : Cond.instantiable RX7 14 ∈ pz_TB := pz_at 106 (by decide +kernel) rfl
theorem wn_RX7 : Cond.initialized RX7 ∈ pz_TB := pz_at 65 (by decide +kernel) rfl
theorem w109 : Cond.code yX7_init cX7_init 2 none ∈ pz_TB := pz_at 109 (by decide +kernel) rfl
theorem w65 : Cond.initialized RX7 ∈ pz_TB := pz_at 65 (by decide +kernel) rfl
theorem w107 : Cond.methodLink RX9 18 yX7_init ∈ pz_TB := pz_at 107 (by decide +kernel) rfl
theorem w108 : Cond.instanceMethod yX7_init ∈ pz_TB := pz_at 108 (by decide +kernel) rfl
theorem wf_X9_21 : Cond.fieldLink RX9 21 "LittlePot" "now" "LLittlePot$Town;" ∈ pz_TB := pz_at 286 (by decide +kernel) rfl
theorem wf_X9_25 : Cond.fieldLink RX9 25 "LittlePot" "image" "LLittlePot$Town;" ∈ pz_TB := pz_at 287 (by decide +kernel) rfl
theorem wf_X9_28 : Cond.fieldLink RX9 28 "LittlePot" "thought" "LLittlePot$Town;" ∈ pz_TB := pz_at 288 (by decide +kernel) rfl
theorem wf_X9_31 : Cond.fieldLink RX9 31 "LittlePot" "trunk" "LLittlePot$Town;" ∈ pz_TB := pz_at 289 (by decide +kernel) rfl
theorem wk_X9_34 : Cond.classLink RX9 34 RX3 ∈ pz_TB := pz_at 167 (by decide +kernel) rfl
theorem wi_RX3 : Cond.instantiable RX3 8 ∈ pz_TB := pz_at 168 (by decide +kernel) rfl
theorem wn_RX3 : Cond.initialized RX3 ∈ pz_TB := pz_at 66 (by decide +kernel) rfl
theorem w171 : Cond.code yX3_init cX3_init 1 none ∈ pz_TB := pz_at 171 (by decide +kernel) rfl
theorem w66 : Cond.initialized RX3 ∈ pz_TB := pz_at 66 (by decide +kernel) rfl
theorem w170 : Cond.instanceMethod yX3_init ∈ pz_TB := pz_at 170 (by decide +kernel) rfl
theorem wf_X9_37 : Cond.fieldLink RX9 37 "LittlePot" "reader" "LLittlePot$Reader;" ∈ pz_TB := pz_at 290 (by decide +kernel) rfl
theorem wk_X9_41 : Cond.classLink RX9 41 RX8 ∈ pz_TB := pz_at 227 (by decide +kernel) rfl
theorem wi_RX8 : Cond.instantiable RX8 2 ∈ pz_TB := pz_at 228 (by decide +kernel) rfl
theorem wn_RX8 : Cond.initialized RX8 ∈ pz_TB := pz_at 68 (by decide +kernel) rfl
theorem w231 : Cond.code yX8_init cX8_init 1 none ∈ pz_TB := pz_at 231 (by decide +kernel) rfl
theorem w68 : Cond.initialized RX8 ∈ pz_TB := pz_at 68 (by decide +kernel) rfl
theorem w230 : Cond.instanceMethod yX8_init ∈ pz_TB := pz_at 230 (by decide +kernel) rfl
theorem wf_X9_44 : Cond.fieldLink RX9 44 "LittlePot" "ways" "LLittlePot$Ways;" ∈ pz_TB := pz_at 291 (by decide +kernel) rfl
theorem wk_X9_48 : Cond.classLink RX9 48 RX4 ∈ pz_TB := pz_at 240 (by decide +kernel) rfl
theorem wf_X9_50 : Cond.fieldLink RX9 50 "LittlePot" "sheets" "[LLittlePot$Sheet;" ∈ pz_TB := pz_at 292 (by decide +kernel) rfl
theorem wk_X9_54 : Cond.classLink RX9 54 RX5 ∈ pz_TB := pz_at 242 (by decide +kernel) rfl
theorem wf_X9_56 : Cond.fieldLink RX9 56 "LittlePot" "slots" "[LLittlePot$Slot;" ∈ pz_TB := pz_at 293 (by decide +kernel) rfl
theorem wa_int : Cond.arrayClass .int ∈ pz_TB := pz_at 104 (by decide +kernel) rfl
theorem wf_X9_60 : Cond.fieldLink RX9 60 "LittlePot" "waiting" "[I" ∈ pz_TB := pz_at 294 (by decide +kernel) rfl
theorem wi_RX4 : Cond.instantiable RX4 3 ∈ pz_TB := pz_at 244 (by decide +kernel) rfl
theorem wn_RX4 : Cond.initialized RX4 ∈ pz_TB := pz_at 69 (by decide +kernel) rfl
theorem w247 : Cond.code yX4_init cX4_init 1 none ∈ pz_TB := pz_at 247 (by decide +kernel) rfl
theorem w69 : Cond.initialized RX4 ∈ pz_TB := pz_at 69 (by decide +kernel) rfl
theorem w246 : Cond.instanceMethod yX4_init ∈ pz_TB := pz_at 246 (by decide +kernel) rfl
theorem wi_RX5 : Cond.instantiable RX5 5 ∈ pz_TB := pz_at 261 (by decide +kernel) rfl
theorem wn_RX5 : Cond.initialized RX5 ∈ pz_TB := pz_at 70 (by decide +kernel) rfl
theorem w264 : Cond.code yX5_init cX5_init 1 none ∈ pz_TB := pz_at 264 (by decide +kernel) rfl
theorem w70 : Cond.initialized RX5 ∈ pz_TB := pz_at 70 (by decide +kernel) rfl
theorem w263 : Cond.instanceMethod yX5_init ∈ pz_TB := pz_at 263 (by decide +kernel) rfl
theorem w328 : Cond.code yX0_isKind cX0_isKind 1 (some .boolean) ∈ pz_TB := pz_at 328 (by decide +kernel) rfl
theorem w72 : Cond.initialized RX0 ∈ pz_TB := pz_at 72 (by decide +kernel) rfl
theorem w326 : Cond.methodLink RX9 66 yX0_isKind ∈ pz_TB := pz_at 326 (by decide +kernel) rfl
theorem w327 : Cond.static yX0_isKind ∈ pz_TB := pz_at 327 (by decide +kernel) rfl
theorem w334 : Cond.code yX9_isCell cX9_isCell 1 (some .boolean) ∈ pz_TB := pz_at 334 (by decide +kernel) rfl
theorem w63 : Cond.initialized RX9 ∈ pz_TB := pz_at 63 (by decide +kernel) rfl
theorem w332 : Cond.methodLink RX9 72 yX9_isCell ∈ pz_TB := pz_at 332 (by decide +kernel) rfl
theorem w333 : Cond.static yX9_isCell ∈ pz_TB := pz_at 333 (by decide +kernel) rfl
theorem wc_X9_75 : Cond.constant RX9 75 (-1000000001) ∈ pz_TB := pz_at 336 (by decide +kernel) rfl
theorem wf_X9_76 : Cond.fieldLink RX9 76 "LittlePot$Town" "eaters" "I" ∈ pz_TB := pz_at 125 (by decide +kernel) rfl
theorem w340 : Cond.code yX7_comes cX7_comes 4 (some .int) ∈ pz_TB := pz_at 340 (by decide +kernel) rfl
theorem w337 : Cond.methodLink RX9 80 yX7_comes ∈ pz_TB := pz_at 337 (by decide +kernel) rfl
theorem w338 : Cond.instanceMethod yX7_comes ∈ pz_TB := pz_at 338 (by decide +kernel) rfl
theorem w339 : Cond.selects RX7 yX7_comes yX7_comes ∈ pz_TB := pz_at 339 (by decide +kernel) rfl
theorem wc_X9_84 : Cond.constant RX9 84 (-1000000003) ∈ pz_TB := pz_at 341 (by decide +kernel) rfl
theorem w349 : Cond.code yX7_hasEater cX7_hasEater 2 (some .boolean) ∈ pz_TB := pz_at 349 (by decide +kernel) rfl
theorem w346 : Cond.methodLink RX9 85 yX7_hasEater ∈ pz_TB := pz_at 346 (by decide +kernel) rfl
theorem w347 : Cond.instanceMethod yX7_hasEater ∈ pz_TB := pz_at 347 (by decide +kernel) rfl
theorem w348 : Cond.selects RX7 yX7_hasEater yX7_hasEater ∈ pz_TB := pz_at 348 (by decide +kernel) rfl
theorem wf_X9_88 : Cond.fieldLink RX9 88 "LittlePot$Town" "kinds" "[I" ∈ pz_TB := pz_at 118 (by decide +kernel) rfl
theorem wf_X9_91 : Cond.fieldLink RX9 91 "LittlePot$Town" "places" "[I" ∈ pz_TB := pz_at 120 (by decide +kernel) rfl
theorem wf_X9_94 : Cond.fieldLink RX9 94 "LittlePot$Town" "ates" "[I" ∈ pz_TB := pz_at 122 (by decide +kernel) rfl
theorem wf_X9_97 : Cond.fieldLink RX9 97 "LittlePot$Town" "parts" "[I" ∈ pz_TB := pz_at 116 (by decide +kernel) rfl
theorem w353 : Cond.code yX0_eats cX0_eats 2 (some .int) ∈ pz_TB := pz_at 353 (by decide +kernel) rfl
theorem w351 : Cond.methodLink RX9 100 yX0_eats ∈ pz_TB := pz_at 351 (by decide +kernel) rfl
theorem w352 : Cond.static yX0_eats ∈ pz_TB := pz_at 352 (by decide +kernel) rfl
theorem w356 : Cond.code yX0_wades cX0_wades 1 (some .int) ∈ pz_TB := pz_at 356 (by decide +kernel) rfl
theorem w354 : Cond.methodLink RX9 103 yX0_wades ∈ pz_TB := pz_at 354 (by decide +kernel) rfl
theorem w355 : Cond.static yX0_wades ∈ pz_TB := pz_at 355 (by decide +kernel) rfl
theorem w359 : Cond.code yX0_worth cX0_worth 2 (some .int) ∈ pz_TB := pz_at 359 (by decide +kernel) rfl
theorem w357 : Cond.methodLink RX9 107 yX0_worth ∈ pz_TB := pz_at 357 (by decide +kernel) rfl
theorem w358 : Cond.static yX0_worth ∈ pz_TB := pz_at 358 (by decide +kernel) rfl
theorem w331 : Cond.code yX9_within cX9_within 3 (some .boolean) ∈ pz_TB := pz_at 331 (by decide +kernel) rfl
theorem w335 : Cond.methodLink RX9 110 yX9_within ∈ pz_TB := pz_at 335 (by decide +kernel) rfl
theorem w330 : Cond.static yX9_within ∈ pz_TB := pz_at 330 (by decide +kernel) rfl
theorem w373 : Cond.code yX7_level cX7_level 2 (some .int) ∈ pz_TB := pz_at 373 (by decide +kernel) rfl
theorem w370 : Cond.methodLink RX9 114 yX7_level ∈ pz_TB := pz_at 370 (by decide +kernel) rfl
theorem w371 : Cond.instanceMethod yX7_level ∈ pz_TB := pz_at 371 (by decide +kernel) rfl
theorem w372 : Cond.selects RX7 yX7_level yX7_level ∈ pz_TB := pz_at 372 (by decide +kernel) rfl
theorem w377 : Cond.code yX7_laid cX7_laid 2 (some (.array .int)) ∈ pz_TB := pz_at 377 (by decide +kernel) rfl
theorem w374 : Cond.methodLink RX9 117 yX7_laid ∈ pz_TB := pz_at 374 (by decide +kernel) rfl
theorem w375 : Cond.instanceMethod yX7_laid ∈ pz_TB := pz_at 375 (by decide +kernel) rfl
theorem w376 : Cond.selects RX7 yX7_laid yX7_laid ∈ pz_TB := pz_at 376 (by decide +kernel) rfl
theorem wf_X9_121 : Cond.fieldLink RX9 121 "LittlePot" "LAID_MOST" "[I" ∈ pz_TB := pz_at 382 (by decide +kernel) rfl
theorem w390 : Cond.code yX0_isUnder cX0_isUnder 4 (some .boolean) ∈ pz_TB := pz_at 390 (by decide +kernel) rfl
theorem w388 : Cond.methodLink RX9 124 yX0_isUnder ∈ pz_TB := pz_at 388 (by decide +kernel) rfl
theorem w389 : Cond.static yX0_isUnder ∈ pz_TB := pz_at 389 (by decide +kernel) rfl
theorem wc_X9_128 : Cond.constant RX9 128 (-1000000012) ∈ pz_TB := pz_at 394 (by decide +kernel) rfl
theorem wf_X9_129 : Cond.fieldLink RX9 129 "LittlePot$Town" "pot" "I" ∈ pz_TB := pz_at 128 (by decide +kernel) rfl
theorem wf_X9_132 : Cond.fieldLink RX9 132 "LittlePot$Town" "cooks" "Z" ∈ pz_TB := pz_at 130 (by decide +kernel) rfl
theorem wc_X9_136 : Cond.constant RX9 136 (-1000000002) ∈ pz_TB := pz_at 411 (by decide +kernel) rfl
theorem wf_X9_137 : Cond.fieldLink RX9 137 "LittlePot$Town" "rules" "[I" ∈ pz_TB := pz_at 124 (by decide +kernel) rfl
theorem wf_X9_140 : Cond.fieldLink RX9 140 "LittlePot" "RULE_MOST" "[I" ∈ pz_TB := pz_at 412 (by decide +kernel) rfl
theorem wm_X9_143 : Cond.methodLink RX9 143 Lib.Math.min.name ∈ pz_TB := pz_at 414 (by decide +kernel) rfl
theorem wms_min : Cond.static Lib.Math.min.name ∈ pz_TB := pz_at 415 (by decide +kernel) rfl
theorem wmi : Cond.initialized "java/lang/Math" ∈ pz_TB := pz_at 73 (by decide +kernel) rfl
theorem wmc_min : Cond.code Lib.Math.min.name Lib.Math.min.code 2 (some .int) ∈ pz_TB := pz_at 416 (by decide +kernel) rfl
theorem w428 : Cond.code yX7_draw cX7_draw 1 (some .int) ∈ pz_TB := pz_at 428 (by decide +kernel) rfl
theorem w425 : Cond.methodLink RX9 148 yX7_draw ∈ pz_TB := pz_at 425 (by decide +kernel) rfl
theorem w426 : Cond.instanceMethod yX7_draw ∈ pz_TB := pz_at 426 (by decide +kernel) rfl
theorem w427 : Cond.selects RX7 yX7_draw yX7_draw ∈ pz_TB := pz_at 427 (by decide +kernel) rfl
theorem wf_X9_152 : Cond.fieldLink RX9 152 "LittlePot$Town" "z" "I" ∈ pz_TB := pz_at 134 (by decide +kernel) rfl
theorem w441 : Cond.code yX7_allAte cX7_allAte 3 (some .int) ∈ pz_TB := pz_at 441 (by decide +kernel) rfl
theorem w438 : Cond.methodLink RX9 155 yX7_allAte ∈ pz_TB := pz_at 438 (by decide +kernel) rfl
theorem w439 : Cond.instanceMethod yX7_allAte ∈ pz_TB := pz_at 439 (by decide +kernel) rfl
theorem w440 : Cond.selects RX7 yX7_allAte yX7_allAte ∈ pz_TB := pz_at 440 (by decide +kernel) rfl
theorem wf_X9_158 : Cond.fieldLink RX9 158 "LittlePot$Town" "minute" "I" ∈ pz_TB := pz_at 132 (by decide +kernel) rfl
theorem w445 : Cond.code yX7_passes cX7_passes 3 none ∈ pz_TB := pz_at 445 (by decide +kernel) rfl
theorem w442 : Cond.methodLink RX9 161 yX7_passes ∈ pz_TB := pz_at 442 (by decide +kernel) rfl
theorem w443 : Cond.instanceMethod yX7_passes ∈ pz_TB := pz_at 443 (by decide +kernel) rfl
theorem w444 : Cond.selects RX7 yX7_passes yX7_passes ∈ pz_TB := pz_at 444 (by decide +kernel) rfl
theorem w512 : Cond.code yX7_allParts cX7_allParts 3 (some .int) ∈ pz_TB := pz_at 512 (by decide +kernel) rfl
theorem w509 : Cond.methodLink RX9 165 yX7_allParts ∈ pz_TB := pz_at 509 (by decide +kernel) rfl
theorem w510 : Cond.instanceMethod yX7_allParts ∈ pz_TB := pz_at 510 (by decide +kernel) rfl
theorem w511 : Cond.selects RX7 yX7_allParts yX7_allParts ∈ pz_TB := pz_at 511 (by decide +kernel) rfl
theorem w516 : Cond.code yX7_wetCells cX7_wetCells 3 (some .int) ∈ pz_TB := pz_at 516 (by decide +kernel) rfl
theorem w513 : Cond.methodLink RX9 168 yX7_wetCells ∈ pz_TB := pz_at 513 (by decide +kernel) rfl
theorem w514 : Cond.instanceMethod yX7_wetCells ∈ pz_TB := pz_at 514 (by decide +kernel) rfl
theorem w515 : Cond.selects RX7 yX7_wetCells yX7_wetCells ∈ pz_TB := pz_at 515 (by decide +kernel) rfl
theorem w453 : Cond.code yX7_pours cX7_pours 3 (some .int) ∈ pz_TB := pz_at 453 (by decide +kernel) rfl
theorem w517 : Cond.methodLink RX9 171 yX7_pours ∈ pz_TB := pz_at 517 (by decide +kernel) rfl
theorem w451 : Cond.instanceMethod yX7_pours ∈ pz_TB := pz_at 451 (by decide +kernel) rfl
theorem w452 : Cond.selects RX7 yX7_pours yX7_pours ∈ pz_TB := pz_at 452 (by decide +kernel) rfl
theorem w525 : Cond.code yX8_fewest cX8_fewest 9 (some .int) ∈ pz_TB := pz_at 525 (by decide +kernel) rfl
theorem w522 : Cond.methodLink RX9 174 yX8_fewest ∈ pz_TB := pz_at 522 (by decide +kernel) rfl
theorem w523 : Cond.instanceMethod yX8_fewest ∈ pz_TB := pz_at 523 (by decide +kernel) rfl
theorem w524 : Cond.selects RX8 yX8_fewest yX8_fewest ∈ pz_TB := pz_at 524 (by decide +kernel) rfl
theorem w535 : Cond.code yX7_becomes cX7_becomes 2 none ∈ pz_TB := pz_at 535 (by decide +kernel) rfl
theorem w532 : Cond.methodLink RX9 178 yX7_becomes ∈ pz_TB := pz_at 532 (by decide +kernel) rfl
theorem w533 : Cond.instanceMethod yX7_becomes ∈ pz_TB := pz_at 533 (by decide +kernel) rfl
theorem w534 : Cond.selects RX7 yX7_becomes yX7_becomes ∈ pz_TB := pz_at 534 (by decide +kernel) rfl
theorem w449 : Cond.code yX7_pass cX7_pass 2 none ∈ pz_TB := pz_at 449 (by decide +kernel) rfl
theorem w543 : Cond.methodLink RX9 182 yX7_pass ∈ pz_TB := pz_at 543 (by decide +kernel) rfl
theorem w447 : Cond.instanceMethod yX7_pass ∈ pz_TB := pz_at 447 (by decide +kernel) rfl
theorem w448 : Cond.selects RX7 yX7_pass yX7_pass ∈ pz_TB := pz_at 448 (by decide +kernel) rfl
theorem wc_X9_185 : Cond.constant RX9 185 (-1000000005) ∈ pz_TB := pz_at 544 (by decide +kernel) rfl
theorem wc_X9_186 : Cond.constant RX9 186 (2147483647) ∈ pz_TB := pz_at 553 (by decide +kernel) rfl
theorem wf_X9_187 : Cond.fieldLink RX9 187 "LittlePot$Town" "walls" "[I" ∈ pz_TB := pz_at 114 (by decide +kernel) rfl
theorem w564 : Cond.code yX9_isSheet cX9_isSheet 1 (some .boolean) ∈ pz_TB := pz_at 564 (by decide +kernel) rfl
theorem w562 : Cond.methodLink RX9 190 yX9_isSheet ∈ pz_TB := pz_at 562 (by decide +kernel) rfl
theorem w563 : Cond.static yX9_isSheet ∈ pz_TB := pz_at 563 (by decide +kernel) rfl
theorem w568 : Cond.code yX4_isMissing cX4_isMissing 1 (some .boolean) ∈ pz_TB := pz_at 568 (by decide +kernel) rfl
theorem w565 : Cond.methodLink RX9 193 yX4_isMissing ∈ pz_TB := pz_at 565 (by decide +kernel) rfl
theorem w566 : Cond.instanceMethod yX4_isMissing ∈ pz_TB := pz_at 566 (by decide +kernel) rfl
theorem w567 : Cond.selects RX4 yX4_isMissing yX4_isMissing ∈ pz_TB := pz_at 567 (by decide +kernel) rfl
theorem wc_X9_197 : Cond.constant RX9 197 (-1000000011) ∈ pz_TB := pz_at 569 (by decide +kernel) rfl
theorem w573 : Cond.code yX4_differsFrom cX4_differsFrom 4 (some .int) ∈ pz_TB := pz_at 573 (by decide +kernel) rfl
theorem w570 : Cond.methodLink RX9 198 yX4_differsFrom ∈ pz_TB := pz_at 570 (by decide +kernel) rfl
theorem w571 : Cond.instanceMethod yX4_differsFrom ∈ pz_TB := pz_at 571 (by decide +kernel) rfl
theorem w572 : Cond.selects RX4 yX4_differsFrom yX4_differsFrom ∈ pz_TB := pz_at 572 (by decide +kernel) rfl
theorem wf_X9_202 : Cond.fieldLink RX9 202 "LittlePot$Town" "texts" "I" ∈ pz_TB := pz_at 136 (by decide +kernel) rfl
theorem w457 : Cond.code yX1_counting cX1_counting 3 (some (.object "LittlePot$Text")) ∈ pz_TB := pz_at 457 (by decide +kernel) rfl
theorem w586 : Cond.methodLink RX9 205 yX1_counting ∈ pz_TB := pz_at 586 (by decide +kernel) rfl
theorem w455 : Cond.instanceMethod yX1_counting ∈ pz_TB := pz_at 455 (by decide +kernel) rfl
theorem w456 : Cond.selects RX1 yX1_counting yX1_counting ∈ pz_TB := pz_at 456 (by decide +kernel) rfl
theorem w471 : Cond.code yX1_given cX1_given 8 (some .int) ∈ pz_TB := pz_at 471 (by decide +kernel) rfl
theorem w587 : Cond.methodLink RX9 209 yX1_given ∈ pz_TB := pz_at 587 (by decide +kernel) rfl
theorem w469 : Cond.instanceMethod yX1_given ∈ pz_TB := pz_at 469 (by decide +kernel) rfl
theorem w470 : Cond.selects RX1 yX1_given yX1_given ∈ pz_TB := pz_at 470 (by decide +kernel) rfl
theorem wf_X9_213 : Cond.fieldLink RX9 213 "LittlePot$Reader" "length" "I" ∈ pz_TB := pz_at 202 (by decide +kernel) rfl
theorem w599 : Cond.code yX3_getsNumber cX3_getsNumber 3 none ∈ pz_TB := pz_at 599 (by decide +kernel) rfl
theorem w596 : Cond.methodLink RX9 216 yX3_getsNumber ∈ pz_TB := pz_at 596 (by decide +kernel) rfl
theorem w597 : Cond.instanceMethod yX3_getsNumber ∈ pz_TB := pz_at 597 (by decide +kernel) rfl
theorem w598 : Cond.selects RX3 yX3_getsNumber yX3_getsNumber ∈ pz_TB := pz_at 598 (by decide +kernel) rfl
theorem w611 : Cond.code yX3_findsFault cX3_findsFault 2 (some .int) ∈ pz_TB := pz_at 611 (by decide +kernel) rfl
theorem w608 : Cond.methodLink RX9 219 yX3_findsFault ∈ pz_TB := pz_at 608 (by decide +kernel) rfl
theorem w609 : Cond.instanceMethod yX3_findsFault ∈ pz_TB := pz_at 609 (by decide +kernel) rfl
theorem w610 : Cond.selects RX3 yX3_findsFault yX3_findsFault ∈ pz_TB := pz_at 610 (by decide +kernel) rfl
theorem wf_X9_222 : Cond.fieldLink RX9 222 "LittlePot$Reader" "draft" "LLittlePot$Text;" ∈ pz_TB := pz_at 200 (by decide +kernel) rfl
theorem w797 : Cond.code yX1_takes cX1_takes 4 (some (.object "LittlePot$Text")) ∈ pz_TB := pz_at 797 (by decide +kernel) rfl
theorem w794 : Cond.methodLink RX9 226 yX1_takes ∈ pz_TB := pz_at 794 (by decide +kernel) rfl
theorem w795 : Cond.instanceMethod yX1_takes ∈ pz_TB := pz_at 795 (by decide +kernel) rfl
theorem w796 : Cond.selects RX1 yX1_takes yX1_takes ∈ pz_TB := pz_at 796 (by decide +kernel) rfl
theorem w466 : Cond.code yX1_numbered cX1_numbered 2 (some (.object "LittlePot$Text")) ∈ pz_TB := pz_at 466 (by decide +kernel) rfl
theorem w803 : Cond.methodLink RX9 230 yX1_numbered ∈ pz_TB := pz_at 803 (by decide +kernel) rfl
theorem w464 : Cond.instanceMethod yX1_numbered ∈ pz_TB := pz_at 464 (by decide +kernel) rfl
theorem w465 : Cond.selects RX1 yX1_numbered yX1_numbered ∈ pz_TB := pz_at 465 (by decide +kernel) rfl
theorem wf_X9_234 : Cond.fieldLink RX9 234 "LittlePot$Text" "key" "I" ∈ pz_TB := pz_at 186 (by decide +kernel) rfl
theorem wf_X9_239 : Cond.fieldLink RX9 239 "LittlePot$Text" "leaves" "I" ∈ pz_TB := pz_at 189 (by decide +kernel) rfl
theorem w461 : Cond.code yX1_last cX1_last 4 (some .int) ∈ pz_TB := pz_at 461 (by decide +kernel) rfl
theorem w808 : Cond.methodLink RX9 242 yX1_last ∈ pz_TB := pz_at 808 (by decide +kernel) rfl
theorem w459 : Cond.instanceMethod yX1_last ∈ pz_TB := pz_at 459 (by decide +kernel) rfl
theorem w460 : Cond.selects RX1 yX1_last yX1_last ∈ pz_TB := pz_at 460 (by decide +kernel) rfl
theorem w816 : Cond.code yX4_becomes cX4_becomes 4 none ∈ pz_TB := pz_at 816 (by decide +kernel) rfl
theorem w813 : Cond.methodLink RX9 245 yX4_becomes ∈ pz_TB := pz_at 813 (by decide +kernel) rfl
theorem w814 : Cond.instanceMethod yX4_becomes ∈ pz_TB := pz_at 814 (by decide +kernel) rfl
theorem w815 : Cond.selects RX4 yX4_becomes yX4_becomes ∈ pz_TB := pz_at 815 (by decide +kernel) rfl
theorem wc_X9_248 : Cond.constant RX9 248 (-1000000014) ∈ pz_TB := pz_at 817 (by decide +kernel) rfl
theorem w825 : Cond.code yX4_hasPlace cX4_hasPlace 2 (some .boolean) ∈ pz_TB := pz_at 825 (by decide +kernel) rfl
theorem w822 : Cond.methodLink RX9 249 yX4_hasPlace ∈ pz_TB := pz_at 822 (by decide +kernel) rfl
theorem w823 : Cond.instanceMethod yX4_hasPlace ∈ pz_TB := pz_at 823 (by decide +kernel) rfl
theorem w824 : Cond.selects RX4 yX4_hasPlace yX4_hasPlace ∈ pz_TB := pz_at 824 (by decide +kernel) rfl
theorem wc_X9_252 : Cond.constant RX9 252 (-1000000013) ∈ pz_TB := pz_at 827 (by decide +kernel) rfl
theorem wf_X9_253 : Cond.fieldLink RX9 253 "LittlePot$Sheet" "sort" "I" ∈ pz_TB := pz_at 252 (by decide +kernel) rfl
theorem wf_X9_256 : Cond.fieldLink RX9 256 "LittlePot$Sheet" "places" "[I" ∈ pz_TB := pz_at 250 (by decide +kernel) rfl
theorem wc_X9_257 : Cond.constant RX9 257 (-99999) ∈ pz_TB := pz_at 828 (by decide +kernel) rfl
theorem wc_X9_258 : Cond.constant RX9 258 (99999) ∈ pz_TB := pz_at 829 (by decide +kernel) rfl
theorem wf_X9_259 : Cond.fieldLink RX9 259 "LittlePot$Town" "heights" "[I" ∈ pz_TB := pz_at 112 (by decide +kernel) rfl
theorem w837 : Cond.code yX4_poursInto cX4_poursInto 5 (some .int) ∈ pz_TB := pz_at 837 (by decide +kernel) rfl
theorem w834 : Cond.methodLink RX9 262 yX4_poursInto ∈ pz_TB := pz_at 834 (by decide +kernel) rfl
theorem w835 : Cond.instanceMethod yX4_poursInto ∈ pz_TB := pz_at 835 (by decide +kernel) rfl
theorem w836 : Cond.selects RX4 yX4_poursInto yX4_poursInto ∈ pz_TB := pz_at 836 (by decide +kernel) rfl
theorem w848 : Cond.code yX4_firstUnlike cX4_firstUnlike 3 (some .int) ∈ pz_TB := pz_at 848 (by decide +kernel) rfl
theorem w845 : Cond.methodLink RX9 265 yX4_firstUnlike ∈ pz_TB := pz_at 845 (by decide +kernel) rfl
theorem w846 : Cond.instanceMethod yX4_firstUnlike ∈ pz_TB := pz_at 846 (by decide +kernel) rfl
theorem w847 : Cond.selects RX4 yX4_firstUnlike yX4_firstUnlike ∈ pz_TB := pz_at 847 (by decide +kernel) rfl
theorem w856 : Cond.code yX4_hasPlaces cX4_hasPlaces 3 (some .boolean) ∈ pz_TB := pz_at 856 (by decide +kernel) rfl
theorem w853 : Cond.methodLink RX9 268 yX4_hasPlaces ∈ pz_TB := pz_at 853 (by decide +kernel) rfl
theorem w854 : Cond.instanceMethod yX4_hasPlaces ∈ pz_TB := pz_at 854 (by decide +kernel) rfl
theorem w855 : Cond.selects RX4 yX4_hasPlaces yX4_hasPlaces ∈ pz_TB := pz_at 855 (by decide +kernel) rfl
theorem wm_X9_271 : Cond.methodLink RX9 271 arraycopyName ∈ pz_TB := pz_at 857 (by decide +kernel) rfl
theorem wac1 : Cond.native arraycopyName ∈ pz_TB := pz_at 538 (by decide +kernel) rfl
theorem wac2 : Cond.static arraycopyName ∈ pz_TB := pz_at 537 (by decide +kernel) rfl
theorem wac3 : Cond.initialized "java/lang/System" ∈ pz_TB := pz_at 75 (by decide +kernel) rfl
theorem w864 : Cond.code yX9_isSlot cX9_isSlot 1 (some .boolean) ∈ pz_TB := pz_at 864 (by decide +kernel) rfl
theorem w862 : Cond.methodLink RX9 277 yX9_isSlot ∈ pz_TB := pz_at 862 (by decide +kernel) rfl
theorem w863 : Cond.static yX9_isSlot ∈ pz_TB := pz_at 863 (by decide +kernel) rfl
theorem wf_X9_280 : Cond.fieldLink RX9 280 "LittlePot$Slot" "thing" "I" ∈ pz_TB := pz_at 268 (by decide +kernel) rfl
theorem wf_X9_283 : Cond.fieldLink RX9 283 "LittlePot$Slot" "kind" "I" ∈ pz_TB := pz_at 269 (by decide +kernel) rfl
theorem wf_X9_286 : Cond.fieldLink RX9 286 "LittlePot$Slot" "ate" "I" ∈ pz_TB := pz_at 270 (by decide +kernel) rfl
theorem wf_X9_289 : Cond.fieldLink RX9 289 "LittlePot$Slot" "row" "LLittlePot$Sheet;" ∈ pz_TB := pz_at 273 (by decide +kernel) rfl
theorem w868 : Cond.code yX4_becomes_ cX4_becomes_ 2 none ∈ pz_TB := pz_at 868 (by decide +kernel) rfl
theorem w865 : Cond.methodLink RX9 293 yX4_becomes_ ∈ pz_TB := pz_at 865 (by decide +kernel) rfl
theorem w866 : Cond.instanceMethod yX4_becomes_ ∈ pz_TB := pz_at 866 (by decide +kernel) rfl
theorem w867 : Cond.selects RX4 yX4_becomes_ yX4_becomes_ ∈ pz_TB := pz_at 867 (by decide +kernel) rfl
theorem wf_X9_296 : Cond.fieldLink RX9 296 "LittlePot$Slot" "number" "I" ∈ pz_TB := pz_at 271 (by decide +kernel) rfl
theorem w877 : Cond.code yX9_unlessHeld cX9_unlessHeld 3 (some .int) ∈ pz_TB := pz_at 877 (by decide +kernel) rfl
theorem w874 : Cond.methodLink RX9 299 yX9_unlessHeld ∈ pz_TB := pz_at 874 (by decide +kernel) rfl
theorem w876 : Cond.instanceMethod yX9_unlessHeld ∈ pz_TB := pz_at 876 (by decide +kernel) rfl
theorem w20 : Cond.selects RX9 yX9_unlessHeld yX9_unlessHeld ∈ pz_TB := pz_at 20 (by decide +kernel) rfl
theorem w577 : Cond.code yX4_isNumber cX4_isNumber 2 (some .boolean) ∈ pz_TB := pz_at 577 (by decide +kernel) rfl
theorem w882 : Cond.methodLink RX9 302 yX4_isNumber ∈ pz_TB := pz_at 882 (by decide +kernel) rfl
theorem w575 : Cond.instanceMethod yX4_isNumber ∈ pz_TB := pz_at 575 (by decide +kernel) rfl
theorem w576 : Cond.selects RX4 yX4_isNumber yX4_isNumber ∈ pz_TB := pz_at 576 (by decide +kernel) rfl
theorem wf_X9_305 : Cond.fieldLink RX9 305 "LittlePot" "waits" "I" ∈ pz_TB := pz_at 296 (by decide +kernel) rfl
theorem wf_X9_308 : Cond.fieldLink RX9 308 "LittlePot" "kept" "Z" ∈ pz_TB := pz_at 295 (by decide +kernel) rfl
theorem w898 : Cond.code yX9_waited cX9_waited 4 (some .boolean) ∈ pz_TB := pz_at 898 (by decide +kernel) rfl
theorem w895 : Cond.methodLink RX9 311 yX9_waited ∈ pz_TB := pz_at 895 (by decide +kernel) rfl
theorem w897 : Cond.instanceMethod yX9_waited ∈ pz_TB := pz_at 897 (by decide +kernel) rfl
theorem w21 : Cond.selects RX9 yX9_waited yX9_waited ∈ pz_TB := pz_at 21 (by decide +kernel) rfl
theorem wm_X10_1 : Cond.methodLink RX10 1 Lib.objectInit ∈ pz_TB := pz_at 916 (by decide +kernel) rfl
theorem wf_X10_7 : Cond.fieldLink RX10 7 "LittlePotModel" "s" "[I" ∈ pz_TB := pz_at 917 (by decide +kernel) rfl
theorem wf_X10_13 : Cond.fieldLink RX10 13 "LittlePotModel" "image" "[I" ∈ pz_TB := pz_at 918 (by decide +kernel) rfl
theorem wf_X10_16 : Cond.fieldLink RX10 16 "LittlePotModel" "aside" "[I" ∈ pz_TB := pz_at 919 (by decide +kernel) rfl
theorem wf_X10_19 : Cond.fieldLink RX10 19 "LittlePotModel" "tSort" "[I" ∈ pz_TB := pz_at 921 (by decide +kernel) rfl
theorem wf_X10_22 : Cond.fieldLink RX10 22 "LittlePotModel" "tSize" "[I" ∈ pz_TB := pz_at 922 (by decide +kernel) rfl
theorem wf_X10_25 : Cond.fieldLink RX10 25 "LittlePotModel" "tNumber" "[I" ∈ pz_TB := pz_at 923 (by decide +kernel) rfl
theorem wf_X10_28 : Cond.fieldLink RX10 28 "LittlePotModel" "held" "[I" ∈ pz_TB := pz_at 924 (by decide +kernel) rfl
theorem wf_X10_31 : Cond.fieldLink RX10 31 "LittlePotModel" "heldNumber" "[I" ∈ pz_TB := pz_at 925 (by decide +kernel) rfl
theorem wf_X10_34 : Cond.fieldLink RX10 34 "LittlePotModel" "heldWorth" "[I" ∈ pz_TB := pz_at 926 (by decide +kernel) rfl
theorem wf_X10_37 : Cond.fieldLink RX10 37 "LittlePotModel" "heldSize" "[I" ∈ pz_TB := pz_at 927 (by decide +kernel) rfl
theorem wf_X10_40 : Cond.fieldLink RX10 40 "LittlePotModel" "heldRow" "[I" ∈ pz_TB := pz_at 928 (by decide +kernel) rfl
theorem wf_X10_43 : Cond.fieldLink RX10 43 "LittlePotModel" "met" "[I" ∈ pz_TB := pz_at 929 (by decide +kernel) rfl
theorem wf_X10_46 : Cond.fieldLink RX10 46 "LittlePotModel" "steps0" "[I" ∈ pz_TB := pz_at 930 (by decide +kernel) rfl
theorem wf_X10_49 : Cond.fieldLink RX10 49 "LittlePotModel" "close" "[I" ∈ pz_TB := pz_at 931 (by decide +kernel) rfl
theorem wf_X10_52 : Cond.fieldLink RX10 52 "LittlePotModel" "tape" "[I" ∈ pz_TB := pz_at 932 (by decide +kernel) rfl
theorem wf_X10_55 : Cond.fieldLink RX10 55 "LittlePotModel" "named" "[I" ∈ pz_TB := pz_at 944 (by decide +kernel) rfl
theorem wf_X10_58 : Cond.fieldLink RX10 58 "LittlePotModel" "pile" "[I" ∈ pz_TB := pz_at 945 (by decide +kernel) rfl
theorem wf_X10_61 : Cond.fieldLink RX10 61 "LittlePotModel" "carried" "[I" ∈ pz_TB := pz_at 946 (by decide +kernel) rfl
theorem wf_X10_64 : Cond.fieldLink RX10 64 "LittlePotModel" "waits" "[I" ∈ pz_TB := pz_at 947 (by decide +kernel) rfl
theorem wf_X10_67 : Cond.fieldLink RX10 67 "LittlePotModel" "rowDue" "[I" ∈ pz_TB := pz_at 949 (by decide +kernel) rfl
theorem wc_X10_70 : Cond.constant RX10 70 (-1000000005) ∈ pz_TB := pz_at 1200 (by decide +kernel) rfl
theorem w1024 : Cond.code yX10_isIn cX10_isIn 6 (some .boolean) ∈ pz_TB := pz_at 1024 (by decide +kernel) rfl
theorem w71 : Cond.initialized RX10 ∈ pz_TB := pz_at 71 (by decide +kernel) rfl
theorem w1022 : Cond.methodLink RX10 71 yX10_isIn ∈ pz_TB := pz_at 1022 (by decide +kernel) rfl
theorem w1023 : Cond.static yX10_isIn ∈ pz_TB := pz_at 1023 (by decide +kernel) rfl
theorem wl_X10_75 : Cond.constantLong RX10 75 (35) ∈ pz_TB := pz_at 1028 (by decide +kernel) rfl
theorem wc_X10_77 : Cond.constant RX10 77 (1103515245) ∈ pz_TB := pz_at 1132 (by decide +kernel) rfl
theorem w1058 : Cond.code yX10_parts cX10_parts 2 (some .int) ∈ pz_TB := pz_at 1058 (by decide +kernel) rfl
theorem w1055 : Cond.methodLink RX10 78 yX10_parts ∈ pz_TB := pz_at 1055 (by decide +kernel) rfl
theorem w1057 : Cond.instanceMethod yX10_parts ∈ pz_TB := pz_at 1057 (by decide +kernel) rfl
theorem w27 : Cond.selects RX10 yX10_parts yX10_parts ∈ pz_TB := pz_at 27 (by decide +kernel) rfl
theorem w1038 : Cond.code yX10_sets cX10_sets 4 none ∈ pz_TB := pz_at 1038 (by decide +kernel) rfl
theorem w1035 : Cond.methodLink RX10 82 yX10_sets ∈ pz_TB := pz_at 1035 (by decide +kernel) rfl
theorem w1037 : Cond.instanceMethod yX10_sets ∈ pz_TB := pz_at 1037 (by decide +kernel) rfl
theorem w23 : Cond.selects RX10 yX10_sets yX10_sets ∈ pz_TB := pz_at 23 (by decide +kernel) rfl
theorem wl_X10_86 : Cond.constantLong RX10 86 (5) ∈ pz_TB := pz_at 1021 (by decide +kernel) rfl
theorem w1027 : Cond.code yX10_isCell cX10_isCell 1 (some .boolean) ∈ pz_TB := pz_at 1027 (by decide +kernel) rfl
theorem w1025 : Cond.methodLink RX10 88 yX10_isCell ∈ pz_TB := pz_at 1025 (by decide +kernel) rfl
theorem w1026 : Cond.static yX10_isCell ∈ pz_TB := pz_at 1026 (by decide +kernel) rfl
theorem wc_X10_92 : Cond.constant RX10 92 (-1000000001) ∈ pz_TB := pz_at 1029 (by decide +kernel) rfl
theorem wc_X10_93 : Cond.constant RX10 93 (-1000000003) ∈ pz_TB := pz_at 1030 (by decide +kernel) rfl
theorem w1034 : Cond.code yX10_comes cX10_comes 4 none ∈ pz_TB := pz_at 1034 (by decide +kernel) rfl
theorem w1031 : Cond.methodLink RX10 94 yX10_comes ∈ pz_TB := pz_at 1031 (by decide +kernel) rfl
theorem w1033 : Cond.instanceMethod yX10_comes ∈ pz_TB := pz_at 1033 (by decide +kernel) rfl
theorem w22 : Cond.selects RX10 yX10_comes yX10_comes ∈ pz_TB := pz_at 22 (by decide +kernel) rfl
theorem w1050 : Cond.code yX10_of cX10_of 3 (some .int) ∈ pz_TB := pz_at 1050 (by decide +kernel) rfl
theorem w1047 : Cond.methodLink RX10 98 yX10_of ∈ pz_TB := pz_at 1047 (by decide +kernel) rfl
theorem w1049 : Cond.instanceMethod yX10_of ∈ pz_TB := pz_at 1049 (by decide +kernel) rfl
theorem w25 : Cond.selects RX10 yX10_of yX10_of ∈ pz_TB := pz_at 25 (by decide +kernel) rfl
theorem w1046 : Cond.code yX10_isEater cX10_isEater 2 (some .boolean) ∈ pz_TB := pz_at 1046 (by decide +kernel) rfl
theorem w1043 : Cond.methodLink RX10 102 yX10_isEater ∈ pz_TB := pz_at 1043 (by decide +kernel) rfl
theorem w1045 : Cond.instanceMethod yX10_isEater ∈ pz_TB := pz_at 1045 (by decide +kernel) rfl
theorem w24 : Cond.selects RX10 yX10_isEater yX10_isEater ∈ pz_TB := pz_at 24 (by decide +kernel) rfl
theorem w1054 : Cond.code yX10_eats cX10_eats 2 (some .int) ∈ pz_TB := pz_at 1054 (by decide +kernel) rfl
theorem w1051 : Cond.methodLink RX10 105 yX10_eats ∈ pz_TB := pz_at 1051 (by decide +kernel) rfl
theorem w1053 : Cond.instanceMethod yX10_eats ∈ pz_TB := pz_at 1053 (by decide +kernel) rfl
theorem w26 : Cond.selects RX10 yX10_eats yX10_eats ∈ pz_TB := pz_at 26 (by decide +kernel) rfl
theorem w1062 : Cond.code yX10_wades cX10_wades 2 (some .int) ∈ pz_TB := pz_at 1062 (by decide +kernel) rfl
theorem w1059 : Cond.methodLink RX10 108 yX10_wades ∈ pz_TB := pz_at 1059 (by decide +kernel) rfl
theorem w1061 : Cond.instanceMethod yX10_wades ∈ pz_TB := pz_at 1061 (by decide +kernel) rfl
theorem w28 : Cond.selects RX10 yX10_wades yX10_wades ∈ pz_TB := pz_at 28 (by decide +kernel) rfl
theorem w1066 : Cond.code yX10_worth cX10_worth 3 (some .int) ∈ pz_TB := pz_at 1066 (by decide +kernel) rfl
theorem w1063 : Cond.methodLink RX10 111 yX10_worth ∈ pz_TB := pz_at 1063 (by decide +kernel) rfl
theorem w1065 : Cond.instanceMethod yX10_worth ∈ pz_TB := pz_at 1065 (by decide +kernel) rfl
theorem w29 : Cond.selects RX10 yX10_worth yX10_worth ∈ pz_TB := pz_at 29 (by decide +kernel) rfl
theorem wl_X10_114 : Cond.constantLong RX10 114 (3) ∈ pz_TB := pz_at 1071 (by decide +kernel) rfl
theorem w1075 : Cond.code yX10_level cX10_level 2 (some .int) ∈ pz_TB := pz_at 1075 (by decide +kernel) rfl
theorem w1072 : Cond.methodLink RX10 116 yX10_level ∈ pz_TB := pz_at 1072 (by decide +kernel) rfl
theorem w1074 : Cond.instanceMethod yX10_level ∈ pz_TB := pz_at 1074 (by decide +kernel) rfl
theorem w30 : Cond.selects RX10 yX10_level yX10_level ∈ pz_TB := pz_at 30 (by decide +kernel) rfl
theorem wl_X10_119 : Cond.constantLong RX10 119 (2) ∈ pz_TB := pz_at 1080 (by decide +kernel) rfl
theorem wl_X10_121 : Cond.constantLong RX10 121 (999) ∈ pz_TB := pz_at 1081 (by decide +kernel) rfl
theorem wl_X10_123 : Cond.constantLong RX10 123 (20) ∈ pz_TB := pz_at 1082 (by decide +kernel) rfl
theorem w1086 : Cond.code yX10_becomes cX10_becomes 4 (some .int) ∈ pz_TB := pz_at 1086 (by decide +kernel) rfl
theorem w1083 : Cond.methodLink RX10 125 yX10_becomes ∈ pz_TB := pz_at 1083 (by decide +kernel) rfl
theorem w1085 : Cond.instanceMethod yX10_becomes ∈ pz_TB := pz_at 1085 (by decide +kernel) rfl
theorem w31 : Cond.selects RX10 yX10_becomes yX10_becomes ∈ pz_TB := pz_at 31 (by decide +kernel) rfl
theorem w1093 : Cond.code yX10_isOf cX10_isOf 2 (some .boolean) ∈ pz_TB := pz_at 1093 (by decide +kernel) rfl
theorem w1091 : Cond.methodLink RX10 128 yX10_isOf ∈ pz_TB := pz_at 1091 (by decide +kernel) rfl
theorem w1092 : Cond.static yX10_isOf ∈ pz_TB := pz_at 1092 (by decide +kernel) rfl
theorem wc_X10_132 : Cond.constant RX10 132 (-1000000012) ∈ pz_TB := pz_at 1094 (by decide +kernel) rfl
theorem wl_X10_133 : Cond.constantLong RX10 133 (9) ∈ pz_TB := pz_at 1111 (by decide +kernel) rfl
theorem wc_X10_135 : Cond.constant RX10 135 (-1000000002) ∈ pz_TB := pz_at 1112 (by decide +kernel) rfl
theorem w1115 : Cond.code yX10_within cX10_within 2 (some .int) ∈ pz_TB := pz_at 1115 (by decide +kernel) rfl
theorem w1113 : Cond.methodLink RX10 136 yX10_within ∈ pz_TB := pz_at 1113 (by decide +kernel) rfl
theorem w1114 : Cond.static yX10_within ∈ pz_TB := pz_at 1114 (by decide +kernel) rfl
theorem w1122 : Cond.code yX10_mostRule cX10_mostRule 1 (some .int) ∈ pz_TB := pz_at 1122 (by decide +kernel) rfl
theorem w1120 : Cond.methodLink RX10 139 yX10_mostRule ∈ pz_TB := pz_at 1120 (by decide +kernel) rfl
theorem w1121 : Cond.static yX10_mostRule ∈ pz_TB := pz_at 1121 (by decide +kernel) rfl
theorem wl_X10_142 : Cond.constantLong RX10 142 (8) ∈ pz_TB := pz_at 1127 (by decide +kernel) rfl
theorem w1131 : Cond.code yX10_drawn cX10_drawn 1 (some .int) ∈ pz_TB := pz_at 1131 (by decide +kernel) rfl
theorem w1128 : Cond.methodLink RX10 144 yX10_drawn ∈ pz_TB := pz_at 1128 (by decide +kernel) rfl
theorem w1130 : Cond.instanceMethod yX10_drawn ∈ pz_TB := pz_at 1130 (by decide +kernel) rfl
theorem w32 : Cond.selects RX10 yX10_drawn yX10_drawn ∈ pz_TB := pz_at 32 (by decide +kernel) rfl
theorem w1153 : Cond.code yX10_counts cX10_counts 4 (some .int) ∈ pz_TB := pz_at 1153 (by decide +kernel) rfl
theorem w1150 : Cond.methodLink RX10 148 yX10_counts ∈ pz_TB := pz_at 1150 (by decide +kernel) rfl
theorem w1152 : Cond.instanceMethod yX10_counts ∈ pz_TB := pz_at 1152 (by decide +kernel) rfl
theorem w35 : Cond.selects RX10 yX10_counts yX10_counts ∈ pz_TB := pz_at 35 (by decide +kernel) rfl
theorem w1161 : Cond.code yX10_worked cX10_worked 6 (some .int) ∈ pz_TB := pz_at 1161 (by decide +kernel) rfl
theorem w1158 : Cond.methodLink RX10 151 yX10_worked ∈ pz_TB := pz_at 1158 (by decide +kernel) rfl
theorem w1160 : Cond.instanceMethod yX10_worked ∈ pz_TB := pz_at 1160 (by decide +kernel) rfl
theorem w37 : Cond.selects RX10 yX10_worked yX10_worked ∈ pz_TB := pz_at 37 (by decide +kernel) rfl
theorem w1171 : Cond.code yX10_beside cX10_beside 2 (some .int) ∈ pz_TB := pz_at 1171 (by decide +kernel) rfl
theorem w1169 : Cond.methodLink RX10 154 yX10_beside ∈ pz_TB := pz_at 1169 (by decide +kernel) rfl
theorem w1170 : Cond.static yX10_beside ∈ pz_TB := pz_at 1170 (by decide +kernel) rfl
theorem w1149 : Cond.code yX10_pours cX10_pours 2 (some .int) ∈ pz_TB := pz_at 1149 (by decide +kernel) rfl
theorem w1146 : Cond.methodLink RX10 157 yX10_pours ∈ pz_TB := pz_at 1146 (by decide +kernel) rfl
theorem w1148 : Cond.instanceMethod yX10_pours ∈ pz_TB := pz_at 1148 (by decide +kernel) rfl
theorem w34 : Cond.selects RX10 yX10_pours yX10_pours ∈ pz_TB := pz_at 34 (by decide +kernel) rfl
theorem w1168 : Cond.code yX10_flows cX10_flows 5 none ∈ pz_TB := pz_at 1168 (by decide +kernel) rfl
theorem w1165 : Cond.methodLink RX10 160 yX10_flows ∈ pz_TB := pz_at 1165 (by decide +kernel) rfl
theorem w1167 : Cond.instanceMethod yX10_flows ∈ pz_TB := pz_at 1167 (by decide +kernel) rfl
theorem w38 : Cond.selects RX10 yX10_flows yX10_flows ∈ pz_TB := pz_at 38 (by decide +kernel) rfl
theorem w1175 : Cond.code yX10_dines cX10_dines 8 (some .int) ∈ pz_TB := pz_at 1175 (by decide +kernel) rfl
theorem w1172 : Cond.methodLink RX10 164 yX10_dines ∈ pz_TB := pz_at 1172 (by decide +kernel) rfl
theorem w1174 : Cond.instanceMethod yX10_dines ∈ pz_TB := pz_at 1174 (by decide +kernel) rfl
theorem w39 : Cond.selects RX10 yX10_dines yX10_dines ∈ pz_TB := pz_at 39 (by decide +kernel) rfl
theorem w1145 : Cond.code yX10_goesOn cX10_goesOn 3 (some .int) ∈ pz_TB := pz_at 1145 (by decide +kernel) rfl
theorem w1142 : Cond.methodLink RX10 167 yX10_goesOn ∈ pz_TB := pz_at 1142 (by decide +kernel) rfl
theorem w1144 : Cond.instanceMethod yX10_goesOn ∈ pz_TB := pz_at 1144 (by decide +kernel) rfl
theorem w33 : Cond.selects RX10 yX10_goesOn yX10_goesOn ∈ pz_TB := pz_at 33 (by decide +kernel) rfl
theorem wl_X10_170 : Cond.constantLong RX10 170 (60) ∈ pz_TB := pz_at 1141 (by decide +kernel) rfl
theorem w1183 : Cond.code yX10_allParts cX10_allParts 3 (some .int) ∈ pz_TB := pz_at 1183 (by decide +kernel) rfl
theorem w1180 : Cond.methodLink RX10 172 yX10_allParts ∈ pz_TB := pz_at 1180 (by decide +kernel) rfl
theorem w1182 : Cond.instanceMethod yX10_allParts ∈ pz_TB := pz_at 1182 (by decide +kernel) rfl
theorem w40 : Cond.selects RX10 yX10_allParts yX10_allParts ∈ pz_TB := pz_at 40 (by decide +kernel) rfl
theorem w1187 : Cond.code yX10_allAte cX10_allAte 3 (some .int) ∈ pz_TB := pz_at 1187 (by decide +kernel) rfl
theorem w1184 : Cond.methodLink RX10 175 yX10_allAte ∈ pz_TB := pz_at 1184 (by decide +kernel) rfl
theorem w1186 : Cond.instanceMethod yX10_allAte ∈ pz_TB := pz_at 1186 (by decide +kernel) rfl
theorem w41 : Cond.selects RX10 yX10_allAte yX10_allAte ∈ pz_TB := pz_at 41 (by decide +kernel) rfl
theorem w1191 : Cond.code yX10_manyWet cX10_manyWet 3 (some .int) ∈ pz_TB := pz_at 1191 (by decide +kernel) rfl
theorem w1188 : Cond.methodLink RX10 178 yX10_manyWet ∈ pz_TB := pz_at 1188 (by decide +kernel) rfl
theorem w1190 : Cond.instanceMethod yX10_manyWet ∈ pz_TB := pz_at 1190 (by decide +kernel) rfl
theorem w42 : Cond.selects RX10 yX10_manyWet yX10_manyWet ∈ pz_TB := pz_at 42 (by decide +kernel) rfl
theorem wl_X10_181 : Cond.constantLong RX10 181 (9999) ∈ pz_TB := pz_at 1196 (by decide +kernel) rfl
theorem w1199 : Cond.code yX10_orNone cX10_orNone 1 (some .int) ∈ pz_TB := pz_at 1199 (by decide +kernel) rfl
theorem w1197 : Cond.methodLink RX10 183 yX10_orNone ∈ pz_TB := pz_at 1197 (by decide +kernel) rfl
theorem w1198 : Cond.static yX10_orNone ∈ pz_TB := pz_at 1198 (by decide +kernel) rfl
theorem wl_X10_186 : Cond.constantLong RX10 186 (37) ∈ pz_TB := pz_at 1205 (by decide +kernel) rfl
theorem w1209 : Cond.code yX10_laysBy cX10_laysBy 2 none ∈ pz_TB := pz_at 1209 (by decide +kernel) rfl
theorem w1206 : Cond.methodLink RX10 188 yX10_laysBy ∈ pz_TB := pz_at 1206 (by decide +kernel) rfl
theorem w1208 : Cond.instanceMethod yX10_laysBy ∈ pz_TB := pz_at 1208 (by decide +kernel) rfl
theorem w43 : Cond.selects RX10 yX10_laysBy yX10_laysBy ∈ pz_TB := pz_at 43 (by decide +kernel) rfl
theorem w1213 : Cond.code yX10_goesOnMany cX10_goesOnMany 4 none ∈ pz_TB := pz_at 1213 (by decide +kernel) rfl
theorem w1210 : Cond.methodLink RX10 191 yX10_goesOnMany ∈ pz_TB := pz_at 1210 (by decide +kernel) rfl
theorem w1212 : Cond.instanceMethod yX10_goesOnMany ∈ pz_TB := pz_at 1212 (by decide +kernel) rfl
theorem w44 : Cond.selects RX10 yX10_goesOnMany yX10_goesOnMany ∈ pz_TB := pz_at 44 (by decide +kernel) rfl
theorem w1217 : Cond.code yX10_laysBack cX10_laysBack 2 none ∈ pz_TB := pz_at 1217 (by decide +kernel) rfl
theorem w1214 : Cond.methodLink RX10 194 yX10_laysBack ∈ pz_TB := pz_at 1214 (by decide +kernel) rfl
theorem w1216 : Cond.instanceMethod yX10_laysBack ∈ pz_TB := pz_at 1216 (by decide +kernel) rfl
theorem w45 : Cond.selects RX10 yX10_laysBack yX10_laysBack ∈ pz_TB := pz_at 45 (by decide +kernel) rfl
theorem wl_X10_197 : Cond.constantLong RX10 197 (40) ∈ pz_TB := pz_at 1234 (by decide +kernel) rfl
theorem wf_X10_199 : Cond.fieldLink RX10 199 "LittlePotModel" "taped" "I" ∈ pz_TB := pz_at 933 (by decide +kernel) rfl
theorem wl_X10_203 : Cond.constantLong RX10 203 (97) ∈ pz_TB := pz_at 1267 (by decide +kernel) rfl
theorem wl_X10_205 : Cond.constantLong RX10 205 (122) ∈ pz_TB := pz_at 1268 (by decide +kernel) rfl
theorem wl_X10_207 : Cond.constantLong RX10 207 (48) ∈ pz_TB := pz_at 1273 (by decide +kernel) rfl
theorem wl_X10_209 : Cond.constantLong RX10 209 (57) ∈ pz_TB := pz_at 1274 (by decide +kernel) rfl
theorem wf_X10_211 : Cond.fieldLink RX10 211 "LittlePotModel" "behind" "I" ∈ pz_TB := pz_at 935 (by decide +kernel) rfl
theorem wf_X10_214 : Cond.fieldLink RX10 214 "LittlePotModel" "token" "I" ∈ pz_TB := pz_at 936 (by decide +kernel) rfl
theorem wf_X10_217 : Cond.fieldLink RX10 217 "LittlePotModel" "begin" "I" ∈ pz_TB := pz_at 934 (by decide +kernel) rfl
theorem w1266 : Cond.code yX10_isLetter cX10_isLetter 2 (some .boolean) ∈ pz_TB := pz_at 1266 (by decide +kernel) rfl
theorem w1263 : Cond.methodLink RX10 220 yX10_isLetter ∈ pz_TB := pz_at 1263 (by decide +kernel) rfl
theorem w1265 : Cond.instanceMethod yX10_isLetter ∈ pz_TB := pz_at 1265 (by decide +kernel) rfl
theorem w48 : Cond.selects RX10 yX10_isLetter yX10_isLetter ∈ pz_TB := pz_at 48 (by decide +kernel) rfl
theorem wf_X10_223 : Cond.fieldLink RX10 223 "LittlePotModel" "letter" "I" ∈ pz_TB := pz_at 938 (by decide +kernel) rfl
theorem w1272 : Cond.code yX10_isDigit cX10_isDigit 2 (some .boolean) ∈ pz_TB := pz_at 1272 (by decide +kernel) rfl
theorem w1269 : Cond.methodLink RX10 226 yX10_isDigit ∈ pz_TB := pz_at 1269 (by decide +kernel) rfl
theorem w1271 : Cond.instanceMethod yX10_isDigit ∈ pz_TB := pz_at 1271 (by decide +kernel) rfl
theorem w49 : Cond.selects RX10 yX10_isDigit yX10_isDigit ∈ pz_TB := pz_at 49 (by decide +kernel) rfl
theorem wf_X10_229 : Cond.fieldLink RX10 229 "LittlePotModel" "number" "I" ∈ pz_TB := pz_at 937 (by decide +kernel) rfl
theorem w1282 : Cond.code yX10_isWordAt cX10_isWordAt 6 (some .boolean) ∈ pz_TB := pz_at 1282 (by decide +kernel) rfl
theorem w1279 : Cond.methodLink RX10 232 yX10_isWordAt ∈ pz_TB := pz_at 1279 (by decide +kernel) rfl
theorem w1281 : Cond.instanceMethod yX10_isWordAt ∈ pz_TB := pz_at 1281 (by decide +kernel) rfl
theorem w51 : Cond.selects RX10 yX10_isWordAt yX10_isWordAt ∈ pz_TB := pz_at 51 (by decide +kernel) rfl
theorem wf_X10_236 : Cond.fieldLink RX10 236 "LittlePotModel" "laidAt" "I" ∈ pz_TB := pz_at 942 (by decide +kernel) rfl
theorem wf_X10_239 : Cond.fieldLink RX10 239 "LittlePotModel" "laid" "I" ∈ pz_TB := pz_at 941 (by decide +kernel) rfl
theorem w1290 : Cond.code yX10_both cX10_both 2 (some .boolean) ∈ pz_TB := pz_at 1290 (by decide +kernel) rfl
theorem w1287 : Cond.methodLink RX10 242 yX10_both ∈ pz_TB := pz_at 1287 (by decide +kernel) rfl
theorem w1289 : Cond.instanceMethod yX10_both ∈ pz_TB := pz_at 1289 (by decide +kernel) rfl
theorem w53 : Cond.selects RX10 yX10_both yX10_both ∈ pz_TB := pz_at 53 (by decide +kernel) rfl
theorem w1317 : Cond.code yX10_isSign cX10_isSign 2 (some .boolean) ∈ pz_TB := pz_at 1317 (by decide +kernel) rfl
theorem w1314 : Cond.methodLink RX10 245 yX10_isSign ∈ pz_TB := pz_at 1314 (by decide +kernel) rfl
theorem w1316 : Cond.instanceMethod yX10_isSign ∈ pz_TB := pz_at 1316 (by decide +kernel) rfl
theorem w59 : Cond.selects RX10 yX10_isSign yX10_isSign ∈ pz_TB := pz_at 59 (by decide +kernel) rfl
theorem w1262 : Cond.code yX10_nextToken cX10_nextToken 3 none ∈ pz_TB := pz_at 1262 (by decide +kernel) rfl
theorem w1259 : Cond.methodLink RX10 248 yX10_nextToken ∈ pz_TB := pz_at 1259 (by decide +kernel) rfl
theorem w1261 : Cond.instanceMethod yX10_nextToken ∈ pz_TB := pz_at 1261 (by decide +kernel) rfl
theorem w47 : Cond.selects RX10 yX10_nextToken yX10_nextToken ∈ pz_TB := pz_at 47 (by decide +kernel) rfl
theorem w1310 : Cond.code yX10_step cX10_step 3 none ∈ pz_TB := pz_at 1310 (by decide +kernel) rfl
theorem w1307 : Cond.methodLink RX10 251 yX10_step ∈ pz_TB := pz_at 1307 (by decide +kernel) rfl
theorem w1309 : Cond.instanceMethod yX10_step ∈ pz_TB := pz_at 1309 (by decide +kernel) rfl
theorem w58 : Cond.selects RX10 yX10_step yX10_step ∈ pz_TB := pz_at 58 (by decide +kernel) rfl
theorem w1294 : Cond.code yX10_test cX10_test 3 (some .boolean) ∈ pz_TB := pz_at 1294 (by decide +kernel) rfl
theorem w1291 : Cond.methodLink RX10 254 yX10_test ∈ pz_TB := pz_at 1291 (by decide +kernel) rfl
theorem w1293 : Cond.instanceMethod yX10_test ∈ pz_TB := pz_at 1293 (by decide +kernel) rfl
theorem w54 : Cond.selects RX10 yX10_test yX10_test ∈ pz_TB := pz_at 54 (by decide +kernel) rfl
theorem w1298 : Cond.code yX10_sum cX10_sum 3 (some .boolean) ∈ pz_TB := pz_at 1298 (by decide +kernel) rfl
theorem w1295 : Cond.methodLink RX10 257 yX10_sum ∈ pz_TB := pz_at 1295 (by decide +kernel) rfl
theorem w1297 : Cond.instanceMethod yX10_sum ∈ pz_TB := pz_at 1297 (by decide +kernel) rfl
theorem w55 : Cond.selects RX10 yX10_sum yX10_sum ∈ pz_TB := pz_at 55 (by decide +kernel) rfl
theorem w1302 : Cond.code yX10_term cX10_term 3 (some .boolean) ∈ pz_TB := pz_at 1302 (by decide +kernel) rfl
theorem w1299 : Cond.methodLink RX10 260 yX10_term ∈ pz_TB := pz_at 1299 (by decide +kernel) rfl
theorem w1301 : Cond.instanceMethod yX10_term ∈ pz_TB := pz_at 1301 (by decide +kernel) rfl
theorem w56 : Cond.selects RX10 yX10_term yX10_term ∈ pz_TB := pz_at 56 (by decide +kernel) rfl
theorem w1306 : Cond.code yX10_part0 cX10_part0 2 (some .boolean) ∈ pz_TB := pz_at 1306 (by decide +kernel) rfl
theorem w1303 : Cond.methodLink RX10 263 yX10_part0 ∈ pz_TB := pz_at 1303 (by decide +kernel) rfl
theorem w1305 : Cond.instanceMethod yX10_part0 ∈ pz_TB := pz_at 1305 (by decide +kernel) rfl
theorem w57 : Cond.selects RX10 yX10_part0 yX10_part0 ∈ pz_TB := pz_at 57 (by decide +kernel) rfl
theorem wf_X10_266 : Cond.fieldLink RX10 266 "LittlePotModel" "said" "I" ∈ pz_TB := pz_at 943 (by decide +kernel) rfl
theorem w1313 : Cond.code yX10_isName cX10_isName 2 (some .boolean) ∈ pz_TB := pz_at 1313 (by decide +kernel) rfl
theorem w1311 : Cond.methodLink RX10 269 yX10_isName ∈ pz_TB := pz_at 1311 (by decide +kernel) rfl
theorem w1312 : Cond.static yX10_isName ∈ pz_TB := pz_at 1312 (by decide +kernel) rfl
theorem wf_X10_272 : Cond.fieldLink RX10 272 "LittlePotModel" "turned" "I" ∈ pz_TB := pz_at 940 (by decide +kernel) rfl
theorem wf_X10_275 : Cond.fieldLink RX10 275 "LittlePotModel" "deep" "I" ∈ pz_TB := pz_at 939 (by decide +kernel) rfl
theorem w1286 : Cond.code yX10_either cX10_either 2 (some .boolean) ∈ pz_TB := pz_at 1286 (by decide +kernel) rfl
theorem w1283 : Cond.methodLink RX10 278 yX10_either ∈ pz_TB := pz_at 1283 (by decide +kernel) rfl
theorem w1285 : Cond.instanceMethod yX10_either ∈ pz_TB := pz_at 1285 (by decide +kernel) rfl
theorem w52 : Cond.selects RX10 yX10_either yX10_either ∈ pz_TB := pz_at 52 (by decide +kernel) rfl
theorem w1157 : Cond.code yX10_textAt cX10_textAt 2 (some .int) ∈ pz_TB := pz_at 1157 (by decide +kernel) rfl
theorem w1154 : Cond.methodLink RX10 281 yX10_textAt ∈ pz_TB := pz_at 1154 (by decide +kernel) rfl
theorem w1156 : Cond.instanceMethod yX10_textAt ∈ pz_TB := pz_at 1156 (by decide +kernel) rfl
theorem w36 : Cond.selects RX10 yX10_textAt yX10_textAt ∈ pz_TB := pz_at 36 (by decide +kernel) rfl
theorem w1278 : Cond.code yX10_key cX10_key 1 (some .int) ∈ pz_TB := pz_at 1278 (by decide +kernel) rfl
theorem w1275 : Cond.methodLink RX10 284 yX10_key ∈ pz_TB := pz_at 1275 (by decide +kernel) rfl
theorem w1277 : Cond.instanceMethod yX10_key ∈ pz_TB := pz_at 1277 (by decide +kernel) rfl
theorem w50 : Cond.selects RX10 yX10_key yX10_key ∈ pz_TB := pz_at 50 (by decide +kernel) rfl
theorem w1258 : Cond.code yX10_parse cX10_parse 3 (some .int) ∈ pz_TB := pz_at 1258 (by decide +kernel) rfl
theorem w1255 : Cond.methodLink RX10 287 yX10_parse ∈ pz_TB := pz_at 1255 (by decide +kernel) rfl
theorem w1257 : Cond.instanceMethod yX10_parse ∈ pz_TB := pz_at 1257 (by decide +kernel) rfl
theorem w46 : Cond.selects RX10 yX10_parse yX10_parse ∈ pz_TB := pz_at 46 (by decide +kernel) rfl
theorem w1325 : Cond.code yX10_isText cX10_isText 2 (some .boolean) ∈ pz_TB := pz_at 1325 (by decide +kernel) rfl
theorem w1322 : Cond.methodLink RX10 290 yX10_isText ∈ pz_TB := pz_at 1322 (by decide +kernel) rfl
theorem w1324 : Cond.instanceMethod yX10_isText ∈ pz_TB := pz_at 1324 (by decide +kernel) rfl
theorem w60 : Cond.selects RX10 yX10_isText yX10_isText ∈ pz_TB := pz_at 60 (by decide +kernel) rfl
theorem w1164 : Cond.code yX10_joined cX10_joined 3 (some .int) ∈ pz_TB := pz_at 1164 (by decide +kernel) rfl
theorem w1162 : Cond.methodLink RX10 293 yX10_joined ∈ pz_TB := pz_at 1162 (by decide +kernel) rfl
theorem w1163 : Cond.static yX10_joined ∈ pz_TB := pz_at 1163 (by decide +kernel) rfl
theorem w1336 : Cond.code yX10_isSheet cX10_isSheet 1 (some .boolean) ∈ pz_TB := pz_at 1336 (by decide +kernel) rfl
theorem w1334 : Cond.methodLink RX10 297 yX10_isSheet ∈ pz_TB := pz_at 1334 (by decide +kernel) rfl
theorem w1335 : Cond.static yX10_isSheet ∈ pz_TB := pz_at 1335 (by decide +kernel) rfl
theorem wl_X10_300 : Cond.constantLong RX10 300 (-1) ∈ pz_TB := pz_at 1337 (by decide +kernel) rfl
theorem wc_X10_302 : Cond.constant RX10 302 (-1000000014) ∈ pz_TB := pz_at 1338 (by decide +kernel) rfl
theorem wc_X10_303 : Cond.constant RX10 303 (-1000000011) ∈ pz_TB := pz_at 1343 (by decide +kernel) rfl
theorem wc_X10_304 : Cond.constant RX10 304 (-1000000013) ∈ pz_TB := pz_at 1344 (by decide +kernel) rfl
theorem wl_X10_305 : Cond.constantLong RX10 305 (-99999) ∈ pz_TB := pz_at 1345 (by decide +kernel) rfl
theorem wl_X10_307 : Cond.constantLong RX10 307 (99999) ∈ pz_TB := pz_at 1346 (by decide +kernel) rfl
theorem w1361 : Cond.code yX10_off cX10_off 2 (some .int) ∈ pz_TB := pz_at 1361 (by decide +kernel) rfl
theorem w1359 : Cond.methodLink RX10 309 yX10_off ∈ pz_TB := pz_at 1359 (by decide +kernel) rfl
theorem w1360 : Cond.static yX10_off ∈ pz_TB := pz_at 1360 (by decide +kernel) rfl
theorem wl_X10_312 : Cond.constantLong RX10 312 (4) ∈ pz_TB := pz_at 1373 (by decide +kernel) rfl
theorem w1372 : Cond.code yX10_isSlot cX10_isSlot 1 (some .boolean) ∈ pz_TB := pz_at 1372 (by decide +kernel) rfl
theorem w1370 : Cond.methodLink RX10 314 yX10_isSlot ∈ pz_TB := pz_at 1370 (by decide +kernel) rfl
theorem w1371 : Cond.static yX10_isSlot ∈ pz_TB := pz_at 1371 (by decide +kernel) rfl
theorem wf_X10_317 : Cond.fieldLink RX10 317 "LittlePotModel" "waiting" "I" ∈ pz_TB := pz_at 948 (by decide +kernel) rfl
theorem wl_X10_320 : Cond.constantLong RX10 320 (30) ∈ pz_TB := pz_at 1394 (by decide +kernel) rfl
theorem wf_X10_322 : Cond.fieldLink RX10 322 "LittlePotModel" "hasImage" "Z" ∈ pz_TB := pz_at 920 (by decide +kernel) rfl
theorem w1398 : Cond.code yX10_setAside cX10_setAside 4 none ∈ pz_TB := pz_at 1398 (by decide +kernel) rfl
theorem w1395 : Cond.methodLink RX10 326 yX10_setAside ∈ pz_TB := pz_at 1395 (by decide +kernel) rfl
theorem w1397 : Cond.instanceMethod yX10_setAside ∈ pz_TB := pz_at 1397 (by decide +kernel) rfl
theorem w61 : Cond.selects RX10 yX10_setAside yX10_setAside ∈ pz_TB := pz_at 61 (by decide +kernel) rfl
theorem w391 : Cond.methodLink RX0 15 yX0_isKind ∈ pz_TB := pz_at 391 (by decide +kernel) rfl
theorem wf_X0_19 : Cond.fieldLink RX0 19 "LittlePot$Kinds" "ABOVE" "[I" ∈ pz_TB := pz_at 392 (by decide +kernel) rfl
theorem w362 : Cond.code yX0_gluttonWorth cX0_gluttonWorth 1 (some .int) ∈ pz_TB := pz_at 362 (by decide +kernel) rfl
theorem w360 : Cond.methodLink RX0 23 yX0_gluttonWorth ∈ pz_TB := pz_at 360 (by decide +kernel) rfl
theorem w361 : Cond.static yX0_gluttonWorth ∈ pz_TB := pz_at 361 (by decide +kernel) rfl
theorem w365 : Cond.code yX0_childWorth cX0_childWorth 1 (some .int) ∈ pz_TB := pz_at 365 (by decide +kernel) rfl
theorem w363 : Cond.methodLink RX0 27 yX0_childWorth ∈ pz_TB := pz_at 363 (by decide +kernel) rfl
theorem w364 : Cond.static yX0_childWorth ∈ pz_TB := pz_at 364 (by decide +kernel) rfl
theorem wm_X1_3 : Cond.methodLink RX1 3 Lib.objectInit ∈ pz_TB := pz_at 94 (by decide +kernel) rfl
theorem wk_X1_11 : Cond.classLink RX1 11 RX6 ∈ pz_TB := pz_at 95 (by decide +kernel) rfl
theorem wf_X1_13 : Cond.fieldLink RX1 13 "LittlePot$Laws" "texts" "[LLittlePot$Text;" ∈ pz_TB := pz_at 97 (by decide +kernel) rfl
theorem wf_X1_17 : Cond.fieldLink RX1 17 "LittlePot$Laws" "stack" "[I" ∈ pz_TB := pz_at 98 (by decide +kernel) rfl
theorem wi_RX6 : Cond.instantiable RX6 4 ∈ pz_TB := pz_at 174 (by decide +kernel) rfl
theorem wn_RX6 : Cond.initialized RX6 ∈ pz_TB := pz_at 67 (by decide +kernel) rfl
theorem w177 : Cond.code yX6_init cX6_init 1 none ∈ pz_TB := pz_at 177 (by decide +kernel) rfl
theorem w67 : Cond.initialized RX6 ∈ pz_TB := pz_at 67 (by decide +kernel) rfl
theorem w176 : Cond.instanceMethod yX6_init ∈ pz_TB := pz_at 176 (by decide +kernel) rfl
theorem wm_X1_26 : Cond.methodLink RX1 26 Lib.Math.min.name ∈ pz_TB := pz_at 462 (by decide +kernel) rfl
theorem wf_X1_32 : Cond.fieldLink RX1 32 "LittlePot$Text" "key" "I" ∈ pz_TB := pz_at 184 (by decide +kernel) rfl
theorem w458 : Cond.methodLink RX1 36 yX1_last ∈ pz_TB := pz_at 458 (by decide +kernel) rfl
theorem w463 : Cond.methodLink RX1 39 yX1_numbered ∈ pz_TB := pz_at 463 (by decide +kernel) rfl
theorem wf_X1_43 : Cond.fieldLink RX1 43 "LittlePot$Text" "size" "I" ∈ pz_TB := pz_at 182 (by decide +kernel) rfl
theorem wf_X1_46 : Cond.fieldLink RX1 46 "LittlePot$Text" "code" "[I" ∈ pz_TB := pz_at 180 (by decide +kernel) rfl
theorem w474 : Cond.code yX1_joined cX1_joined 3 (some .int) ∈ pz_TB := pz_at 474 (by decide +kernel) rfl
theorem w472 : Cond.methodLink RX1 49 yX1_joined ∈ pz_TB := pz_at 472 (by decide +kernel) rfl
theorem w473 : Cond.static yX1_joined ∈ pz_TB := pz_at 473 (by decide +kernel) rfl
theorem wf_X2_7 : Cond.fieldLink RX2 7 "LittlePot$Near" "CELL" "[I" ∈ pz_TB := pz_at 487 (by decide +kernel) rfl
theorem wm_X3_3 : Cond.methodLink RX3 3 Lib.objectInit ∈ pz_TB := pz_at 172 (by decide +kernel) rfl
theorem wk_X3_9 : Cond.classLink RX3 9 RX6 ∈ pz_TB := pz_at 173 (by decide +kernel) rfl
theorem wf_X3_12 : Cond.fieldLink RX3 12 "LittlePot$Reader" "draft" "LLittlePot$Text;" ∈ pz_TB := pz_at 199 (by decide +kernel) rfl
theorem wa_byte : Cond.arrayClass .byte ∈ pz_TB := pz_at 226 (by decide +kernel) rfl
theorem wf_X3_18 : Cond.fieldLink RX3 18 "LittlePot$Reader" "bytes" "[B" ∈ pz_TB := pz_at 203 (by decide +kernel) rfl
theorem wf_X3_22 : Cond.fieldLink RX3 22 "LittlePot$Reader" "length" "I" ∈ pz_TB := pz_at 201 (by decide +kernel) rfl
theorem wf_X3_26 : Cond.fieldLink RX3 26 "LittlePot$Reader" "sort" "I" ∈ pz_TB := pz_at 204 (by decide +kernel) rfl
theorem wf_X3_29 : Cond.fieldLink RX3 29 "LittlePot$Reader" "start" "I" ∈ pz_TB := pz_at 205 (by decide +kernel) rfl
theorem wf_X3_32 : Cond.fieldLink RX3 32 "LittlePot$Reader" "end" "I" ∈ pz_TB := pz_at 206 (by decide +kernel) rfl
theorem wf_X3_35 : Cond.fieldLink RX3 35 "LittlePot$Reader" "parens" "I" ∈ pz_TB := pz_at 207 (by decide +kernel) rfl
theorem wf_X3_38 : Cond.fieldLink RX3 38 "LittlePot$Reader" "nots" "I" ∈ pz_TB := pz_at 208 (by decide +kernel) rfl
theorem w615 : Cond.code yX3_goesOn cX3_goesOn 3 none ∈ pz_TB := pz_at 615 (by decide +kernel) rfl
theorem w612 : Cond.methodLink RX3 41 yX3_goesOn ∈ pz_TB := pz_at 612 (by decide +kernel) rfl
theorem w614 : Cond.instanceMethod yX3_goesOn ∈ pz_TB := pz_at 614 (by decide +kernel) rfl
theorem w4 : Cond.selects RX3 yX3_goesOn yX3_goesOn ∈ pz_TB := pz_at 4 (by decide +kernel) rfl
theorem w628 : Cond.code yX3_keyHere cX3_keyHere 1 (some .int) ∈ pz_TB := pz_at 628 (by decide +kernel) rfl
theorem w625 : Cond.methodLink RX3 44 yX3_keyHere ∈ pz_TB := pz_at 625 (by decide +kernel) rfl
theorem w627 : Cond.instanceMethod yX3_keyHere ∈ pz_TB := pz_at 627 (by decide +kernel) rfl
theorem w7 : Cond.selects RX3 yX3_keyHere yX3_keyHere ∈ pz_TB := pz_at 7 (by decide +kernel) rfl
theorem w687 : Cond.code yX6_begins cX6_begins 2 none ∈ pz_TB := pz_at 687 (by decide +kernel) rfl
theorem w684 : Cond.methodLink RX3 48 yX6_begins ∈ pz_TB := pz_at 684 (by decide +kernel) rfl
theorem w685 : Cond.instanceMethod yX6_begins ∈ pz_TB := pz_at 685 (by decide +kernel) rfl
theorem w686 : Cond.selects RX6 yX6_begins yX6_begins ∈ pz_TB := pz_at 686 (by decide +kernel) rfl
theorem w691 : Cond.code yX3_readsOr cX3_readsOr 3 (some .boolean) ∈ pz_TB := pz_at 691 (by decide +kernel) rfl
theorem w688 : Cond.methodLink RX3 52 yX3_readsOr ∈ pz_TB := pz_at 688 (by decide +kernel) rfl
theorem w690 : Cond.instanceMethod yX3_readsOr ∈ pz_TB := pz_at 690 (by decide +kernel) rfl
theorem w9 : Cond.selects RX3 yX3_readsOr yX3_readsOr ∈ pz_TB := pz_at 9 (by decide +kernel) rfl
theorem w619 : Cond.code yX3_isLetter cX3_isLetter 2 (some .boolean) ∈ pz_TB := pz_at 619 (by decide +kernel) rfl
theorem w616 : Cond.methodLink RX3 56 yX3_isLetter ∈ pz_TB := pz_at 616 (by decide +kernel) rfl
theorem w618 : Cond.instanceMethod yX3_isLetter ∈ pz_TB := pz_at 618 (by decide +kernel) rfl
theorem w5 : Cond.selects RX3 yX3_isLetter yX3_isLetter ∈ pz_TB := pz_at 5 (by decide +kernel) rfl
theorem w624 : Cond.code yX3_isDigit cX3_isDigit 2 (some .boolean) ∈ pz_TB := pz_at 624 (by decide +kernel) rfl
theorem w621 : Cond.methodLink RX3 60 yX3_isDigit ∈ pz_TB := pz_at 621 (by decide +kernel) rfl
theorem w623 : Cond.instanceMethod yX3_isDigit ∈ pz_TB := pz_at 623 (by decide +kernel) rfl
theorem w6 : Cond.selects RX3 yX3_isDigit yX3_isDigit ∈ pz_TB := pz_at 6 (by decide +kernel) rfl
theorem w633 : Cond.code yX3_isWord cX3_isWord 3 (some .boolean) ∈ pz_TB := pz_at 633 (by decide +kernel) rfl
theorem w630 : Cond.methodLink RX3 69 yX3_isWord ∈ pz_TB := pz_at 630 (by decide +kernel) rfl
theorem w632 : Cond.instanceMethod yX3_isWord ∈ pz_TB := pz_at 632 (by decide +kernel) rfl
theorem w8 : Cond.selects RX3 yX3_isWord yX3_isWord ∈ pz_TB := pz_at 8 (by decide +kernel) rfl
theorem w637 : Cond.code yJ0_length_8abf5 cJ0_length_8abf5 1 (some .int) ∈ pz_TB := pz_at 637 (by decide +kernel) rfl
theorem w76 : Cond.initialized RJ0 ∈ pz_TB := pz_at 76 (by decide +kernel) rfl
theorem w634 : Cond.methodLink RX3 79 yJ0_length_8abf5 ∈ pz_TB := pz_at 634 (by decide +kernel) rfl
theorem w635 : Cond.instanceMethod yJ0_length_8abf5 ∈ pz_TB := pz_at 635 (by decide +kernel) rfl
theorem w636 : Cond.selects RJ0 yJ0_length_8abf5 yJ0_length_8abf5 ∈ pz_TB := pz_at 636 (by decide +kernel) rfl
theorem w647 : Cond.code yJ0_charAt_5068e cJ0_charAt_5068e 2 (some .char) ∈ pz_TB := pz_at 647 (by decide +kernel) rfl
theorem w644 : Cond.methodLink RX3 83 yJ0_charAt_5068e ∈ pz_TB := pz_at 644 (by decide +kernel) rfl
theorem w645 : Cond.instanceMethod yJ0_charAt_5068e ∈ pz_TB := pz_at 645 (by decide +kernel) rfl
theorem w646 : Cond.selects RJ0 yJ0_charAt_5068e yJ0_charAt_5068e ∈ pz_TB := pz_at 646 (by decide +kernel) rfl
theorem wf_X3_87 : Cond.fieldLink RX3 87 "LittlePot$Text" "key" "I" ∈ pz_TB := pz_at 185 (by decide +kernel) rfl
theorem w738 : Cond.code yJ0_indexOf_0f7a4 cJ0_indexOf_0f7a4 2 (some .int) ∈ pz_TB := pz_at 738 (by decide +kernel) rfl
theorem w735 : Cond.methodLink RX3 96 yJ0_indexOf_0f7a4 ∈ pz_TB := pz_at 735 (by decide +kernel) rfl
theorem w736 : Cond.instanceMethod yJ0_indexOf_0f7a4 ∈ pz_TB := pz_at 736 (by decide +kernel) rfl
theorem w737 : Cond.selects RJ0 yJ0_indexOf_0f7a4 yJ0_indexOf_0f7a4 ∈ pz_TB := pz_at 737 (by decide +kernel) rfl
theorem w695 : Cond.code yX3_readsAnd cX3_readsAnd 3 (some .boolean) ∈ pz_TB := pz_at 695 (by decide +kernel) rfl
theorem w692 : Cond.methodLink RX3 100 yX3_readsAnd ∈ pz_TB := pz_at 692 (by decide +kernel) rfl
theorem w694 : Cond.instanceMethod yX3_readsAnd ∈ pz_TB := pz_at 694 (by decide +kernel) rfl
theorem w10 : Cond.selects RX3 yX3_readsAnd yX3_readsAnd ∈ pz_TB := pz_at 10 (by decide +kernel) rfl
theorem w715 : Cond.code yX3_isSign cX3_isSign 2 (some .boolean) ∈ pz_TB := pz_at 715 (by decide +kernel) rfl
theorem w712 : Cond.methodLink RX3 103 yX3_isSign ∈ pz_TB := pz_at 712 (by decide +kernel) rfl
theorem w714 : Cond.instanceMethod yX3_isSign ∈ pz_TB := pz_at 714 (by decide +kernel) rfl
theorem w15 : Cond.selects RX3 yX3_isSign yX3_isSign ∈ pz_TB := pz_at 15 (by decide +kernel) rfl
theorem w723 : Cond.code yX6_adds cX6_adds 2 none ∈ pz_TB := pz_at 723 (by decide +kernel) rfl
theorem w720 : Cond.methodLink RX3 107 yX6_adds ∈ pz_TB := pz_at 720 (by decide +kernel) rfl
theorem w721 : Cond.instanceMethod yX6_adds ∈ pz_TB := pz_at 721 (by decide +kernel) rfl
theorem w722 : Cond.selects RX6 yX6_adds yX6_adds ∈ pz_TB := pz_at 722 (by decide +kernel) rfl
theorem w699 : Cond.code yX3_readsTest cX3_readsTest 3 (some .boolean) ∈ pz_TB := pz_at 699 (by decide +kernel) rfl
theorem w696 : Cond.methodLink RX3 110 yX3_readsTest ∈ pz_TB := pz_at 696 (by decide +kernel) rfl
theorem w698 : Cond.instanceMethod yX3_readsTest ∈ pz_TB := pz_at 698 (by decide +kernel) rfl
theorem w11 : Cond.selects RX3 yX3_readsTest yX3_readsTest ∈ pz_TB := pz_at 11 (by decide +kernel) rfl
theorem w703 : Cond.code yX3_readsSum cX3_readsSum 4 (some .boolean) ∈ pz_TB := pz_at 703 (by decide +kernel) rfl
theorem w700 : Cond.methodLink RX3 113 yX3_readsSum ∈ pz_TB := pz_at 700 (by decide +kernel) rfl
theorem w702 : Cond.instanceMethod yX3_readsSum ∈ pz_TB := pz_at 702 (by decide +kernel) rfl
theorem w12 : Cond.selects RX3 yX3_readsSum yX3_readsSum ∈ pz_TB := pz_at 12 (by decide +kernel) rfl
theorem w707 : Cond.code yX3_readsTerm cX3_readsTerm 4 (some .boolean) ∈ pz_TB := pz_at 707 (by decide +kernel) rfl
theorem w704 : Cond.methodLink RX3 116 yX3_readsTerm ∈ pz_TB := pz_at 704 (by decide +kernel) rfl
theorem w706 : Cond.instanceMethod yX3_readsTerm ∈ pz_TB := pz_at 706 (by decide +kernel) rfl
theorem w13 : Cond.selects RX3 yX3_readsTerm yX3_readsTerm ∈ pz_TB := pz_at 13 (by decide +kernel) rfl
theorem w711 : Cond.code yX3_readsPiece cX3_readsPiece 2 (some .boolean) ∈ pz_TB := pz_at 711 (by decide +kernel) rfl
theorem w708 : Cond.methodLink RX3 119 yX3_readsPiece ∈ pz_TB := pz_at 708 (by decide +kernel) rfl
theorem w710 : Cond.instanceMethod yX3_readsPiece ∈ pz_TB := pz_at 710 (by decide +kernel) rfl
theorem w14 : Cond.selects RX3 yX3_readsPiece yX3_readsPiece ∈ pz_TB := pz_at 14 (by decide +kernel) rfl
theorem w719 : Cond.code yX3_readsNot cX3_readsNot 2 (some .boolean) ∈ pz_TB := pz_at 719 (by decide +kernel) rfl
theorem w716 : Cond.methodLink RX3 122 yX3_readsNot ∈ pz_TB := pz_at 716 (by decide +kernel) rfl
theorem w718 : Cond.instanceMethod yX3_readsNot ∈ pz_TB := pz_at 718 (by decide +kernel) rfl
theorem w16 : Cond.selects RX3 yX3_readsNot yX3_readsNot ∈ pz_TB := pz_at 16 (by decide +kernel) rfl
theorem w727 : Cond.code yX3_readsParen cX3_readsParen 2 (some .boolean) ∈ pz_TB := pz_at 727 (by decide +kernel) rfl
theorem w724 : Cond.methodLink RX3 125 yX3_readsParen ∈ pz_TB := pz_at 724 (by decide +kernel) rfl
theorem w726 : Cond.instanceMethod yX3_readsParen ∈ pz_TB := pz_at 726 (by decide +kernel) rfl
theorem w17 : Cond.selects RX3 yX3_readsParen yX3_readsParen ∈ pz_TB := pz_at 17 (by decide +kernel) rfl
theorem w731 : Cond.code yX3_nameHere cX3_nameHere 2 (some .int) ∈ pz_TB := pz_at 731 (by decide +kernel) rfl
theorem w728 : Cond.methodLink RX3 128 yX3_nameHere ∈ pz_TB := pz_at 728 (by decide +kernel) rfl
theorem w730 : Cond.instanceMethod yX3_nameHere ∈ pz_TB := pz_at 730 (by decide +kernel) rfl
theorem w18 : Cond.selects RX3 yX3_nameHere yX3_nameHere ∈ pz_TB := pz_at 18 (by decide +kernel) rfl
theorem w793 : Cond.code yX3_numberHere cX3_numberHere 3 (some .int) ∈ pz_TB := pz_at 793 (by decide +kernel) rfl
theorem w790 : Cond.methodLink RX3 131 yX3_numberHere ∈ pz_TB := pz_at 790 (by decide +kernel) rfl
theorem w792 : Cond.instanceMethod yX3_numberHere ∈ pz_TB := pz_at 792 (by decide +kernel) rfl
theorem w19 : Cond.selects RX3 yX3_numberHere yX3_numberHere ∈ pz_TB := pz_at 19 (by decide +kernel) rfl
theorem wf_X3_134 : Cond.fieldLink RX3 134 "LittlePot$Text" "leaves" "I" ∈ pz_TB := pz_at 188 (by decide +kernel) rfl
theorem wm_X4_3 : Cond.methodLink RX4 3 Lib.objectInit ∈ pz_TB := pz_at 248 (by decide +kernel) rfl
theorem wf_X4_9 : Cond.fieldLink RX4 9 "LittlePot$Sheet" "places" "[I" ∈ pz_TB := pz_at 249 (by decide +kernel) rfl
theorem wf_X4_15 : Cond.fieldLink RX4 15 "LittlePot$Sheet" "sort" "I" ∈ pz_TB := pz_at 251 (by decide +kernel) rfl
theorem wf_X4_19 : Cond.fieldLink RX4 19 "LittlePot$Sheet" "size" "I" ∈ pz_TB := pz_at 253 (by decide +kernel) rfl
theorem wm_X4_22 : Cond.methodLink RX4 22 arraycopyName ∈ pz_TB := pz_at 869 (by decide +kernel) rfl
theorem wc_X4_32 : Cond.constant RX4 32 (-1000000005) ∈ pz_TB := pz_at 578 (by decide +kernel) rfl
theorem w574 : Cond.methodLink RX4 33 yX4_isNumber ∈ pz_TB := pz_at 574 (by decide +kernel) rfl
theorem wm_X4_37 : Cond.methodLink RX4 37 Lib.Math.abs.name ∈ pz_TB := pz_at 579 (by decide +kernel) rfl
theorem wms_abs : Cond.static Lib.Math.abs.name ∈ pz_TB := pz_at 580 (by decide +kernel) rfl
theorem wmc_abs : Cond.code Lib.Math.abs.name Lib.Math.abs.code 1 (some .int) ∈ pz_TB := pz_at 581 (by decide +kernel) rfl
theorem wm_X4_46 : Cond.methodLink RX4 46 Lib.Math.min.name ∈ pz_TB := pz_at 839 (by decide +kernel) rfl
theorem wm_X4_50 : Cond.methodLink RX4 50 Lib.Math.max.name ∈ pz_TB := pz_at 840 (by decide +kernel) rfl
theorem wms_max : Cond.static Lib.Math.max.name ∈ pz_TB := pz_at 477 (by decide +kernel) rfl
theorem wmc_max : Cond.code Lib.Math.max.name Lib.Math.max.code 2 (some .int) ∈ pz_TB := pz_at 478 (by decide +kernel) rfl
theorem wm_X5_1 : Cond.methodLink RX5 1 Lib.objectInit ∈ pz_TB := pz_at 265 (by decide +kernel) rfl
theorem wk_X5_7 : Cond.classLink RX5 7 RX4 ∈ pz_TB := pz_at 266 (by decide +kernel) rfl
theorem wf_X5_10 : Cond.fieldLink RX5 10 "LittlePot$Slot" "row" "LLittlePot$Sheet;" ∈ pz_TB := pz_at 272 (by decide +kernel) rfl
theorem wm_X6_3 : Cond.methodLink RX6 3 Lib.objectInit ∈ pz_TB := pz_at 178 (by decide +kernel) rfl
theorem wf_X6_9 : Cond.fieldLink RX6 9 "LittlePot$Text" "code" "[I" ∈ pz_TB := pz_at 179 (by decide +kernel) rfl
theorem wf_X6_15 : Cond.fieldLink RX6 15 "LittlePot$Text" "key" "I" ∈ pz_TB := pz_at 183 (by decide +kernel) rfl
theorem wf_X6_19 : Cond.fieldLink RX6 19 "LittlePot$Text" "size" "I" ∈ pz_TB := pz_at 181 (by decide +kernel) rfl
theorem wf_X6_22 : Cond.fieldLink RX6 22 "LittlePot$Text" "leaves" "I" ∈ pz_TB := pz_at 187 (by decide +kernel) rfl
theorem wm_X7_3 : Cond.methodLink RX7 3 Lib.objectInit ∈ pz_TB := pz_at 110 (by decide +kernel) rfl
theorem wf_X7_9 : Cond.fieldLink RX7 9 "LittlePot$Town" "heights" "[I" ∈ pz_TB := pz_at 111 (by decide +kernel) rfl
theorem wf_X7_15 : Cond.fieldLink RX7 15 "LittlePot$Town" "walls" "[I" ∈ pz_TB := pz_at 113 (by decide +kernel) rfl
theorem wf_X7_18 : Cond.fieldLink RX7 18 "LittlePot$Town" "parts" "[I" ∈ pz_TB := pz_at 115 (by decide +kernel) rfl
theorem wf_X7_21 : Cond.fieldLink RX7 21 "LittlePot$Town" "kinds" "[I" ∈ pz_TB := pz_at 117 (by decide +kernel) rfl
theorem wf_X7_24 : Cond.fieldLink RX7 24 "LittlePot$Town" "places" "[I" ∈ pz_TB := pz_at 119 (by decide +kernel) rfl
theorem wf_X7_27 : Cond.fieldLink RX7 27 "LittlePot$Town" "ates" "[I" ∈ pz_TB := pz_at 121 (by decide +kernel) rfl
theorem wf_X7_30 : Cond.fieldLink RX7 30 "LittlePot$Town" "rules" "[I" ∈ pz_TB := pz_at 123 (by decide +kernel) rfl
theorem wf_X7_33 : Cond.fieldLink RX7 33 "LittlePot$Town" "z" "I" ∈ pz_TB := pz_at 133 (by decide +kernel) rfl
theorem wf_X7_37 : Cond.fieldLink RX7 37 "LittlePot$Town" "laws" "LLittlePot$Laws;" ∈ pz_TB := pz_at 137 (by decide +kernel) rfl
theorem wm_X7_41 : Cond.methodLink RX7 41 arraycopyName ∈ pz_TB := pz_at 536 (by decide +kernel) rfl
theorem wf_X7_47 : Cond.fieldLink RX7 47 "LittlePot$Town" "eaters" "I" ∈ pz_TB := pz_at 126 (by decide +kernel) rfl
theorem wf_X7_50 : Cond.fieldLink RX7 50 "LittlePot$Town" "pot" "I" ∈ pz_TB := pz_at 127 (by decide +kernel) rfl
theorem wf_X7_53 : Cond.fieldLink RX7 53 "LittlePot$Town" "cooks" "Z" ∈ pz_TB := pz_at 129 (by decide +kernel) rfl
theorem wf_X7_57 : Cond.fieldLink RX7 57 "LittlePot$Town" "minute" "I" ∈ pz_TB := pz_at 131 (by decide +kernel) rfl
theorem wf_X7_60 : Cond.fieldLink RX7 60 "LittlePot$Town" "texts" "I" ∈ pz_TB := pz_at 135 (by decide +kernel) rfl
theorem w454 : Cond.methodLink RX7 69 yX1_counting ∈ pz_TB := pz_at 454 (by decide +kernel) rfl
theorem w468 : Cond.methodLink RX7 73 yX1_given ∈ pz_TB := pz_at 468 (by decide +kernel) rfl
theorem wm_X7_77 : Cond.methodLink RX7 77 Lib.Math.min.name ∈ pz_TB := pz_at 475 (by decide +kernel) rfl
theorem wm_X7_83 : Cond.methodLink RX7 83 Lib.Math.max.name ∈ pz_TB := pz_at 476 (by decide +kernel) rfl
theorem wc_X7_86 : Cond.constant RX7 86 (1103515245) ∈ pz_TB := pz_at 429 (by decide +kernel) rfl
theorem w446 : Cond.methodLink RX7 87 yX7_pass ∈ pz_TB := pz_at 446 (by decide +kernel) rfl
theorem w450 : Cond.methodLink RX7 90 yX7_pours ∈ pz_TB := pz_at 450 (by decide +kernel) rfl
theorem w482 : Cond.code yX7_flows cX7_flows 6 none ∈ pz_TB := pz_at 482 (by decide +kernel) rfl
theorem w479 : Cond.methodLink RX7 94 yX7_flows ∈ pz_TB := pz_at 479 (by decide +kernel) rfl
theorem w481 : Cond.instanceMethod yX7_flows ∈ pz_TB := pz_at 481 (by decide +kernel) rfl
theorem w0 : Cond.selects RX7 yX7_flows yX7_flows ∈ pz_TB := pz_at 0 (by decide +kernel) rfl
theorem w493 : Cond.code yX7_feasts cX7_feasts 4 none ∈ pz_TB := pz_at 493 (by decide +kernel) rfl
theorem w490 : Cond.methodLink RX7 98 yX7_feasts ∈ pz_TB := pz_at 490 (by decide +kernel) rfl
theorem w492 : Cond.instanceMethod yX7_feasts ∈ pz_TB := pz_at 492 (by decide +kernel) rfl
theorem w1 : Cond.selects RX7 yX7_feasts yX7_feasts ∈ pz_TB := pz_at 1 (by decide +kernel) rfl
theorem w503 : Cond.code yX7_miceEat cX7_miceEat 2 none ∈ pz_TB := pz_at 503 (by decide +kernel) rfl
theorem w500 : Cond.methodLink RX7 101 yX7_miceEat ∈ pz_TB := pz_at 500 (by decide +kernel) rfl
theorem w502 : Cond.instanceMethod yX7_miceEat ∈ pz_TB := pz_at 502 (by decide +kernel) rfl
theorem w3 : Cond.selects RX7 yX7_miceEat yX7_miceEat ∈ pz_TB := pz_at 3 (by decide +kernel) rfl
theorem wc_X7_104 : Cond.constant RX7 104 (2147483647) ∈ pz_TB := pz_at 483 (by decide +kernel) rfl
theorem w486 : Cond.code yX2_beside cX2_beside 2 (some .int) ∈ pz_TB := pz_at 486 (by decide +kernel) rfl
theorem w74 : Cond.initialized RX2 ∈ pz_TB := pz_at 74 (by decide +kernel) rfl
theorem w484 : Cond.methodLink RX7 107 yX2_beside ∈ pz_TB := pz_at 484 (by decide +kernel) rfl
theorem w485 : Cond.static yX2_beside ∈ pz_TB := pz_at 485 (by decide +kernel) rfl
theorem w489 : Cond.methodLink RX7 110 yX7_level ∈ pz_TB := pz_at 489 (by decide +kernel) rfl
theorem w494 : Cond.methodLink RX7 114 yX0_eats ∈ pz_TB := pz_at 494 (by decide +kernel) rfl
theorem w495 : Cond.methodLink RX7 119 yX0_wades ∈ pz_TB := pz_at 495 (by decide +kernel) rfl
theorem w499 : Cond.code yX7_fullestBeside cX7_fullestBeside 7 (some .int) ∈ pz_TB := pz_at 499 (by decide +kernel) rfl
theorem w496 : Cond.methodLink RX7 122 yX7_fullestBeside ∈ pz_TB := pz_at 496 (by decide +kernel) rfl
theorem w498 : Cond.instanceMethod yX7_fullestBeside ∈ pz_TB := pz_at 498 (by decide +kernel) rfl
theorem w2 : Cond.selects RX7 yX7_fullestBeside yX7_fullestBeside ∈ pz_TB := pz_at 2 (by decide +kernel) rfl
theorem w504 : Cond.methodLink RX7 125 yX7_draw ∈ pz_TB := pz_at 504 (by decide +kernel) rfl
theorem wm_X8_3 : Cond.methodLink RX8 3 Lib.objectInit ∈ pz_TB := pz_at 232 (by decide +kernel) rfl
theorem wf_X8_9 : Cond.fieldLink RX8 9 "LittlePot$Ways" "steps" "[I" ∈ pz_TB := pz_at 233 (by decide +kernel) rfl
theorem wf_X8_15 : Cond.fieldLink RX8 15 "LittlePot$Ways" "reached" "[I" ∈ pz_TB := pz_at 234 (by decide +kernel) rfl
theorem wc_X8_18 : Cond.constant RX8 18 (-1000000005) ∈ pz_TB := pz_at 526 (by decide +kernel) rfl
theorem w527 : Cond.methodLink RX8 21 yX2_beside ∈ pz_TB := pz_at 527 (by decide +kernel) rfl
theorem wk_L_7 : Cond.classLink RL 7 RX9 ∈ pz_TB := pz_at 81 (by decide +kernel) rfl
theorem wi_RX9 : Cond.instantiable RX9 12 ∈ pz_TB := pz_at 82 (by decide +kernel) rfl
theorem wn_RX9 : Cond.initialized RX9 ∈ pz_TB := pz_at 63 (by decide +kernel) rfl
theorem w85 : Cond.code yX9_init cX9_init 2 none ∈ pz_TB := pz_at 85 (by decide +kernel) rfl
theorem w83 : Cond.methodLink RL 9 yX9_init ∈ pz_TB := pz_at 83 (by decide +kernel) rfl
theorem w84 : Cond.instanceMethod yX9_init ∈ pz_TB := pz_at 84 (by decide +kernel) rfl
theorem wk_L_10 : Cond.classLink RL 10 RX10 ∈ pz_TB := pz_at 911 (by decide +kernel) rfl
theorem wi_RX10 : Cond.instantiable RX10 33 ∈ pz_TB := pz_at 912 (by decide +kernel) rfl
theorem wn_RX10 : Cond.initialized RX10 ∈ pz_TB := pz_at 71 (by decide +kernel) rfl
theorem w915 : Cond.code yX10_init cX10_init 2 none ∈ pz_TB := pz_at 915 (by decide +kernel) rfl
theorem w913 : Cond.methodLink RL 12 yX10_init ∈ pz_TB := pz_at 913 (by decide +kernel) rfl
theorem w914 : Cond.instanceMethod yX10_init ∈ pz_TB := pz_at 914 (by decide +kernel) rfl
theorem w325 : Cond.code yX9_eater cX9_eater 3 (some .int) ∈ pz_TB := pz_at 325 (by decide +kernel) rfl
theorem w322 : Cond.methodLink RL 13 yX9_eater ∈ pz_TB := pz_at 322 (by decide +kernel) rfl
theorem w323 : Cond.instanceMethod yX9_eater ∈ pz_TB := pz_at 323 (by decide +kernel) rfl
theorem w324 : Cond.selects RX9 yX9_eater yX9_eater ∈ pz_TB := pz_at 324 (by decide +kernel) rfl
theorem w1020 : Cond.code yX10_eater cX10_eater 3 (some .int) ∈ pz_TB := pz_at 1020 (by decide +kernel) rfl
theorem w1017 : Cond.methodLink RL 17 yX10_eater ∈ pz_TB := pz_at 1017 (by decide +kernel) rfl
theorem w1018 : Cond.instanceMethod yX10_eater ∈ pz_TB := pz_at 1018 (by decide +kernel) rfl
theorem w1019 : Cond.selects RX10 yX10_eater yX10_eater ∈ pz_TB := pz_at 1019 (by decide +kernel) rfl
theorem w345 : Cond.code yX9_told cX9_told 4 (some .int) ∈ pz_TB := pz_at 345 (by decide +kernel) rfl
theorem w342 : Cond.methodLink RL 18 yX9_told ∈ pz_TB := pz_at 342 (by decide +kernel) rfl
theorem w343 : Cond.instanceMethod yX9_told ∈ pz_TB := pz_at 343 (by decide +kernel) rfl
theorem w344 : Cond.selects RX9 yX9_told yX9_told ∈ pz_TB := pz_at 344 (by decide +kernel) rfl
theorem w1042 : Cond.code yX10_told cX10_told 3 (some .int) ∈ pz_TB := pz_at 1042 (by decide +kernel) rfl
theorem w1039 : Cond.methodLink RL 21 yX10_told ∈ pz_TB := pz_at 1039 (by decide +kernel) rfl
theorem w1040 : Cond.instanceMethod yX10_told ∈ pz_TB := pz_at 1040 (by decide +kernel) rfl
theorem w1041 : Cond.selects RX10 yX10_told yX10_told ∈ pz_TB := pz_at 1041 (by decide +kernel) rfl
theorem w369 : Cond.code yX9_cell cX9_cell 3 (some .int) ∈ pz_TB := pz_at 369 (by decide +kernel) rfl
theorem w366 : Cond.methodLink RL 22 yX9_cell ∈ pz_TB := pz_at 366 (by decide +kernel) rfl
theorem w367 : Cond.instanceMethod yX9_cell ∈ pz_TB := pz_at 367 (by decide +kernel) rfl
theorem w368 : Cond.selects RX9 yX9_cell yX9_cell ∈ pz_TB := pz_at 368 (by decide +kernel) rfl
theorem w1070 : Cond.code yX10_cell cX10_cell 3 (some .int) ∈ pz_TB := pz_at 1070 (by decide +kernel) rfl
theorem w1067 : Cond.methodLink RL 25 yX10_cell ∈ pz_TB := pz_at 1067 (by decide +kernel) rfl
theorem w1068 : Cond.instanceMethod yX10_cell ∈ pz_TB := pz_at 1068 (by decide +kernel) rfl
theorem w1069 : Cond.selects RX10 yX10_cell yX10_cell ∈ pz_TB := pz_at 1069 (by decide +kernel) rfl
theorem w381 : Cond.code yX9_lays cX9_lays 6 (some .int) ∈ pz_TB := pz_at 381 (by decide +kernel) rfl
theorem w378 : Cond.methodLink RL 26 yX9_lays ∈ pz_TB := pz_at 378 (by decide +kernel) rfl
theorem w379 : Cond.instanceMethod yX9_lays ∈ pz_TB := pz_at 379 (by decide +kernel) rfl
theorem w380 : Cond.selects RX9 yX9_lays yX9_lays ∈ pz_TB := pz_at 380 (by decide +kernel) rfl
theorem w1079 : Cond.code yX10_lays cX10_lays 4 (some .int) ∈ pz_TB := pz_at 1079 (by decide +kernel) rfl
theorem w1076 : Cond.methodLink RL 30 yX10_lays ∈ pz_TB := pz_at 1076 (by decide +kernel) rfl
theorem w1077 : Cond.instanceMethod yX10_lays ∈ pz_TB := pz_at 1077 (by decide +kernel) rfl
theorem w1078 : Cond.selects RX10 yX10_lays yX10_lays ∈ pz_TB := pz_at 1078 (by decide +kernel) rfl
theorem w387 : Cond.code yX9_as cX9_as 3 (some .int) ∈ pz_TB := pz_at 387 (by decide +kernel) rfl
theorem w384 : Cond.methodLink RL 31 yX9_as ∈ pz_TB := pz_at 384 (by decide +kernel) rfl
theorem w385 : Cond.instanceMethod yX9_as ∈ pz_TB := pz_at 385 (by decide +kernel) rfl
theorem w386 : Cond.selects RX9 yX9_as yX9_as ∈ pz_TB := pz_at 386 (by decide +kernel) rfl
theorem w1090 : Cond.code yX10_as cX10_as 3 (some .int) ∈ pz_TB := pz_at 1090 (by decide +kernel) rfl
theorem w1087 : Cond.methodLink RL 34 yX10_as ∈ pz_TB := pz_at 1087 (by decide +kernel) rfl
theorem w1088 : Cond.instanceMethod yX10_as ∈ pz_TB := pz_at 1088 (by decide +kernel) rfl
theorem w1089 : Cond.selects RX10 yX10_as yX10_as ∈ pz_TB := pz_at 1089 (by decide +kernel) rfl
theorem w398 : Cond.code yX9_turns cX9_turns 4 (some .int) ∈ pz_TB := pz_at 398 (by decide +kernel) rfl
theorem w395 : Cond.methodLink RL 35 yX9_turns ∈ pz_TB := pz_at 395 (by decide +kernel) rfl
theorem w396 : Cond.instanceMethod yX9_turns ∈ pz_TB := pz_at 396 (by decide +kernel) rfl
theorem w397 : Cond.selects RX9 yX9_turns yX9_turns ∈ pz_TB := pz_at 397 (by decide +kernel) rfl
theorem w1098 : Cond.code yX10_turns cX10_turns 3 (some .int) ∈ pz_TB := pz_at 1098 (by decide +kernel) rfl
theorem w1095 : Cond.methodLink RL 38 yX10_turns ∈ pz_TB := pz_at 1095 (by decide +kernel) rfl
theorem w1096 : Cond.instanceMethod yX10_turns ∈ pz_TB := pz_at 1096 (by decide +kernel) rfl
theorem w1097 : Cond.selects RX10 yX10_turns yX10_turns ∈ pz_TB := pz_at 1097 (by decide +kernel) rfl
theorem w402 : Cond.code yX9_sends cX9_sends 4 (some .int) ∈ pz_TB := pz_at 402 (by decide +kernel) rfl
theorem w399 : Cond.methodLink RL 39 yX9_sends ∈ pz_TB := pz_at 399 (by decide +kernel) rfl
theorem w400 : Cond.instanceMethod yX9_sends ∈ pz_TB := pz_at 400 (by decide +kernel) rfl
theorem w401 : Cond.selects RX9 yX9_sends yX9_sends ∈ pz_TB := pz_at 401 (by decide +kernel) rfl
theorem w1102 : Cond.code yX10_sends cX10_sends 3 (some .int) ∈ pz_TB := pz_at 1102 (by decide +kernel) rfl
theorem w1099 : Cond.methodLink RL 42 yX10_sends ∈ pz_TB := pz_at 1099 (by decide +kernel) rfl
theorem w1100 : Cond.instanceMethod yX10_sends ∈ pz_TB := pz_at 1100 (by decide +kernel) rfl
theorem w1101 : Cond.selects RX10 yX10_sends yX10_sends ∈ pz_TB := pz_at 1101 (by decide +kernel) rfl
theorem w406 : Cond.code yX9_cook cX9_cook 3 (some .int) ∈ pz_TB := pz_at 406 (by decide +kernel) rfl
theorem w403 : Cond.methodLink RL 43 yX9_cook ∈ pz_TB := pz_at 403 (by decide +kernel) rfl
theorem w404 : Cond.instanceMethod yX9_cook ∈ pz_TB := pz_at 404 (by decide +kernel) rfl
theorem w405 : Cond.selects RX9 yX9_cook yX9_cook ∈ pz_TB := pz_at 405 (by decide +kernel) rfl
theorem w1106 : Cond.code yX10_cook cX10_cook 2 (some .int) ∈ pz_TB := pz_at 1106 (by decide +kernel) rfl
theorem w1103 : Cond.methodLink RL 47 yX10_cook ∈ pz_TB := pz_at 1103 (by decide +kernel) rfl
theorem w1104 : Cond.instanceMethod yX10_cook ∈ pz_TB := pz_at 1104 (by decide +kernel) rfl
theorem w1105 : Cond.selects RX10 yX10_cook yX10_cook ∈ pz_TB := pz_at 1105 (by decide +kernel) rfl
theorem w410 : Cond.code yX9_say cX9_say 3 (some .int) ∈ pz_TB := pz_at 410 (by decide +kernel) rfl
theorem w407 : Cond.methodLink RL 48 yX9_say ∈ pz_TB := pz_at 407 (by decide +kernel) rfl
theorem w408 : Cond.instanceMethod yX9_say ∈ pz_TB := pz_at 408 (by decide +kernel) rfl
theorem w409 : Cond.selects RX9 yX9_say yX9_say ∈ pz_TB := pz_at 409 (by decide +kernel) rfl
theorem w1110 : Cond.code yX10_say cX10_say 3 (some .int) ∈ pz_TB := pz_at 1110 (by decide +kernel) rfl
theorem w1107 : Cond.methodLink RL 51 yX10_say ∈ pz_TB := pz_at 1107 (by decide +kernel) rfl
theorem w1108 : Cond.instanceMethod yX10_say ∈ pz_TB := pz_at 1108 (by decide +kernel) rfl
theorem w1109 : Cond.selects RX10 yX10_say yX10_say ∈ pz_TB := pz_at 1109 (by decide +kernel) rfl
theorem w420 : Cond.code yX9_rule cX9_rule 4 (some .int) ∈ pz_TB := pz_at 420 (by decide +kernel) rfl
theorem w417 : Cond.methodLink RL 52 yX9_rule ∈ pz_TB := pz_at 417 (by decide +kernel) rfl
theorem w418 : Cond.instanceMethod yX9_rule ∈ pz_TB := pz_at 418 (by decide +kernel) rfl
theorem w419 : Cond.selects RX9 yX9_rule yX9_rule ∈ pz_TB := pz_at 419 (by decide +kernel) rfl
theorem w1119 : Cond.code yX10_rule cX10_rule 3 (some .int) ∈ pz_TB := pz_at 1119 (by decide +kernel) rfl
theorem w1116 : Cond.methodLink RL 55 yX10_rule ∈ pz_TB := pz_at 1116 (by decide +kernel) rfl
theorem w1117 : Cond.instanceMethod yX10_rule ∈ pz_TB := pz_at 1117 (by decide +kernel) rfl
theorem w1118 : Cond.selects RX10 yX10_rule yX10_rule ∈ pz_TB := pz_at 1118 (by decide +kernel) rfl
theorem w424 : Cond.code yX9_deal cX9_deal 5 (some .int) ∈ pz_TB := pz_at 424 (by decide +kernel) rfl
theorem w421 : Cond.methodLink RL 56 yX9_deal ∈ pz_TB := pz_at 421 (by decide +kernel) rfl
theorem w422 : Cond.instanceMethod yX9_deal ∈ pz_TB := pz_at 422 (by decide +kernel) rfl
theorem w423 : Cond.selects RX9 yX9_deal yX9_deal ∈ pz_TB := pz_at 423 (by decide +kernel) rfl
theorem w1126 : Cond.code yX10_deal cX10_deal 4 (some .int) ∈ pz_TB := pz_at 1126 (by decide +kernel) rfl
theorem w1123 : Cond.methodLink RL 59 yX10_deal ∈ pz_TB := pz_at 1123 (by decide +kernel) rfl
theorem w1124 : Cond.instanceMethod yX10_deal ∈ pz_TB := pz_at 1124 (by decide +kernel) rfl
theorem w1125 : Cond.selects RX10 yX10_deal yX10_deal ∈ pz_TB := pz_at 1125 (by decide +kernel) rfl
theorem w433 : Cond.code yX9_seed cX9_seed 3 (some .int) ∈ pz_TB := pz_at 433 (by decide +kernel) rfl
theorem w430 : Cond.methodLink RL 60 yX9_seed ∈ pz_TB := pz_at 430 (by decide +kernel) rfl
theorem w431 : Cond.instanceMethod yX9_seed ∈ pz_TB := pz_at 431 (by decide +kernel) rfl
theorem w432 : Cond.selects RX9 yX9_seed yX9_seed ∈ pz_TB := pz_at 432 (by decide +kernel) rfl
theorem w1136 : Cond.code yX10_seed cX10_seed 2 (some .int) ∈ pz_TB := pz_at 1136 (by decide +kernel) rfl
theorem w1133 : Cond.methodLink RL 63 yX10_seed ∈ pz_TB := pz_at 1133 (by decide +kernel) rfl
theorem w1134 : Cond.instanceMethod yX10_seed ∈ pz_TB := pz_at 1134 (by decide +kernel) rfl
theorem w1135 : Cond.selects RX10 yX10_seed yX10_seed ∈ pz_TB := pz_at 1135 (by decide +kernel) rfl
theorem w437 : Cond.code yX9_minutes cX9_minutes 3 (some .int) ∈ pz_TB := pz_at 437 (by decide +kernel) rfl
theorem w434 : Cond.methodLink RL 64 yX9_minutes ∈ pz_TB := pz_at 434 (by decide +kernel) rfl
theorem w435 : Cond.instanceMethod yX9_minutes ∈ pz_TB := pz_at 435 (by decide +kernel) rfl
theorem w436 : Cond.selects RX9 yX9_minutes yX9_minutes ∈ pz_TB := pz_at 436 (by decide +kernel) rfl
theorem w1140 : Cond.code yX10_minutes cX10_minutes 4 (some .int) ∈ pz_TB := pz_at 1140 (by decide +kernel) rfl
theorem w1137 : Cond.methodLink RL 67 yX10_minutes ∈ pz_TB := pz_at 1137 (by decide +kernel) rfl
theorem w1138 : Cond.instanceMethod yX10_minutes ∈ pz_TB := pz_at 1138 (by decide +kernel) rfl
theorem w1139 : Cond.selects RX10 yX10_minutes yX10_minutes ∈ pz_TB := pz_at 1139 (by decide +kernel) rfl
theorem w508 : Cond.code yX9_town cX9_town 2 (some .int) ∈ pz_TB := pz_at 508 (by decide +kernel) rfl
theorem w505 : Cond.methodLink RL 68 yX9_town ∈ pz_TB := pz_at 505 (by decide +kernel) rfl
theorem w506 : Cond.instanceMethod yX9_town ∈ pz_TB := pz_at 506 (by decide +kernel) rfl
theorem w507 : Cond.selects RX9 yX9_town yX9_town ∈ pz_TB := pz_at 507 (by decide +kernel) rfl
theorem w1179 : Cond.code yX10_town cX10_town 2 (some .int) ∈ pz_TB := pz_at 1179 (by decide +kernel) rfl
theorem w1176 : Cond.methodLink RL 71 yX10_town ∈ pz_TB := pz_at 1176 (by decide +kernel) rfl
theorem w1177 : Cond.instanceMethod yX10_town ∈ pz_TB := pz_at 1177 (by decide +kernel) rfl
theorem w1178 : Cond.selects RX10 yX10_town yX10_town ∈ pz_TB := pz_at 1178 (by decide +kernel) rfl
theorem w521 : Cond.code yX9_path cX9_path 4 (some .int) ∈ pz_TB := pz_at 521 (by decide +kernel) rfl
theorem w518 : Cond.methodLink RL 72 yX9_path ∈ pz_TB := pz_at 518 (by decide +kernel) rfl
theorem w519 : Cond.instanceMethod yX9_path ∈ pz_TB := pz_at 519 (by decide +kernel) rfl
theorem w520 : Cond.selects RX9 yX9_path yX9_path ∈ pz_TB := pz_at 520 (by decide +kernel) rfl
theorem w1195 : Cond.code yX10_path cX10_path 8 (some .int) ∈ pz_TB := pz_at 1195 (by decide +kernel) rfl
theorem w1192 : Cond.methodLink RL 75 yX10_path ∈ pz_TB := pz_at 1192 (by decide +kernel) rfl
theorem w1193 : Cond.instanceMethod yX10_path ∈ pz_TB := pz_at 1193 (by decide +kernel) rfl
theorem w1194 : Cond.selects RX10 yX10_path yX10_path ∈ pz_TB := pz_at 1194 (by decide +kernel) rfl
theorem w531 : Cond.code yX9_behind cX9_behind 3 (some .int) ∈ pz_TB := pz_at 531 (by decide +kernel) rfl
theorem w528 : Cond.methodLink RL 76 yX9_behind ∈ pz_TB := pz_at 528 (by decide +kernel) rfl
theorem w529 : Cond.instanceMethod yX9_behind ∈ pz_TB := pz_at 529 (by decide +kernel) rfl
theorem w530 : Cond.selects RX9 yX9_behind yX9_behind ∈ pz_TB := pz_at 530 (by decide +kernel) rfl
theorem w1204 : Cond.code yX10_behind cX10_behind 4 (some .int) ∈ pz_TB := pz_at 1204 (by decide +kernel) rfl
theorem w1201 : Cond.methodLink RL 79 yX10_behind ∈ pz_TB := pz_at 1201 (by decide +kernel) rfl
theorem w1202 : Cond.instanceMethod yX10_behind ∈ pz_TB := pz_at 1202 (by decide +kernel) rfl
theorem w1203 : Cond.selects RX10 yX10_behind yX10_behind ∈ pz_TB := pz_at 1203 (by decide +kernel) rfl
theorem w542 : Cond.code yX9_wets cX9_wets 3 (some .int) ∈ pz_TB := pz_at 542 (by decide +kernel) rfl
theorem w539 : Cond.methodLink RL 80 yX9_wets ∈ pz_TB := pz_at 539 (by decide +kernel) rfl
theorem w540 : Cond.instanceMethod yX9_wets ∈ pz_TB := pz_at 540 (by decide +kernel) rfl
theorem w541 : Cond.selects RX9 yX9_wets yX9_wets ∈ pz_TB := pz_at 541 (by decide +kernel) rfl
theorem w1221 : Cond.code yX10_wets cX10_wets 4 (some .int) ∈ pz_TB := pz_at 1221 (by decide +kernel) rfl
theorem w1218 : Cond.methodLink RL 83 yX10_wets ∈ pz_TB := pz_at 1218 (by decide +kernel) rfl
theorem w1219 : Cond.instanceMethod yX10_wets ∈ pz_TB := pz_at 1219 (by decide +kernel) rfl
theorem w1220 : Cond.selects RX10 yX10_wets yX10_wets ∈ pz_TB := pz_at 1220 (by decide +kernel) rfl
theorem w548 : Cond.code yX9_deepest cX9_deepest 5 (some .int) ∈ pz_TB := pz_at 548 (by decide +kernel) rfl
theorem w545 : Cond.methodLink RL 84 yX9_deepest ∈ pz_TB := pz_at 545 (by decide +kernel) rfl
theorem w546 : Cond.instanceMethod yX9_deepest ∈ pz_TB := pz_at 546 (by decide +kernel) rfl
theorem w547 : Cond.selects RX9 yX9_deepest yX9_deepest ∈ pz_TB := pz_at 547 (by decide +kernel) rfl
theorem w1225 : Cond.code yX10_deepest cX10_deepest 5 (some .int) ∈ pz_TB := pz_at 1225 (by decide +kernel) rfl
theorem w1222 : Cond.methodLink RL 87 yX10_deepest ∈ pz_TB := pz_at 1222 (by decide +kernel) rfl
theorem w1223 : Cond.instanceMethod yX10_deepest ∈ pz_TB := pz_at 1223 (by decide +kernel) rfl
theorem w1224 : Cond.selects RX10 yX10_deepest yX10_deepest ∈ pz_TB := pz_at 1224 (by decide +kernel) rfl
theorem w552 : Cond.code yX9_walled cX9_walled 7 (some .int) ∈ pz_TB := pz_at 552 (by decide +kernel) rfl
theorem w549 : Cond.methodLink RL 88 yX9_walled ∈ pz_TB := pz_at 549 (by decide +kernel) rfl
theorem w550 : Cond.instanceMethod yX9_walled ∈ pz_TB := pz_at 550 (by decide +kernel) rfl
theorem w551 : Cond.selects RX9 yX9_walled yX9_walled ∈ pz_TB := pz_at 551 (by decide +kernel) rfl
theorem w1229 : Cond.code yX10_walled cX10_walled 8 (some .int) ∈ pz_TB := pz_at 1229 (by decide +kernel) rfl
theorem w1226 : Cond.methodLink RL 91 yX10_walled ∈ pz_TB := pz_at 1226 (by decide +kernel) rfl
theorem w1227 : Cond.instanceMethod yX10_walled ∈ pz_TB := pz_at 1227 (by decide +kernel) rfl
theorem w1228 : Cond.selects RX10 yX10_walled yX10_walled ∈ pz_TB := pz_at 1228 (by decide +kernel) rfl
theorem w557 : Cond.code yX9_enough cX9_enough 5 (some .int) ∈ pz_TB := pz_at 557 (by decide +kernel) rfl
theorem w554 : Cond.methodLink RL 92 yX9_enough ∈ pz_TB := pz_at 554 (by decide +kernel) rfl
theorem w555 : Cond.instanceMethod yX9_enough ∈ pz_TB := pz_at 555 (by decide +kernel) rfl
theorem w556 : Cond.selects RX9 yX9_enough yX9_enough ∈ pz_TB := pz_at 556 (by decide +kernel) rfl
theorem w1233 : Cond.code yX10_enough cX10_enough 5 (some .int) ∈ pz_TB := pz_at 1233 (by decide +kernel) rfl
theorem w1230 : Cond.methodLink RL 95 yX10_enough ∈ pz_TB := pz_at 1230 (by decide +kernel) rfl
theorem w1231 : Cond.instanceMethod yX10_enough ∈ pz_TB := pz_at 1231 (by decide +kernel) rfl
theorem w1232 : Cond.selects RX10 yX10_enough yX10_enough ∈ pz_TB := pz_at 1232 (by decide +kernel) rfl
theorem w561 : Cond.code yX9_stood cX9_stood 8 (some .int) ∈ pz_TB := pz_at 561 (by decide +kernel) rfl
theorem w558 : Cond.methodLink RL 96 yX9_stood ∈ pz_TB := pz_at 558 (by decide +kernel) rfl
theorem w559 : Cond.instanceMethod yX9_stood ∈ pz_TB := pz_at 559 (by decide +kernel) rfl
theorem w560 : Cond.selects RX9 yX9_stood yX9_stood ∈ pz_TB := pz_at 560 (by decide +kernel) rfl
theorem w1358 : Cond.code yX10_stood cX10_stood 10 (some .int) ∈ pz_TB := pz_at 1358 (by decide +kernel) rfl
theorem w1355 : Cond.methodLink RL 99 yX10_stood ∈ pz_TB := pz_at 1355 (by decide +kernel) rfl
theorem w1356 : Cond.instanceMethod yX10_stood ∈ pz_TB := pz_at 1356 (by decide +kernel) rfl
theorem w1357 : Cond.selects RX10 yX10_stood yX10_stood ∈ pz_TB := pz_at 1357 (by decide +kernel) rfl
theorem w585 : Cond.code yX9_fee cX9_fee 3 (some .int) ∈ pz_TB := pz_at 585 (by decide +kernel) rfl
theorem w582 : Cond.methodLink RL 100 yX9_fee ∈ pz_TB := pz_at 582 (by decide +kernel) rfl
theorem w583 : Cond.instanceMethod yX9_fee ∈ pz_TB := pz_at 583 (by decide +kernel) rfl
theorem w584 : Cond.selects RX9 yX9_fee yX9_fee ∈ pz_TB := pz_at 584 (by decide +kernel) rfl
theorem w1238 : Cond.code yX10_fee cX10_fee 2 (some .int) ∈ pz_TB := pz_at 1238 (by decide +kernel) rfl
theorem w1235 : Cond.methodLink RL 104 yX10_fee ∈ pz_TB := pz_at 1235 (by decide +kernel) rfl
theorem w1236 : Cond.instanceMethod yX10_fee ∈ pz_TB := pz_at 1236 (by decide +kernel) rfl
theorem w1237 : Cond.selects RX10 yX10_fee yX10_fee ∈ pz_TB := pz_at 1237 (by decide +kernel) rfl
theorem w591 : Cond.code yX9_fine cX9_fine 4 (some .int) ∈ pz_TB := pz_at 591 (by decide +kernel) rfl
theorem w588 : Cond.methodLink RL 105 yX9_fine ∈ pz_TB := pz_at 588 (by decide +kernel) rfl
theorem w589 : Cond.instanceMethod yX9_fine ∈ pz_TB := pz_at 589 (by decide +kernel) rfl
theorem w590 : Cond.selects RX9 yX9_fine yX9_fine ∈ pz_TB := pz_at 590 (by decide +kernel) rfl
theorem w1242 : Cond.code yX10_fine cX10_fine 3 (some .int) ∈ pz_TB := pz_at 1242 (by decide +kernel) rfl
theorem w1239 : Cond.methodLink RL 108 yX10_fine ∈ pz_TB := pz_at 1239 (by decide +kernel) rfl
theorem w1240 : Cond.instanceMethod yX10_fine ∈ pz_TB := pz_at 1240 (by decide +kernel) rfl
theorem w1241 : Cond.selects RX10 yX10_fine yX10_fine ∈ pz_TB := pz_at 1241 (by decide +kernel) rfl
theorem w595 : Cond.code yX9_feed cX9_feed 4 (some .int) ∈ pz_TB := pz_at 595 (by decide +kernel) rfl
theorem w592 : Cond.methodLink RL 109 yX9_feed ∈ pz_TB := pz_at 592 (by decide +kernel) rfl
theorem w593 : Cond.instanceMethod yX9_feed ∈ pz_TB := pz_at 593 (by decide +kernel) rfl
theorem w594 : Cond.selects RX9 yX9_feed yX9_feed ∈ pz_TB := pz_at 594 (by decide +kernel) rfl
theorem w1246 : Cond.code yX10_feed cX10_feed 6 (some .int) ∈ pz_TB := pz_at 1246 (by decide +kernel) rfl
theorem w1243 : Cond.methodLink RL 112 yX10_feed ∈ pz_TB := pz_at 1243 (by decide +kernel) rfl
theorem w1244 : Cond.instanceMethod yX10_feed ∈ pz_TB := pz_at 1244 (by decide +kernel) rfl
theorem w1245 : Cond.selects RX10 yX10_feed yX10_feed ∈ pz_TB := pz_at 1245 (by decide +kernel) rfl
theorem w603 : Cond.code yX9_trim cX9_trim 2 (some .int) ∈ pz_TB := pz_at 603 (by decide +kernel) rfl
theorem w600 : Cond.methodLink RL 113 yX9_trim ∈ pz_TB := pz_at 600 (by decide +kernel) rfl
theorem w601 : Cond.instanceMethod yX9_trim ∈ pz_TB := pz_at 601 (by decide +kernel) rfl
theorem w602 : Cond.selects RX9 yX9_trim yX9_trim ∈ pz_TB := pz_at 602 (by decide +kernel) rfl
theorem w1250 : Cond.code yX10_trim cX10_trim 2 (some .int) ∈ pz_TB := pz_at 1250 (by decide +kernel) rfl
theorem w1247 : Cond.methodLink RL 116 yX10_trim ∈ pz_TB := pz_at 1247 (by decide +kernel) rfl
theorem w1248 : Cond.instanceMethod yX10_trim ∈ pz_TB := pz_at 1248 (by decide +kernel) rfl
theorem w1249 : Cond.selects RX10 yX10_trim yX10_trim ∈ pz_TB := pz_at 1249 (by decide +kernel) rfl
theorem w607 : Cond.code yX9_text cX9_text 2 (some .int) ∈ pz_TB := pz_at 607 (by decide +kernel) rfl
theorem w604 : Cond.methodLink RL 117 yX9_text ∈ pz_TB := pz_at 604 (by decide +kernel) rfl
theorem w605 : Cond.instanceMethod yX9_text ∈ pz_TB := pz_at 605 (by decide +kernel) rfl
theorem w606 : Cond.selects RX9 yX9_text yX9_text ∈ pz_TB := pz_at 606 (by decide +kernel) rfl
theorem w1254 : Cond.code yX10_text cX10_text 3 (some .int) ∈ pz_TB := pz_at 1254 (by decide +kernel) rfl
theorem w1251 : Cond.methodLink RL 120 yX10_text ∈ pz_TB := pz_at 1251 (by decide +kernel) rfl
theorem w1252 : Cond.instanceMethod yX10_text ∈ pz_TB := pz_at 1252 (by decide +kernel) rfl
theorem w1253 : Cond.selects RX10 yX10_text yX10_text ∈ pz_TB := pz_at 1253 (by decide +kernel) rfl
theorem w802 : Cond.code yX9_textTold cX9_textTold 4 (some .int) ∈ pz_TB := pz_at 802 (by decide +kernel) rfl
theorem w799 : Cond.methodLink RL 121 yX9_textTold ∈ pz_TB := pz_at 799 (by decide +kernel) rfl
theorem w800 : Cond.instanceMethod yX9_textTold ∈ pz_TB := pz_at 800 (by decide +kernel) rfl
theorem w801 : Cond.selects RX9 yX9_textTold yX9_textTold ∈ pz_TB := pz_at 801 (by decide +kernel) rfl
theorem w1321 : Cond.code yX10_textTold cX10_textTold 3 (some .int) ∈ pz_TB := pz_at 1321 (by decide +kernel) rfl
theorem w1318 : Cond.methodLink RL 124 yX10_textTold ∈ pz_TB := pz_at 1318 (by decide +kernel) rfl
theorem w1319 : Cond.instanceMethod yX10_textTold ∈ pz_TB := pz_at 1319 (by decide +kernel) rfl
theorem w1320 : Cond.selects RX10 yX10_textTold yX10_textTold ∈ pz_TB := pz_at 1320 (by decide +kernel) rfl
theorem w807 : Cond.code yX9_why cX9_why 3 (some .int) ∈ pz_TB := pz_at 807 (by decide +kernel) rfl
theorem w804 : Cond.methodLink RL 125 yX9_why ∈ pz_TB := pz_at 804 (by decide +kernel) rfl
theorem w805 : Cond.instanceMethod yX9_why ∈ pz_TB := pz_at 805 (by decide +kernel) rfl
theorem w806 : Cond.selects RX9 yX9_why yX9_why ∈ pz_TB := pz_at 806 (by decide +kernel) rfl
theorem w1329 : Cond.code yX10_why cX10_why 2 (some .int) ∈ pz_TB := pz_at 1329 (by decide +kernel) rfl
theorem w1326 : Cond.methodLink RL 128 yX10_why ∈ pz_TB := pz_at 1326 (by decide +kernel) rfl
theorem w1327 : Cond.instanceMethod yX10_why ∈ pz_TB := pz_at 1327 (by decide +kernel) rfl
theorem w1328 : Cond.selects RX10 yX10_why yX10_why ∈ pz_TB := pz_at 1328 (by decide +kernel) rfl
theorem w812 : Cond.code yX9_sheet cX9_sheet 4 (some .int) ∈ pz_TB := pz_at 812 (by decide +kernel) rfl
theorem w809 : Cond.methodLink RL 129 yX9_sheet ∈ pz_TB := pz_at 809 (by decide +kernel) rfl
theorem w810 : Cond.instanceMethod yX9_sheet ∈ pz_TB := pz_at 810 (by decide +kernel) rfl
theorem w811 : Cond.selects RX9 yX9_sheet yX9_sheet ∈ pz_TB := pz_at 811 (by decide +kernel) rfl
theorem w1333 : Cond.code yX10_sheet cX10_sheet 5 (some .int) ∈ pz_TB := pz_at 1333 (by decide +kernel) rfl
theorem w1330 : Cond.methodLink RL 132 yX10_sheet ∈ pz_TB := pz_at 1330 (by decide +kernel) rfl
theorem w1331 : Cond.instanceMethod yX10_sheet ∈ pz_TB := pz_at 1331 (by decide +kernel) rfl
theorem w1332 : Cond.selects RX10 yX10_sheet yX10_sheet ∈ pz_TB := pz_at 1332 (by decide +kernel) rfl
theorem w821 : Cond.code yX9_mark cX9_mark 5 (some .int) ∈ pz_TB := pz_at 821 (by decide +kernel) rfl
theorem w818 : Cond.methodLink RL 133 yX9_mark ∈ pz_TB := pz_at 818 (by decide +kernel) rfl
theorem w819 : Cond.instanceMethod yX9_mark ∈ pz_TB := pz_at 819 (by decide +kernel) rfl
theorem w820 : Cond.selects RX9 yX9_mark yX9_mark ∈ pz_TB := pz_at 820 (by decide +kernel) rfl
theorem w1342 : Cond.code yX10_mark cX10_mark 4 (some .int) ∈ pz_TB := pz_at 1342 (by decide +kernel) rfl
theorem w1339 : Cond.methodLink RL 136 yX10_mark ∈ pz_TB := pz_at 1339 (by decide +kernel) rfl
theorem w1340 : Cond.instanceMethod yX10_mark ∈ pz_TB := pz_at 1340 (by decide +kernel) rfl
theorem w1341 : Cond.selects RX10 yX10_mark yX10_mark ∈ pz_TB := pz_at 1341 (by decide +kernel) rfl
theorem w833 : Cond.code yX9_pour cX9_pour 2 (some .int) ∈ pz_TB := pz_at 833 (by decide +kernel) rfl
theorem w830 : Cond.methodLink RL 137 yX9_pour ∈ pz_TB := pz_at 830 (by decide +kernel) rfl
theorem w831 : Cond.instanceMethod yX9_pour ∈ pz_TB := pz_at 831 (by decide +kernel) rfl
theorem w832 : Cond.selects RX9 yX9_pour yX9_pour ∈ pz_TB := pz_at 832 (by decide +kernel) rfl
theorem w1350 : Cond.code yX10_pour cX10_pour 6 (some .int) ∈ pz_TB := pz_at 1350 (by decide +kernel) rfl
theorem w1347 : Cond.methodLink RL 140 yX10_pour ∈ pz_TB := pz_at 1347 (by decide +kernel) rfl
theorem w1348 : Cond.instanceMethod yX10_pour ∈ pz_TB := pz_at 1348 (by decide +kernel) rfl
theorem w1349 : Cond.selects RX10 yX10_pour yX10_pour ∈ pz_TB := pz_at 1349 (by decide +kernel) rfl
theorem w844 : Cond.code yX9_reads cX9_reads 2 (some .int) ∈ pz_TB := pz_at 844 (by decide +kernel) rfl
theorem w841 : Cond.methodLink RL 141 yX9_reads ∈ pz_TB := pz_at 841 (by decide +kernel) rfl
theorem w842 : Cond.instanceMethod yX9_reads ∈ pz_TB := pz_at 842 (by decide +kernel) rfl
theorem w843 : Cond.selects RX9 yX9_reads yX9_reads ∈ pz_TB := pz_at 843 (by decide +kernel) rfl
theorem w1354 : Cond.code yX10_reads cX10_reads 4 (some .int) ∈ pz_TB := pz_at 1354 (by decide +kernel) rfl
theorem w1351 : Cond.methodLink RL 144 yX10_reads ∈ pz_TB := pz_at 1351 (by decide +kernel) rfl
theorem w1352 : Cond.instanceMethod yX10_reads ∈ pz_TB := pz_at 1352 (by decide +kernel) rfl
theorem w1353 : Cond.selects RX10 yX10_reads yX10_reads ∈ pz_TB := pz_at 1353 (by decide +kernel) rfl
theorem w852 : Cond.code yX9_copy cX9_copy 8 (some .int) ∈ pz_TB := pz_at 852 (by decide +kernel) rfl
theorem w849 : Cond.methodLink RL 145 yX9_copy ∈ pz_TB := pz_at 849 (by decide +kernel) rfl
theorem w850 : Cond.instanceMethod yX9_copy ∈ pz_TB := pz_at 850 (by decide +kernel) rfl
theorem w851 : Cond.selects RX9 yX9_copy yX9_copy ∈ pz_TB := pz_at 851 (by decide +kernel) rfl
theorem w1365 : Cond.code yX10_copy cX10_copy 7 (some .int) ∈ pz_TB := pz_at 1365 (by decide +kernel) rfl
theorem w1362 : Cond.methodLink RL 149 yX10_copy ∈ pz_TB := pz_at 1362 (by decide +kernel) rfl
theorem w1363 : Cond.instanceMethod yX10_copy ∈ pz_TB := pz_at 1363 (by decide +kernel) rfl
theorem w1364 : Cond.selects RX10 yX10_copy yX10_copy ∈ pz_TB := pz_at 1364 (by decide +kernel) rfl
theorem w861 : Cond.code yX9_lay cX9_lay 6 (some .int) ∈ pz_TB := pz_at 861 (by decide +kernel) rfl
theorem w858 : Cond.methodLink RL 150 yX9_lay ∈ pz_TB := pz_at 858 (by decide +kernel) rfl
theorem w859 : Cond.instanceMethod yX9_lay ∈ pz_TB := pz_at 859 (by decide +kernel) rfl
theorem w860 : Cond.selects RX9 yX9_lay yX9_lay ∈ pz_TB := pz_at 860 (by decide +kernel) rfl
theorem w1369 : Cond.code yX10_lay cX10_lay 7 (some .int) ∈ pz_TB := pz_at 1369 (by decide +kernel) rfl
theorem w1366 : Cond.methodLink RL 153 yX10_lay ∈ pz_TB := pz_at 1366 (by decide +kernel) rfl
theorem w1367 : Cond.instanceMethod yX10_lay ∈ pz_TB := pz_at 1367 (by decide +kernel) rfl
theorem w1368 : Cond.selects RX10 yX10_lay yX10_lay ∈ pz_TB := pz_at 1368 (by decide +kernel) rfl
theorem w873 : Cond.code yX9_ask cX9_ask 5 (some .int) ∈ pz_TB := pz_at 873 (by decide +kernel) rfl
theorem w870 : Cond.methodLink RL 154 yX9_ask ∈ pz_TB := pz_at 870 (by decide +kernel) rfl
theorem w871 : Cond.instanceMethod yX9_ask ∈ pz_TB := pz_at 871 (by decide +kernel) rfl
theorem w872 : Cond.selects RX9 yX9_ask yX9_ask ∈ pz_TB := pz_at 872 (by decide +kernel) rfl
theorem w1377 : Cond.code yX10_ask cX10_ask 3 (some .int) ∈ pz_TB := pz_at 1377 (by decide +kernel) rfl
theorem w1374 : Cond.methodLink RL 157 yX10_ask ∈ pz_TB := pz_at 1374 (by decide +kernel) rfl
theorem w1375 : Cond.instanceMethod yX10_ask ∈ pz_TB := pz_at 1375 (by decide +kernel) rfl
theorem w1376 : Cond.selects RX10 yX10_ask yX10_ask ∈ pz_TB := pz_at 1376 (by decide +kernel) rfl
theorem w881 : Cond.code yX9_item cX9_item 5 (some .int) ∈ pz_TB := pz_at 881 (by decide +kernel) rfl
theorem w878 : Cond.methodLink RL 158 yX9_item ∈ pz_TB := pz_at 878 (by decide +kernel) rfl
theorem w879 : Cond.instanceMethod yX9_item ∈ pz_TB := pz_at 879 (by decide +kernel) rfl
theorem w880 : Cond.selects RX9 yX9_item yX9_item ∈ pz_TB := pz_at 880 (by decide +kernel) rfl
theorem w1381 : Cond.code yX10_item cX10_item 4 (some .int) ∈ pz_TB := pz_at 1381 (by decide +kernel) rfl
theorem w1378 : Cond.methodLink RL 161 yX10_item ∈ pz_TB := pz_at 1378 (by decide +kernel) rfl
theorem w1379 : Cond.instanceMethod yX10_item ∈ pz_TB := pz_at 1379 (by decide +kernel) rfl
theorem w1380 : Cond.selects RX10 yX10_item yX10_item ∈ pz_TB := pz_at 1380 (by decide +kernel) rfl
theorem w886 : Cond.code yX9_rest cX9_rest 4 (some .int) ∈ pz_TB := pz_at 886 (by decide +kernel) rfl
theorem w883 : Cond.methodLink RL 162 yX9_rest ∈ pz_TB := pz_at 883 (by decide +kernel) rfl
theorem w884 : Cond.instanceMethod yX9_rest ∈ pz_TB := pz_at 884 (by decide +kernel) rfl
theorem w885 : Cond.selects RX9 yX9_rest yX9_rest ∈ pz_TB := pz_at 885 (by decide +kernel) rfl
theorem w1385 : Cond.code yX10_rest cX10_rest 3 (some .int) ∈ pz_TB := pz_at 1385 (by decide +kernel) rfl
theorem w1382 : Cond.methodLink RL 165 yX10_rest ∈ pz_TB := pz_at 1382 (by decide +kernel) rfl
theorem w1383 : Cond.instanceMethod yX10_rest ∈ pz_TB := pz_at 1383 (by decide +kernel) rfl
theorem w1384 : Cond.selects RX10 yX10_rest yX10_rest ∈ pz_TB := pz_at 1384 (by decide +kernel) rfl
theorem w890 : Cond.code yX9_tell cX9_tell 2 (some .int) ∈ pz_TB := pz_at 890 (by decide +kernel) rfl
theorem w887 : Cond.methodLink RL 166 yX9_tell ∈ pz_TB := pz_at 887 (by decide +kernel) rfl
theorem w888 : Cond.instanceMethod yX9_tell ∈ pz_TB := pz_at 888 (by decide +kernel) rfl
theorem w889 : Cond.selects RX9 yX9_tell yX9_tell ∈ pz_TB := pz_at 889 (by decide +kernel) rfl
theorem w1389 : Cond.code yX10_tell cX10_tell 2 (some .int) ∈ pz_TB := pz_at 1389 (by decide +kernel) rfl
theorem w1386 : Cond.methodLink RL 169 yX10_tell ∈ pz_TB := pz_at 1386 (by decide +kernel) rfl
theorem w1387 : Cond.instanceMethod yX10_tell ∈ pz_TB := pz_at 1387 (by decide +kernel) rfl
theorem w1388 : Cond.selects RX10 yX10_tell yX10_tell ∈ pz_TB := pz_at 1388 (by decide +kernel) rfl
theorem w894 : Cond.code yX9_check cX9_check 5 (some .int) ∈ pz_TB := pz_at 894 (by decide +kernel) rfl
theorem w891 : Cond.methodLink RL 170 yX9_check ∈ pz_TB := pz_at 891 (by decide +kernel) rfl
theorem w892 : Cond.instanceMethod yX9_check ∈ pz_TB := pz_at 892 (by decide +kernel) rfl
theorem w893 : Cond.selects RX9 yX9_check yX9_check ∈ pz_TB := pz_at 893 (by decide +kernel) rfl
theorem w1393 : Cond.code yX10_check cX10_check 5 (some .int) ∈ pz_TB := pz_at 1393 (by decide +kernel) rfl
theorem w1390 : Cond.methodLink RL 173 yX10_check ∈ pz_TB := pz_at 1390 (by decide +kernel) rfl
theorem w1391 : Cond.instanceMethod yX10_check ∈ pz_TB := pz_at 1391 (by decide +kernel) rfl
theorem w1392 : Cond.selects RX10 yX10_check yX10_check ∈ pz_TB := pz_at 1392 (by decide +kernel) rfl
theorem w902 : Cond.code yX9_keep cX9_keep 1 (some .int) ∈ pz_TB := pz_at 902 (by decide +kernel) rfl
theorem w899 : Cond.methodLink RL 174 yX9_keep ∈ pz_TB := pz_at 899 (by decide +kernel) rfl
theorem w900 : Cond.instanceMethod yX9_keep ∈ pz_TB := pz_at 900 (by decide +kernel) rfl
theorem w901 : Cond.selects RX9 yX9_keep yX9_keep ∈ pz_TB := pz_at 901 (by decide +kernel) rfl
theorem w1402 : Cond.code yX10_keep cX10_keep 1 (some .int) ∈ pz_TB := pz_at 1402 (by decide +kernel) rfl
theorem w1399 : Cond.methodLink RL 177 yX10_keep ∈ pz_TB := pz_at 1399 (by decide +kernel) rfl
theorem w1400 : Cond.instanceMethod yX10_keep ∈ pz_TB := pz_at 1400 (by decide +kernel) rfl
theorem w1401 : Cond.selects RX10 yX10_keep yX10_keep ∈ pz_TB := pz_at 1401 (by decide +kernel) rfl
theorem w906 : Cond.code yX9_back cX9_back 1 (some .int) ∈ pz_TB := pz_at 906 (by decide +kernel) rfl
theorem w903 : Cond.methodLink RL 178 yX9_back ∈ pz_TB := pz_at 903 (by decide +kernel) rfl
theorem w904 : Cond.instanceMethod yX9_back ∈ pz_TB := pz_at 904 (by decide +kernel) rfl
theorem w905 : Cond.selects RX9 yX9_back yX9_back ∈ pz_TB := pz_at 905 (by decide +kernel) rfl
theorem w1406 : Cond.code yX10_back cX10_back 1 (some .int) ∈ pz_TB := pz_at 1406 (by decide +kernel) rfl
theorem w1403 : Cond.methodLink RL 181 yX10_back ∈ pz_TB := pz_at 1403 (by decide +kernel) rfl
theorem w1404 : Cond.instanceMethod yX10_back ∈ pz_TB := pz_at 1404 (by decide +kernel) rfl
theorem w1405 : Cond.selects RX10 yX10_back yX10_back ∈ pz_TB := pz_at 1405 (by decide +kernel) rfl
theorem w910 : Cond.code yX9_count cX9_count 2 (some .int) ∈ pz_TB := pz_at 910 (by decide +kernel) rfl
theorem w907 : Cond.methodLink RL 182 yX9_count ∈ pz_TB := pz_at 907 (by decide +kernel) rfl
theorem w908 : Cond.instanceMethod yX9_count ∈ pz_TB := pz_at 908 (by decide +kernel) rfl
theorem w909 : Cond.selects RX9 yX9_count yX9_count ∈ pz_TB := pz_at 909 (by decide +kernel) rfl
theorem w1410 : Cond.code yX10_count cX10_count 2 (some .int) ∈ pz_TB := pz_at 1410 (by decide +kernel) rfl
theorem w1407 : Cond.methodLink RL 185 yX10_count ∈ pz_TB := pz_at 1407 (by decide +kernel) rfl
theorem w1408 : Cond.instanceMethod yX10_count ∈ pz_TB := pz_at 1408 (by decide +kernel) rfl
theorem w1409 : Cond.selects RX10 yX10_count yX10_count ∈ pz_TB := pz_at 1409 (by decide +kernel) rfl
theorem w651 : Cond.code yJ0_isLatin1_aae02 cJ0_isLatin1_aae02 1 (some .boolean) ∈ pz_TB := pz_at 651 (by decide +kernel) rfl
theorem w648 : Cond.methodLink RJ0 492 yJ0_isLatin1_aae02 ∈ pz_TB := pz_at 648 (by decide +kernel) rfl
theorem w649 : Cond.instanceMethod yJ0_isLatin1_aae02 ∈ pz_TB := pz_at 649 (by decide +kernel) rfl
theorem w650 : Cond.selects RJ0 yJ0_isLatin1_aae02 yJ0_isLatin1_aae02 ∈ pz_TB := pz_at 650 (by decide +kernel) rfl
theorem wf_J0_9 : Cond.fieldLink RJ0 9 "java/lang/String" "value" "[B" ∈ pz_TB := pz_at 1411 (by decide +kernel) rfl
theorem w654 : Cond.code yJ1_charAt_3b067 cJ1_charAt_3b067 2 (some .char) ∈ pz_TB := pz_at 654 (by decide +kernel) rfl
theorem w77 : Cond.initialized RJ1 ∈ pz_TB := pz_at 77 (by decide +kernel) rfl
theorem w652 : Cond.methodLink RJ0 495 yJ1_charAt_3b067 ∈ pz_TB := pz_at 652 (by decide +kernel) rfl
theorem w653 : Cond.static yJ1_charAt_3b067 ∈ pz_TB := pz_at 653 (by decide +kernel) rfl
theorem wf_J0_1053 : Cond.fieldLink RJ0 1053 "jdk/internal/util/Preconditions" "SIOOBE_FORMATTER" "Ljava/util/function/BiFunction;" ∈ pz_TB := pz_at 658 (by decide +kernel) rfl
theorem wf_J0_38 : Cond.fieldLink RJ0 38 "java/lang/String" "COMPACT_STRINGS" "Z" ∈ pz_TB := pz_at 642 (by decide +kernel) rfl
theorem wf_J0_15 : Cond.fieldLink RJ0 15 "java/lang/String" "coder" "B" ∈ pz_TB := pz_at 1412 (by decide +kernel) rfl
theorem w742 : Cond.code yJ0_indexOf_7cf53 cJ0_indexOf_7cf53 3 (some .int) ∈ pz_TB := pz_at 742 (by decide +kernel) rfl
theorem w739 : Cond.methodLink RJ0 633 yJ0_indexOf_7cf53 ∈ pz_TB := pz_at 739 (by decide +kernel) rfl
theorem w740 : Cond.instanceMethod yJ0_indexOf_7cf53 ∈ pz_TB := pz_at 740 (by decide +kernel) rfl
theorem w741 : Cond.selects RJ0 yJ0_indexOf_7cf53 yJ0_indexOf_7cf53 ∈ pz_TB := pz_at 741 (by decide +kernel) rfl
theorem w743 : Cond.methodLink RJ0 505 yJ0_length_8abf5 ∈ pz_TB := pz_at 743 (by decide +kernel) rfl
theorem w746 : Cond.code yJ1_indexOf_4cfef cJ1_indexOf_4cfef 4 (some .int) ∈ pz_TB := pz_at 746 (by decide +kernel) rfl
theorem w744 : Cond.methodLink RJ0 637 yJ1_indexOf_4cfef ∈ pz_TB := pz_at 744 (by decide +kernel) rfl
theorem w745 : Cond.static yJ1_indexOf_4cfef ∈ pz_TB := pz_at 745 (by decide +kernel) rfl
theorem w641 : Cond.code yJ0_coder_7d493 cJ0_coder_7d493 1 (some .byte) ∈ pz_TB := pz_at 641 (by decide +kernel) rfl
theorem w638 : Cond.methodLink RJ0 335 yJ0_coder_7d493 ∈ pz_TB := pz_at 638 (by decide +kernel) rfl
theorem w639 : Cond.instanceMethod yJ0_coder_7d493 ∈ pz_TB := pz_at 639 (by decide +kernel) rfl
theorem w640 : Cond.selects RJ0 yJ0_coder_7d493 yJ0_coder_7d493 ∈ pz_TB := pz_at 640 (by decide +kernel) rfl
theorem w657 : Cond.code yJ0_checkIndex_df160 cJ0_checkIndex_df160 2 none ∈ pz_TB := pz_at 657 (by decide +kernel) rfl
theorem w655 : Cond.methodLink RJ1 9 yJ0_checkIndex_df160 ∈ pz_TB := pz_at 655 (by decide +kernel) rfl
theorem w656 : Cond.static yJ0_checkIndex_df160 ∈ pz_TB := pz_at 656 (by decide +kernel) rfl
theorem w749 : Cond.code yJ1_canEncode_9a6ad cJ1_canEncode_9a6ad 1 (some .boolean) ∈ pz_TB := pz_at 749 (by decide +kernel) rfl
theorem w747 : Cond.methodLink RJ1 88 yJ1_canEncode_9a6ad ∈ pz_TB := pz_at 747 (by decide +kernel) rfl
theorem w748 : Cond.static yJ1_canEncode_9a6ad ∈ pz_TB := pz_at 748 (by decide +kernel) rfl
theorem wm_J1_92 : Cond.methodLink RJ1 92 Lib.Math.max.name ∈ pz_TB := pz_at 750 (by decide +kernel) rfl
theorem wm_J1_38 : Cond.methodLink RJ1 38 Lib.Math.min.name ∈ pz_TB := pz_at 751 (by decide +kernel) rfl
theorem w754 : Cond.code yJ1_indexOfChar_4cfef cJ1_indexOfChar_4cfef 6 (some .int) ∈ pz_TB := pz_at 754 (by decide +kernel) rfl
theorem w752 : Cond.methodLink RJ1 95 yJ1_indexOfChar_4cfef ∈ pz_TB := pz_at 752 (by decide +kernel) rfl
theorem w753 : Cond.static yJ1_indexOfChar_4cfef ∈ pz_TB := pz_at 753 (by decide +kernel) rfl
theorem yd_X1_init : yX1_init.cls ≠ "java/lang/invoke/MethodHandle" ∧ yX1_init.cls ≠ "java/lang/invoke/VarHandle" ∧ (parseMethodDescriptor yX1_init.desc).map (fun d => d.parameters.length) = some 0 ∧ 1 ≤ 21 := by decide +kernel
theorem yd_X7_init : yX7_init.cls ≠ "java/lang/invoke/MethodHandle" ∧ yX7_init.cls ≠ "java/lang/invoke/VarHandle" ∧ (parseMethodDescriptor yX7_init.desc).map (fun d => d.parameters.length) = some 1 ∧ 2 ≤ 21 := by decide +kernel
theorem yd_X3_init : yX3_init.cls ≠ "java/lang/invoke/MethodHandle" ∧ yX3_init.cls ≠ "java/lang/invoke/VarHandle" ∧ (parseMethodDescriptor yX3_init.desc).map (fun d => d.parameters.length) = some 0 ∧ 1 ≤ 21 := by decide +kernel
theorem yd_X8_init : yX8_init.cls ≠ "java/lang/invoke/MethodHandle" ∧ yX8_init.cls ≠ "java/lang/invoke/VarHandle" ∧ (parseMethodDescriptor yX8_init.desc).map (fun d => d.parameters.length) = some 0 ∧ 1 ≤ 21 := by decide +kernel
theorem yd_X4_init : yX4_init.cls ≠ "java/lang/invoke/MethodHandle" ∧ yX4_init.cls ≠ "java/lang/invoke/VarHandle" ∧ (parseMethodDescriptor yX4_init.desc).map (fun d => d.parameters.length) = some 0 ∧ 1 ≤ 21 := by decide +kernel
theorem yd_X5_init : yX5_init.cls ≠ "java/lang/invoke/MethodHandle" ∧ yX5_init.cls ≠ "java/lang/invoke/VarHandle" ∧ (parseMethodDescriptor yX5_init.desc).map (fun d => d.parameters.length) = some 0 ∧ 1 ≤ 21 := by decide +kernel
theorem yd_X0_isKind : yX0_isKind.cls ≠ "java/lang/invoke/MethodHandle" ∧ yX0_isKind.cls ≠ "java/lang/invoke/VarHandle" ∧ (parseMethodDescriptor yX0_isKind.desc).map (fun d => d.parameters.length) = some 1 ∧ 1 ≤ 21 := by decide +kernel
theorem yd_X9_isCell : yX9_isCell.cls ≠ "java/lang/invoke/MethodHandle" ∧ yX9_isCell.cls ≠ "java/lang/invoke/VarHandle" ∧ (parseMethodDescriptor yX9_isCell.desc).map (fun d => d.parameters.length) = some 1 ∧ 1 ≤ 21 := by decide +kernel
theorem yd_X7_comes : yX7_comes.cls ≠ "java/lang/invoke/MethodHandle" ∧ yX7_comes.cls ≠ "java/lang/invoke/VarHandle" ∧ (parseMethodDescriptor yX7_comes.desc).map (fun d => d.parameters.length) = some 2 ∧ 4 ≤ 21 := by decide +kernel
theorem yd_X7_hasEater : yX7_hasEater.cls ≠ "java/lang/invoke/MethodHandle" ∧ yX7_hasEater.cls ≠ "java/lang/invoke/VarHandle" ∧ (parseMethodDescriptor yX7_hasEater.desc).map (fun d => d.parameters.length) = some 1 ∧ 2 ≤ 21 := by decide +kernel
theorem yd_X0_eats : yX0_eats.cls ≠ "java/lang/invoke/MethodHandle" ∧ yX0_eats.cls ≠ "java/lang/invoke/VarHandle" ∧ (parseMethodDescriptor yX0_eats.desc).map (fun d => d.parameters.length) = some 2 ∧ 2 ≤ 21 := by decide +kernel
theorem yd_X0_wades : yX0_wades.cls ≠ "java/lang/invoke/MethodHandle" ∧ yX0_wades.cls ≠ "java/lang/invoke/VarHandle" ∧ (parseMethodDescriptor yX0_wades.desc).map (fun d => d.parameters.length) = some 1 ∧ 1 ≤ 21 := by decide +kernel
theorem yd_X0_worth : yX0_worth.cls ≠ "java/lang/invoke/MethodHandle" ∧ yX0_worth.cls ≠ "java/lang/invoke/VarHandle" ∧ (parseMethodDescriptor yX0_worth.desc).map (fun d => d.parameters.length) = some 2 ∧ 2 ≤ 21 := by decide +kernel
theorem yd_X9_within : yX9_within.cls ≠ "java/lang/invoke/MethodHandle" ∧ yX9_within.cls ≠ "java/lang/invoke/VarHandle" ∧ (parseMethodDescriptor yX9_within.desc).map (fun d => d.parameters.length) = some 3 ∧ 3 ≤ 21 := by decide +kernel
theorem yd_X7_level : yX7_level.cls ≠ "java/lang/invoke/MethodHandle" ∧ yX7_level.cls ≠ "java/lang/invoke/VarHandle" ∧ (parseMethodDescriptor yX7_level.desc).map (fun d => d.parameters.length) = some 1 ∧ 2 ≤ 21 := by decide +kernel
theorem yd_X7_laid : yX7_laid.cls ≠ "java/lang/invoke/MethodHandle" ∧ yX7_laid.cls ≠ "java/lang/invoke/VarHandle" ∧ (parseMethodDescriptor yX7_laid.desc).map (fun d => d.parameters.length) = some 1 ∧ 2 ≤ 21 := by decide +kernel
theorem yd_X0_isUnder : yX0_isUnder.cls ≠ "java/lang/invoke/MethodHandle" ∧ yX0_isUnder.cls ≠ "java/lang/invoke/VarHandle" ∧ (parseMethodDescriptor yX0_isUnder.desc).map (fun d => d.parameters.length) = some 2 ∧ 4 ≤ 21 := by decide +kernel
theorem yd_X7_draw : yX7_draw.cls ≠ "java/lang/invoke/MethodHandle" ∧ yX7_draw.cls ≠ "java/lang/invoke/VarHandle" ∧ (parseMethodDescriptor yX7_draw.desc).map (fun d => d.parameters.length) = some 0 ∧ 1 ≤ 21 := by decide +kernel
theorem yd_X7_allAte : yX7_allAte.cls ≠ "java/lang/invoke/MethodHandle" ∧ yX7_allAte.cls ≠ "java/lang/invoke/VarHandle" ∧ (parseMethodDescriptor yX7_allAte.desc).map (fun d => d.parameters.length) = some 0 ∧ 3 ≤ 21 := by decide +kernel
theorem yd_X7_passes : yX7_passes.cls ≠ "java/lang/invoke/MethodHandle" ∧ yX7_passes.cls ≠ "java/lang/invoke/VarHandle" ∧ (parseMethodDescriptor yX7_passes.desc).map (fun d => d.parameters.length) = some 1 ∧ 3 ≤ 21 := by decide +kernel
theorem yd_X7_allParts : yX7_allParts.cls ≠ "java/lang/invoke/MethodHandle" ∧ yX7_allParts.cls ≠ "java/lang/invoke/VarHandle" ∧ (parseMethodDescriptor yX7_allParts.desc).map (fun d => d.parameters.length) = some 0 ∧ 3 ≤ 21 := by decide +kernel
theorem yd_X7_wetCells : yX7_wetCells.cls ≠ "java/lang/invoke/MethodHandle" ∧ yX7_wetCells.cls ≠ "java/lang/invoke/VarHandle" ∧ (parseMethodDescriptor yX7_wetCells.desc).map (fun d => d.parameters.length) = some 0 ∧ 3 ≤ 21 := by decide +kernel
theorem yd_X7_pours : yX7_pours.cls ≠ "java/lang/invoke/MethodHandle" ∧ yX7_pours.cls ≠ "java/lang/invoke/VarHandle" ∧ (parseMethodDescriptor yX7_pours.desc).map (fun d => d.parameters.length) = some 0 ∧ 3 ≤ 21 := by decide +kernel
theorem yd_X8_fewest : yX8_fewest.cls ≠ "java/lang/invoke/MethodHandle" ∧ yX8_fewest.cls ≠ "java/lang/invoke/VarHandle" ∧ (parseMethodDescriptor yX8_fewest.desc).map (fun d => d.parameters.length) = some 4 ∧ 9 ≤ 21 := by decide +kernel
theorem yd_X7_becomes : yX7_becomes.cls ≠ "java/lang/invoke/MethodHandle" ∧ yX7_becomes.cls ≠ "java/lang/invoke/VarHandle" ∧ (parseMethodDescriptor yX7_becomes.desc).map (fun d => d.parameters.length) = some 1 ∧ 2 ≤ 21 := by decide +kernel
theorem yd_X7_pass : yX7_pass.cls ≠ "java/lang/invoke/MethodHandle" ∧ yX7_pass.cls ≠ "java/lang/invoke/VarHandle" ∧ (parseMethodDescriptor yX7_pass.desc).map (fun d => d.parameters.length) = some 0 ∧ 2 ≤ 21 := by decide +kernel
theorem yd_X9_isSheet : yX9_isSheet.cls ≠ "java/lang/invoke/MethodHandle" ∧ yX9_isSheet.cls ≠ "java/lang/invoke/VarHandle" ∧ (parseMethodDescriptor yX9_isSheet.desc).map (fun d => d.parameters.length) = some 1 ∧ 1 ≤ 21 := by decide +kernel
theorem yd_X4_isMissing : yX4_isMissing.cls ≠ "java/lang/invoke/MethodHandle" ∧ yX4_isMissing.cls ≠ "java/lang/invoke/VarHandle" ∧ (parseMethodDescriptor yX4_isMissing.desc).map (fun d => d.parameters.length) = some 0 ∧ 1 ≤ 21 := by decide +kernel
theorem yd_X4_differsFrom : yX4_differsFrom.cls ≠ "java/lang/invoke/MethodHandle" ∧ yX4_differsFrom.cls ≠ "java/lang/invoke/VarHandle" ∧ (parseMethodDescriptor yX4_differsFrom.desc).map (fun d => d.parameters.length) = some 1 ∧ 4 ≤ 21 := by decide +kernel
theorem yd_X1_counting : yX1_counting.cls ≠ "java/lang/invoke/MethodHandle" ∧ yX1_counting.cls ≠ "java/lang/invoke/VarHandle" ∧ (parseMethodDescriptor yX1_counting.desc).map (fun d => d.parameters.length) = some 2 ∧ 3 ≤ 21 := by decide +kernel
theorem yd_X1_given : yX1_given.cls ≠ "java/lang/invoke/MethodHandle" ∧ yX1_given.cls ≠ "java/lang/invoke/VarHandle" ∧ (parseMethodDescriptor yX1_given.desc).map (fun d => d.parameters.length) = some 4 ∧ 8 ≤ 21 := by decide +kernel
theorem yd_X3_getsNumber : yX3_getsNumber.cls ≠ "java/lang/invoke/MethodHandle" ∧ yX3_getsNumber.cls ≠ "java/lang/invoke/VarHandle" ∧ (parseMethodDescriptor yX3_getsNumber.desc).map (fun d => d.parameters.length) = some 1 ∧ 3 ≤ 21 := by decide +kernel
theorem yd_X3_findsFault : yX3_findsFault.cls ≠ "java/lang/invoke/MethodHandle" ∧ yX3_findsFault.cls ≠ "java/lang/invoke/VarHandle" ∧ (parseMethodDescriptor yX3_findsFault.desc).map (fun d => d.parameters.length) = some 0 ∧ 2 ≤ 21 := by decide +kernel
theorem yd_X1_takes : yX1_takes.cls ≠ "java/lang/invoke/MethodHandle" ∧ yX1_takes.cls ≠ "java/lang/invoke/VarHandle" ∧ (parseMethodDescriptor yX1_takes.desc).map (fun d => d.parameters.length) = some 2 ∧ 4 ≤ 21 := by decide +kernel
theorem yd_X1_numbered : yX1_numbered.cls ≠ "java/lang/invoke/MethodHandle" ∧ yX1_numbered.cls ≠ "java/lang/invoke/VarHandle" ∧ (parseMethodDescriptor yX1_numbered.desc).map (fun d => d.parameters.length) = some 1 ∧ 2 ≤ 21 := by decide +kernel
theorem yd_X1_last : yX1_last.cls ≠ "java/lang/invoke/MethodHandle" ∧ yX1_last.cls ≠ "java/lang/invoke/VarHandle" ∧ (parseMethodDescriptor yX1_last.desc).map (fun d => d.parameters.length) = some 2 ∧ 4 ≤ 21 := by decide +kernel
theorem yd_X4_becomes : yX4_becomes.cls ≠ "java/lang/invoke/MethodHandle" ∧ yX4_becomes.cls ≠ "java/lang/invoke/VarHandle" ∧ (parseMethodDescriptor yX4_becomes.desc).map (fun d => d.parameters.length) = some 2 ∧ 4 ≤ 21 := by decide +kernel
theorem yd_X4_hasPlace : yX4_hasPlace.cls ≠ "java/lang/invoke/MethodHandle" ∧ yX4_hasPlace.cls ≠ "java/lang/invoke/VarHandle" ∧ (parseMethodDescriptor yX4_hasPlace.desc).map (fun d => d.parameters.length) = some 1 ∧ 2 ≤ 21 := by decide +kernel
theorem yd_X4_poursInto : yX4_poursInto.cls ≠ "java/lang/invoke/MethodHandle" ∧ yX4_poursInto.cls ≠ "java/lang/invoke/VarHandle" ∧ (parseMethodDescriptor yX4_poursInto.desc).map (fun d => d.parameters.length) = some 1 ∧ 5 ≤ 21 := by decide +kernel
theorem yd_X4_firstUnlike : yX4_firstUnlike.cls ≠ "java/lang/invoke/MethodHandle" ∧ yX4_firstUnlike.cls ≠ "java/lang/invoke/VarHandle" ∧ (parseMethodDescriptor yX4_firstUnlike.desc).map (fun d => d.parameters.length) = some 1 ∧ 3 ≤ 21 := by decide +kernel
theorem yd_X4_hasPlaces : yX4_hasPlaces.cls ≠ "java/lang/invoke/MethodHandle" ∧ yX4_hasPlaces.cls ≠ "java/lang/invoke/VarHandle" ∧ (parseMethodDescriptor yX4_hasPlaces.desc).map (fun d => d.parameters.length) = some 2 ∧ 3 ≤ 21 := by decide +kernel
theorem yd_X9_isSlot : yX9_isSlot.cls ≠ "java/lang/invoke/MethodHandle" ∧ yX9_isSlot.cls ≠ "java/lang/invoke/VarHandle" ∧ (parseMethodDescriptor yX9_isSlot.desc).map (fun d => d.parameters.length) = some 1 ∧ 1 ≤ 21 := by decide +kernel
theorem yd_X4_becomes_ : yX4_becomes_.cls ≠ "java/lang/invoke/MethodHandle" ∧ yX4_becomes_.cls ≠ "java/lang/invoke/VarHandle" ∧ (parseMethodDescriptor yX4_becomes_.desc).map (fun d => d.parameters.length) = some 1 ∧ 2 ≤ 21 := by decide +kernel
theorem yd_X9_unlessHeld : yX9_unlessHeld.cls ≠ "java/lang/invoke/MethodHandle" ∧ yX9_unlessHeld.cls ≠ "java/lang/invoke/VarHandle" ∧ (parseMethodDescriptor yX9_unlessHeld.desc).map (fun d => d.parameters.length) = some 2 ∧ 3 ≤ 21 := by decide +kernel
theorem yd_X4_isNumber : yX4_isNumber.cls ≠ "java/lang/invoke/MethodHandle" ∧ yX4_isNumber.cls ≠ "java/lang/invoke/VarHandle" ∧ (parseMethodDescriptor yX4_isNumber.desc).map (fun d => d.parameters.length) = some 1 ∧ 2 ≤ 21 := by decide +kernel
theorem yd_X9_waited : yX9_waited.cls ≠ "java/lang/invoke/MethodHandle" ∧ yX9_waited.cls ≠ "java/lang/invoke/VarHandle" ∧ (parseMethodDescriptor yX9_waited.desc).map (fun d => d.parameters.length) = some 3 ∧ 4 ≤ 21 := by decide +kernel
theorem yd_X10_isIn : yX10_isIn.cls ≠ "java/lang/invoke/MethodHandle" ∧ yX10_isIn.cls ≠ "java/lang/invoke/VarHandle" ∧ (parseMethodDescriptor yX10_isIn.desc).map (fun d => d.parameters.length) = some 3 ∧ 6 ≤ 21 := by decide +kernel
theorem yd_X10_parts : yX10_parts.cls ≠ "java/lang/invoke/MethodHandle" ∧ yX10_parts.cls ≠ "java/lang/invoke/VarHandle" ∧ (parseMethodDescriptor yX10_parts.desc).map (fun d => d.parameters.length) = some 1 ∧ 2 ≤ 21 := by decide +kernel
theorem yd_X10_sets : yX10_sets.cls ≠ "java/lang/invoke/MethodHandle" ∧ yX10_sets.cls ≠ "java/lang/invoke/VarHandle" ∧ (parseMethodDescriptor yX10_sets.desc).map (fun d => d.parameters.length) = some 3 ∧ 4 ≤ 21 := by decide +kernel
theorem yd_X10_isCell : yX10_isCell.cls ≠ "java/lang/invoke/MethodHandle" ∧ yX10_isCell.cls ≠ "java/lang/invoke/VarHandle" ∧ (parseMethodDescriptor yX10_isCell.desc).map (fun d => d.parameters.length) = some 1 ∧ 1 ≤ 21 := by decide +kernel
theorem yd_X10_comes : yX10_comes.cls ≠ "java/lang/invoke/MethodHandle" ∧ yX10_comes.cls ≠ "java/lang/invoke/VarHandle" ∧ (parseMethodDescriptor yX10_comes.desc).map (fun d => d.parameters.length) = some 2 ∧ 4 ≤ 21 := by decide +kernel
theorem yd_X10_of : yX10_of.cls ≠ "java/lang/invoke/MethodHandle" ∧ yX10_of.cls ≠ "java/lang/invoke/VarHandle" ∧ (parseMethodDescriptor yX10_of.desc).map (fun d => d.parameters.length) = some 2 ∧ 3 ≤ 21 := by decide +kernel
theorem yd_X10_isEater : yX10_isEater.cls ≠ "java/lang/invoke/MethodHandle" ∧ yX10_isEater.cls ≠ "java/lang/invoke/VarHandle" ∧ (parseMethodDescriptor yX10_isEater.desc).map (fun d => d.parameters.length) = some 1 ∧ 2 ≤ 21 := by decide +kernel
theorem yd_X10_eats : yX10_eats.cls ≠ "java/lang/invoke/MethodHandle" ∧ yX10_eats.cls ≠ "java/lang/invoke/VarHandle" ∧ (parseMethodDescriptor yX10_eats.desc).map (fun d => d.parameters.length) = some 1 ∧ 2 ≤ 21 := by decide +kernel
theorem yd_X10_wades : yX10_wades.cls ≠ "java/lang/invoke/MethodHandle" ∧ yX10_wades.cls ≠ "java/lang/invoke/VarHandle" ∧ (parseMethodDescriptor yX10_wades.desc).map (fun d => d.parameters.length) = some 1 ∧ 2 ≤ 21 := by decide +kernel
theorem yd_X10_worth : yX10_worth.cls ≠ "java/lang/invoke/MethodHandle" ∧ yX10_worth.cls ≠ "java/lang/invoke/VarHandle" ∧ (parseMethodDescriptor yX10_worth.desc).map (fun d => d.parameters.length) = some 1 ∧ 3 ≤ 21 := by decide +kernel
theorem yd_X10_level : yX10_level.cls ≠ "java/lang/invoke/MethodHandle" ∧ yX10_level.cls ≠ "java/lang/invoke/VarHandle" ∧ (parseMethodDescriptor yX10_level.desc).map (fun d => d.parameters.length) = some 1 ∧ 2 ≤ 21 := by decide +kernel
theorem yd_X10_becomes : yX10_becomes.cls ≠ "java/lang/invoke/MethodHandle" ∧ yX10_becomes.cls ≠ "java/lang/invoke/VarHandle" ∧ (parseMethodDescriptor yX10_becomes.desc).map (fun d => d.parameters.length) = some 2 ∧ 4 ≤ 21 := by decide +kernel
theorem yd_X10_isOf : yX10_isOf.cls ≠ "java/lang/invoke/MethodHandle" ∧ yX10_isOf.cls ≠ "java/lang/invoke/VarHandle" ∧ (parseMethodDescriptor yX10_isOf.desc).map (fun d => d.parameters.length) = some 2 ∧ 2 ≤ 21 := by decide +kernel
theorem yd_X10_within : yX10_within.cls ≠ "java/lang/invoke/MethodHandle" ∧ yX10_within.cls ≠ "java/lang/invoke/VarHandle" ∧ (parseMethodDescriptor yX10_within.desc).map (fun d => d.parameters.length) = some 2 ∧ 2 ≤ 21 := by decide +kernel
theorem yd_X10_mostRule : yX10_mostRule.cls ≠ "java/lang/invoke/MethodHandle" ∧ yX10_mostRule.cls ≠ "java/lang/invoke/VarHandle" ∧ (parseMethodDescriptor yX10_mostRule.desc).map (fun d => d.parameters.length) = some 1 ∧ 1 ≤ 21 := by decide +kernel
theorem yd_X10_drawn : yX10_drawn.cls ≠ "java/lang/invoke/MethodHandle" ∧ yX10_drawn.cls ≠ "java/lang/invoke/VarHandle" ∧ (parseMethodDescriptor yX10_drawn.desc).map (fun d => d.parameters.length) = some 0 ∧ 1 ≤ 21 := by decide +kernel
theorem yd_X10_counts : yX10_counts.cls ≠ "java/lang/invoke/MethodHandle" ∧ yX10_counts.cls ≠ "java/lang/invoke/VarHandle" ∧ (parseMethodDescriptor yX10_counts.desc).map (fun d => d.parameters.length) = some 1 ∧ 4 ≤ 21 := by decide +kernel
theorem yd_X10_worked : yX10_worked.cls ≠ "java/lang/invoke/MethodHandle" ∧ yX10_worked.cls ≠ "java/lang/invoke/VarHandle" ∧ (parseMethodDescriptor yX10_worked.desc).map (fun d => d.parameters.length) = some 1 ∧ 6 ≤ 21 := by decide +kernel
theorem yd_X10_beside : yX10_beside.cls ≠ "java/lang/invoke/MethodHandle" ∧ yX10_beside.cls ≠ "java/lang/invoke/VarHandle" ∧ (parseMethodDescriptor yX10_beside.desc).map (fun d => d.parameters.length) = some 2 ∧ 2 ≤ 21 := by decide +kernel
theorem yd_X10_pours : yX10_pours.cls ≠ "java/lang/invoke/MethodHandle" ∧ yX10_pours.cls ≠ "java/lang/invoke/VarHandle" ∧ (parseMethodDescriptor yX10_pours.desc).map (fun d => d.parameters.length) = some 0 ∧ 2 ≤ 21 := by decide +kernel
theorem yd_X10_flows : yX10_flows.cls ≠ "java/lang/invoke/MethodHandle" ∧ yX10_flows.cls ≠ "java/lang/invoke/VarHandle" ∧ (parseMethodDescriptor yX10_flows.desc).map (fun d => d.parameters.length) = some 1 ∧ 5 ≤ 21 := by decide +kernel
theorem yd_X10_dines : yX10_dines.cls ≠ "java/lang/invoke/MethodHandle" ∧ yX10_dines.cls ≠ "java/lang/invoke/VarHandle" ∧ (parseMethodDescriptor yX10_dines.desc).map (fun d => d.parameters.length) = some 1 ∧ 8 ≤ 21 := by decide +kernel
theorem yd_X10_goesOn : yX10_goesOn.cls ≠ "java/lang/invoke/MethodHandle" ∧ yX10_goesOn.cls ≠ "java/lang/invoke/VarHandle" ∧ (parseMethodDescriptor yX10_goesOn.desc).map (fun d => d.parameters.length) = some 0 ∧ 3 ≤ 21 := by decide +kernel
theorem yd_X10_allParts : yX10_allParts.cls ≠ "java/lang/invoke/MethodHandle" ∧ yX10_allParts.cls ≠ "java/lang/invoke/VarHandle" ∧ (parseMethodDescriptor yX10_allParts.desc).map (fun d => d.parameters.length) = some 0 ∧ 3 ≤ 21 := by decide +kernel
theorem yd_X10_allAte : yX10_allAte.cls ≠ "java/lang/invoke/MethodHandle" ∧ yX10_allAte.cls ≠ "java/lang/invoke/VarHandle" ∧ (parseMethodDescriptor yX10_allAte.desc).map (fun d => d.parameters.length) = some 0 ∧ 3 ≤ 21 := by decide +kernel
theorem yd_X10_manyWet : yX10_manyWet.cls ≠ "java/lang/invoke/MethodHandle" ∧ yX10_manyWet.cls ≠ "java/lang/invoke/VarHandle" ∧ (parseMethodDescriptor yX10_manyWet.desc).map (fun d => d.parameters.length) = some 0 ∧ 3 ≤ 21 := by decide +kernel
theorem yd_X10_orNone : yX10_orNone.cls ≠ "java/lang/invoke/MethodHandle" ∧ yX10_orNone.cls ≠ "java/lang/invoke/VarHandle" ∧ (parseMethodDescriptor yX10_orNone.desc).map (fun d => d.parameters.length) = some 1 ∧ 1 ≤ 21 := by decide +kernel
theorem yd_X10_laysBy : yX10_laysBy.cls ≠ "java/lang/invoke/MethodHandle" ∧ yX10_laysBy.cls ≠ "java/lang/invoke/VarHandle" ∧ (parseMethodDescriptor yX10_laysBy.desc).map (fun d => d.parameters.length) = some 0 ∧ 2 ≤ 21 := by decide +kernel
theorem yd_X10_goesOnMany : yX10_goesOnMany.cls ≠ "java/lang/invoke/MethodHandle" ∧ yX10_goesOnMany.cls ≠ "java/lang/invoke/VarHandle" ∧ (parseMethodDescriptor yX10_goesOnMany.desc).map (fun d => d.parameters.length) = some 1 ∧ 4 ≤ 21 := by decide +kernel
theorem yd_X10_laysBack : yX10_laysBack.cls ≠ "java/lang/invoke/MethodHandle" ∧ yX10_laysBack.cls ≠ "java/lang/invoke/VarHandle" ∧ (parseMethodDescriptor yX10_laysBack.desc).map (fun d => d.parameters.length) = some 0 ∧ 2 ≤ 21 := by decide +kernel
theorem yd_X10_isLetter : yX10_isLetter.cls ≠ "java/lang/invoke/MethodHandle" ∧ yX10_isLetter.cls ≠ "java/lang/invoke/VarHandle" ∧ (parseMethodDescriptor yX10_isLetter.desc).map (fun d => d.parameters.length) = some 1 ∧ 2 ≤ 21 := by decide +kernel
theorem yd_X10_isDigit : yX10_isDigit.cls ≠ "java/lang/invoke/MethodHandle" ∧ yX10_isDigit.cls ≠ "java/lang/invoke/VarHandle" ∧ (parseMethodDescriptor yX10_isDigit.desc).map (fun d => d.parameters.length) = some 1 ∧ 2 ≤ 21 := by decide +kernel
theorem yd_X10_isWordAt : yX10_isWordAt.cls ≠ "java/lang/invoke/MethodHandle" ∧ yX10_isWordAt.cls ≠ "java/lang/invoke/VarHandle" ∧ (parseMethodDescriptor yX10_isWordAt.desc).map (fun d => d.parameters.length) = some 4 ∧ 6 ≤ 21 := by decide +kernel
theorem yd_X10_both : yX10_both.cls ≠ "java/lang/invoke/MethodHandle" ∧ yX10_both.cls ≠ "java/lang/invoke/VarHandle" ∧ (parseMethodDescriptor yX10_both.desc).map (fun d => d.parameters.length) = some 1 ∧ 2 ≤ 21 := by decide +kernel
theorem yd_X10_isSign : yX10_isSign.cls ≠ "java/lang/invoke/MethodHandle" ∧ yX10_isSign.cls ≠ "java/lang/invoke/VarHandle" ∧ (parseMethodDescriptor yX10_isSign.desc).map (fun d => d.parameters.length) = some 1 ∧ 2 ≤ 21 := by decide +kernel
theorem yd_X10_nextToken : yX10_nextToken.cls ≠ "java/lang/invoke/MethodHandle" ∧ yX10_nextToken.cls ≠ "java/lang/invoke/VarHandle" ∧ (parseMethodDescriptor yX10_nextToken.desc).map (fun d => d.parameters.length) = some 0 ∧ 3 ≤ 21 := by decide +kernel
theorem yd_X10_step : yX10_step.cls ≠ "java/lang/invoke/MethodHandle" ∧ yX10_step.cls ≠ "java/lang/invoke/VarHandle" ∧ (parseMethodDescriptor yX10_step.desc).map (fun d => d.parameters.length) = some 2 ∧ 3 ≤ 21 := by decide +kernel
theorem yd_X10_test : yX10_test.cls ≠ "java/lang/invoke/MethodHandle" ∧ yX10_test.cls ≠ "java/lang/invoke/VarHandle" ∧ (parseMethodDescriptor yX10_test.desc).map (fun d => d.parameters.length) = some 1 ∧ 3 ≤ 21 := by decide +kernel
theorem yd_X10_sum : yX10_sum.cls ≠ "java/lang/invoke/MethodHandle" ∧ yX10_sum.cls ≠ "java/lang/invoke/VarHandle" ∧ (parseMethodDescriptor yX10_sum.desc).map (fun d => d.parameters.length) = some 1 ∧ 3 ≤ 21 := by decide +kernel
theorem yd_X10_term : yX10_term.cls ≠ "java/lang/invoke/MethodHandle" ∧ yX10_term.cls ≠ "java/lang/invoke/VarHandle" ∧ (parseMethodDescriptor yX10_term.desc).map (fun d => d.parameters.length) = some 1 ∧ 3 ≤ 21 := by decide +kernel
theorem yd_X10_part0 : yX10_part0.cls ≠ "java/lang/invoke/MethodHandle" ∧ yX10_part0.cls ≠ "java/lang/invoke/VarHandle" ∧ (parseMethodDescriptor yX10_part0.desc).map (fun d => d.parameters.length) = some 1 ∧ 2 ≤ 21 := by decide +kernel
theorem yd_X10_isName : yX10_isName.cls ≠ "java/lang/invoke/MethodHandle" ∧ yX10_isName.cls ≠ "java/lang/invoke/VarHandle" ∧ (parseMethodDescriptor yX10_isName.desc).map (fun d => d.parameters.length) = some 2 ∧ 2 ≤ 21 := by decide +kernel
theorem yd_X10_either : yX10_either.cls ≠ "java/lang/invoke/MethodHandle" ∧ yX10_either.cls ≠ "java/lang/invoke/VarHandle" ∧ (parseMethodDescriptor yX10_either.desc).map (fun d => d.parameters.length) = some 1 ∧ 2 ≤ 21 := by decide +kernel
theorem yd_X10_textAt : yX10_textAt.cls ≠ "java/lang/invoke/MethodHandle" ∧ yX10_textAt.cls ≠ "java/lang/invoke/VarHandle" ∧ (parseMethodDescriptor yX10_textAt.desc).map (fun d => d.parameters.length) = some 1 ∧ 2 ≤ 21 := by decide +kernel
theorem yd_X10_key : yX10_key.cls ≠ "java/lang/invoke/MethodHandle" ∧ yX10_key.cls ≠ "java/lang/invoke/VarHandle" ∧ (parseMethodDescriptor yX10_key.desc).map (fun d => d.parameters.length) = some 0 ∧ 1 ≤ 21 := by decide +kernel
theorem yd_X10_parse : yX10_parse.cls ≠ "java/lang/invoke/MethodHandle" ∧ yX10_parse.cls ≠ "java/lang/invoke/VarHandle" ∧ (parseMethodDescriptor yX10_parse.desc).map (fun d => d.parameters.length) = some 0 ∧ 3 ≤ 21 := by decide +kernel
theorem yd_X10_isText : yX10_isText.cls ≠ "java/lang/invoke/MethodHandle" ∧ yX10_isText.cls ≠ "java/lang/invoke/VarHandle" ∧ (parseMethodDescriptor yX10_isText.desc).map (fun d => d.parameters.length) = some 1 ∧ 2 ≤ 21 := by decide +kernel
theorem yd_X10_joined : yX10_joined.cls ≠ "java/lang/invoke/MethodHandle" ∧ yX10_joined.cls ≠ "java/lang/invoke/VarHandle" ∧ (parseMethodDescriptor yX10_joined.desc).map (fun d => d.parameters.length) = some 3 ∧ 3 ≤ 21 := by decide +kernel
theorem yd_X10_isSheet : yX10_isSheet.cls ≠ "java/lang/invoke/MethodHandle" ∧ yX10_isSheet.cls ≠ "java/lang/invoke/VarHandle" ∧ (parseMethodDescriptor yX10_isSheet.desc).map (fun d => d.parameters.length) = some 1 ∧ 1 ≤ 21 := by decide +kernel
theorem yd_X10_off : yX10_off.cls ≠ "java/lang/invoke/MethodHandle" ∧ yX10_off.cls ≠ "java/lang/invoke/VarHandle" ∧ (parseMethodDescriptor yX10_off.desc).map (fun d => d.parameters.length) = some 2 ∧ 2 ≤ 21 := by decide +kernel
theorem yd_X10_isSlot : yX10_isSlot.cls ≠ "java/lang/invoke/MethodHandle" ∧ yX10_isSlot.cls ≠ "java/lang/invoke/VarHandle" ∧ (parseMethodDescriptor yX10_isSlot.desc).map (fun d => d.parameters.length) = some 1 ∧ 1 ≤ 21 := by decide +kernel
theorem yd_X10_setAside : yX10_setAside.cls ≠ "java/lang/invoke/MethodHandle" ∧ yX10_setAside.cls ≠ "java/lang/invoke/VarHandle" ∧ (parseMethodDescriptor yX10_setAside.desc).map (fun d => d.parameters.length) = some 2 ∧ 4 ≤ 21 := by decide +kernel
theorem yd_X0_gluttonWorth : yX0_gluttonWorth.cls ≠ "java/lang/invoke/MethodHandle" ∧ yX0_gluttonWorth.cls ≠ "java/lang/invoke/VarHandle" ∧ (parseMethodDescriptor yX0_gluttonWorth.desc).map (fun d => d.parameters.length) = some 1 ∧ 1 ≤ 21 := by decide +kernel
theorem yd_X0_childWorth : yX0_childWorth.cls ≠ "java/lang/invoke/MethodHandle" ∧ yX0_childWorth.cls ≠ "java/lang/invoke/VarHandle" ∧ (parseMethodDescriptor yX0_childWorth.desc).map (fun d => d.parameters.length) = some 1 ∧ 1 ≤ 21 := by decide +kernel
theorem yd_X6_init : yX6_init.cls ≠ "java/lang/invoke/MethodHandle" ∧ yX6_init.cls ≠ "java/lang/invoke/VarHandle" ∧ (parseMethodDescriptor yX6_init.desc).map (fun d => d.parameters.length) = some 0 ∧ 1 ≤ 21 := by decide +kernel
theorem yd_X1_joined : yX1_joined.cls ≠ "java/lang/invoke/MethodHandle" ∧ yX1_joined.cls ≠ "java/lang/invoke/VarHandle" ∧ (parseMethodDescriptor yX1_joined.desc).map (fun d => d.parameters.length) = some 3 ∧ 3 ≤ 21 := by decide +kernel
theorem yd_X3_goesOn : yX3_goesOn.cls ≠ "java/lang/invoke/MethodHandle" ∧ yX3_goesOn.cls ≠ "java/lang/invoke/VarHandle" ∧ (parseMethodDescriptor yX3_goesOn.desc).map (fun d => d.parameters.length) = some 0 ∧ 3 ≤ 21 := by decide +kernel
theorem yd_X3_keyHere : yX3_keyHere.cls ≠ "java/lang/invoke/MethodHandle" ∧ yX3_keyHere.cls ≠ "java/lang/invoke/VarHandle" ∧ (parseMethodDescriptor yX3_keyHere.desc).map (fun d => d.parameters.length) = some 0 ∧ 1 ≤ 21 := by decide +kernel
theorem yd_X6_begins : yX6_begins.cls ≠ "java/lang/invoke/MethodHandle" ∧ yX6_begins.cls ≠ "java/lang/invoke/VarHandle" ∧ (parseMethodDescriptor yX6_begins.desc).map (fun d => d.parameters.length) = some 1 ∧ 2 ≤ 21 := by decide +kernel
theorem yd_X3_readsOr : yX3_readsOr.cls ≠ "java/lang/invoke/MethodHandle" ∧ yX3_readsOr.cls ≠ "java/lang/invoke/VarHandle" ∧ (parseMethodDescriptor yX3_readsOr.desc).map (fun d => d.parameters.length) = some 0 ∧ 3 ≤ 21 := by decide +kernel
theorem yd_X3_isLetter : yX3_isLetter.cls ≠ "java/lang/invoke/MethodHandle" ∧ yX3_isLetter.cls ≠ "java/lang/invoke/VarHandle" ∧ (parseMethodDescriptor yX3_isLetter.desc).map (fun d => d.parameters.length) = some 1 ∧ 2 ≤ 21 := by decide +kernel
theorem yd_X3_isDigit : yX3_isDigit.cls ≠ "java/lang/invoke/MethodHandle" ∧ yX3_isDigit.cls ≠ "java/lang/invoke/VarHandle" ∧ (parseMethodDescriptor yX3_isDigit.desc).map (fun d => d.parameters.length) = some 1 ∧ 2 ≤ 21 := by decide +kernel
theorem yd_X3_isWord : yX3_isWord.cls ≠ "java/lang/invoke/MethodHandle" ∧ yX3_isWord.cls ≠ "java/lang/invoke/VarHandle" ∧ (parseMethodDescriptor yX3_isWord.desc).map (fun d => d.parameters.length) = some 1 ∧ 3 ≤ 21 := by decide +kernel
theorem yd_J0_length_8abf5 : yJ0_length_8abf5.cls ≠ "java/lang/invoke/MethodHandle" ∧ yJ0_length_8abf5.cls ≠ "java/lang/invoke/VarHandle" ∧ (parseMethodDescriptor yJ0_length_8abf5.desc).map (fun d => d.parameters.length) = some 0 ∧ 1 ≤ 21 := by decide +kernel
theorem yd_J0_charAt_5068e : yJ0_charAt_5068e.cls ≠ "java/lang/invoke/MethodHandle" ∧ yJ0_charAt_5068e.cls ≠ "java/lang/invoke/VarHandle" ∧ (parseMethodDescriptor yJ0_charAt_5068e.desc).map (fun d => d.parameters.length) = some 1 ∧ 2 ≤ 21 := by decide +kernel
theorem yd_J0_indexOf_0f7a4 : yJ0_indexOf_0f7a4.cls ≠ "java/lang/invoke/MethodHandle" ∧ yJ0_indexOf_0f7a4.cls ≠ "java/lang/invoke/VarHandle" ∧ (parseMethodDescriptor yJ0_indexOf_0f7a4.desc).map (fun d => d.parameters.length) = some 1 ∧ 2 ≤ 21 := by decide +kernel
theorem yd_X3_readsAnd : yX3_readsAnd.cls ≠ "java/lang/invoke/MethodHandle" ∧ yX3_readsAnd.cls ≠ "java/lang/invoke/VarHandle" ∧ (parseMethodDescriptor yX3_readsAnd.desc).map (fun d => d.parameters.length) = some 0 ∧ 3 ≤ 21 := by decide +kernel
theorem yd_X3_isSign : yX3_isSign.cls ≠ "java/lang/invoke/MethodHandle" ∧ yX3_isSign.cls ≠ "java/lang/invoke/VarHandle" ∧ (parseMethodDescriptor yX3_isSign.desc).map (fun d => d.parameters.length) = some 1 ∧ 2 ≤ 21 := by decide +kernel
theorem yd_X6_adds : yX6_adds.cls ≠ "java/lang/invoke/MethodHandle" ∧ yX6_adds.cls ≠ "java/lang/invoke/VarHandle" ∧ (parseMethodDescriptor yX6_adds.desc).map (fun d => d.parameters.length) = some 1 ∧ 2 ≤ 21 := by decide +kernel
theorem yd_X3_readsTest : yX3_readsTest.cls ≠ "java/lang/invoke/MethodHandle" ∧ yX3_readsTest.cls ≠ "java/lang/invoke/VarHandle" ∧ (parseMethodDescriptor yX3_readsTest.desc).map (fun d => d.parameters.length) = some 0 ∧ 3 ≤ 21 := by decide +kernel
theorem yd_X3_readsSum : yX3_readsSum.cls ≠ "java/lang/invoke/MethodHandle" ∧ yX3_readsSum.cls ≠ "java/lang/invoke/VarHandle" ∧ (parseMethodDescriptor yX3_readsSum.desc).map (fun d => d.parameters.length) = some 0 ∧ 4 ≤ 21 := by decide +kernel
theorem yd_X3_readsTerm : yX3_readsTerm.cls ≠ "java/lang/invoke/MethodHandle" ∧ yX3_readsTerm.cls ≠ "java/lang/invoke/VarHandle" ∧ (parseMethodDescriptor yX3_readsTerm.desc).map (fun d => d.parameters.length) = some 0 ∧ 4 ≤ 21 := by decide +kernel
theorem yd_X3_readsPiece : yX3_readsPiece.cls ≠ "java/lang/invoke/MethodHandle" ∧ yX3_readsPiece.cls ≠ "java/lang/invoke/VarHandle" ∧ (parseMethodDescriptor yX3_readsPiece.desc).map (fun d => d.parameters.length) = some 0 ∧ 2 ≤ 21 := by decide +kernel
theorem yd_X3_readsNot : yX3_readsNot.cls ≠ "java/lang/invoke/MethodHandle" ∧ yX3_readsNot.cls ≠ "java/lang/invoke/VarHandle" ∧ (parseMethodDescriptor yX3_readsNot.desc).map (fun d => d.parameters.length) = some 0 ∧ 2 ≤ 21 := by decide +kernel
theorem yd_X3_readsParen : yX3_readsParen.cls ≠ "java/lang/invoke/MethodHandle" ∧ yX3_readsParen.cls ≠ "java/lang/invoke/VarHandle" ∧ (parseMethodDescriptor yX3_readsParen.desc).map (fun d => d.parameters.length) = some 0 ∧ 2 ≤ 21 := by decide +kernel
theorem yd_X3_nameHere : yX3_nameHere.cls ≠ "java/lang/invoke/MethodHandle" ∧ yX3_nameHere.cls ≠ "java/lang/invoke/VarHandle" ∧ (parseMethodDescriptor yX3_nameHere.desc).map (fun d => d.parameters.length) = some 0 ∧ 2 ≤ 21 := by decide +kernel
theorem yd_X3_numberHere : yX3_numberHere.cls ≠ "java/lang/invoke/MethodHandle" ∧ yX3_numberHere.cls ≠ "java/lang/invoke/VarHandle" ∧ (parseMethodDescriptor yX3_numberHere.desc).map (fun d => d.parameters.length) = some 0 ∧ 3 ≤ 21 := by decide +kernel
theorem yd_X7_flows : yX7_flows.cls ≠ "java/lang/invoke/MethodHandle" ∧ yX7_flows.cls ≠ "java/lang/invoke/VarHandle" ∧ (parseMethodDescriptor yX7_flows.desc).map (fun d => d.parameters.length) = some 1 ∧ 6 ≤ 21 := by decide +kernel
theorem yd_X7_feasts : yX7_feasts.cls ≠ "java/lang/invoke/MethodHandle" ∧ yX7_feasts.cls ≠ "java/lang/invoke/VarHandle" ∧ (parseMethodDescriptor yX7_feasts.desc).map (fun d => d.parameters.length) = some 1 ∧ 4 ≤ 21 := by decide +kernel
theorem yd_X7_miceEat : yX7_miceEat.cls ≠ "java/lang/invoke/MethodHandle" ∧ yX7_miceEat.cls ≠ "java/lang/invoke/VarHandle" ∧ (parseMethodDescriptor yX7_miceEat.desc).map (fun d => d.parameters.length) = some 0 ∧ 2 ≤ 21 := by decide +kernel
theorem yd_X2_beside : yX2_beside.cls ≠ "java/lang/invoke/MethodHandle" ∧ yX2_beside.cls ≠ "java/lang/invoke/VarHandle" ∧ (parseMethodDescriptor yX2_beside.desc).map (fun d => d.parameters.length) = some 2 ∧ 2 ≤ 21 := by decide +kernel
theorem yd_X7_fullestBeside : yX7_fullestBeside.cls ≠ "java/lang/invoke/MethodHandle" ∧ yX7_fullestBeside.cls ≠ "java/lang/invoke/VarHandle" ∧ (parseMethodDescriptor yX7_fullestBeside.desc).map (fun d => d.parameters.length) = some 2 ∧ 7 ≤ 21 := by decide +kernel
theorem yd_X9_init : yX9_init.cls ≠ "java/lang/invoke/MethodHandle" ∧ yX9_init.cls ≠ "java/lang/invoke/VarHandle" ∧ (parseMethodDescriptor yX9_init.desc).map (fun d => d.parameters.length) = some 0 ∧ 2 ≤ 21 := by decide +kernel
theorem yd_X10_init : yX10_init.cls ≠ "java/lang/invoke/MethodHandle" ∧ yX10_init.cls ≠ "java/lang/invoke/VarHandle" ∧ (parseMethodDescriptor yX10_init.desc).map (fun d => d.parameters.length) = some 0 ∧ 2 ≤ 21 := by decide +kernel
theorem yd_X9_eater : yX9_eater.cls ≠ "java/lang/invoke/MethodHandle" ∧ yX9_eater.cls ≠ "java/lang/invoke/VarHandle" ∧ (parseMethodDescriptor yX9_eater.desc).map (fun d => d.parameters.length) = some 2 ∧ 3 ≤ 21 := by decide +kernel
theorem yd_X10_eater : yX10_eater.cls ≠ "java/lang/invoke/MethodHandle" ∧ yX10_eater.cls ≠ "java/lang/invoke/VarHandle" ∧ (parseMethodDescriptor yX10_eater.desc).map (fun d => d.parameters.length) = some 2 ∧ 3 ≤ 21 := by decide +kernel
theorem yd_X9_told : yX9_told.cls ≠ "java/lang/invoke/MethodHandle" ∧ yX9_told.cls ≠ "java/lang/invoke/VarHandle" ∧ (parseMethodDescriptor yX9_told.desc).map (fun d => d.parameters.length) = some 2 ∧ 4 ≤ 21 := by decide +kernel
theorem yd_X10_told : yX10_told.cls ≠ "java/lang/invoke/MethodHandle" ∧ yX10_told.cls ≠ "java/lang/invoke/VarHandle" ∧ (parseMethodDescriptor yX10_told.desc).map (fun d => d.parameters.length) = some 2 ∧ 3 ≤ 21 := by decide +kernel
theorem yd_X9_cell : yX9_cell.cls ≠ "java/lang/invoke/MethodHandle" ∧ yX9_cell.cls ≠ "java/lang/invoke/VarHandle" ∧ (parseMethodDescriptor yX9_cell.desc).map (fun d => d.parameters.length) = some 2 ∧ 3 ≤ 21 := by decide +kernel
theorem yd_X10_cell : yX10_cell.cls ≠ "java/lang/invoke/MethodHandle" ∧ yX10_cell.cls ≠ "java/lang/invoke/VarHandle" ∧ (parseMethodDescriptor yX10_cell.desc).map (fun d => d.parameters.length) = some 2 ∧ 3 ≤ 21 := by decide +kernel
theorem yd_X9_lays : yX9_lays.cls ≠ "java/lang/invoke/MethodHandle" ∧ yX9_lays.cls ≠ "java/lang/invoke/VarHandle" ∧ (parseMethodDescriptor yX9_lays.desc).map (fun d => d.parameters.length) = some 3 ∧ 6 ≤ 21 := by decide +kernel
theorem yd_X10_lays : yX10_lays.cls ≠ "java/lang/invoke/MethodHandle" ∧ yX10_lays.cls ≠ "java/lang/invoke/VarHandle" ∧ (parseMethodDescriptor yX10_lays.desc).map (fun d => d.parameters.length) = some 3 ∧ 4 ≤ 21 := by decide +kernel
theorem yd_X9_as : yX9_as.cls ≠ "java/lang/invoke/MethodHandle" ∧ yX9_as.cls ≠ "java/lang/invoke/VarHandle" ∧ (parseMethodDescriptor yX9_as.desc).map (fun d => d.parameters.length) = some 2 ∧ 3 ≤ 21 := by decide +kernel
theorem yd_X10_as : yX10_as.cls ≠ "java/lang/invoke/MethodHandle" ∧ yX10_as.cls ≠ "java/lang/invoke/VarHandle" ∧ (parseMethodDescriptor yX10_as.desc).map (fun d => d.parameters.length) = some 2 ∧ 3 ≤ 21 := by decide +kernel
theorem yd_X9_turns : yX9_turns.cls ≠ "java/lang/invoke/MethodHandle" ∧ yX9_turns.cls ≠ "java/lang/invoke/VarHandle" ∧ (parseMethodDescriptor yX9_turns.desc).map (fun d => d.parameters.length) = some 2 ∧ 4 ≤ 21 := by decide +kernel
theorem yd_X10_turns : yX10_turns.cls ≠ "java/lang/invoke/MethodHandle" ∧ yX10_turns.cls ≠ "java/lang/invoke/VarHandle" ∧ (parseMethodDescriptor yX10_turns.desc).map (fun d => d.parameters.length) = some 2 ∧ 3 ≤ 21 := by decide +kernel
theorem yd_X9_sends : yX9_sends.cls ≠ "java/lang/invoke/MethodHandle" ∧ yX9_sends.cls ≠ "java/lang/invoke/VarHandle" ∧ (parseMethodDescriptor yX9_sends.desc).map (fun d => d.parameters.length) = some 2 ∧ 4 ≤ 21 := by decide +kernel
theorem yd_X10_sends : yX10_sends.cls ≠ "java/lang/invoke/MethodHandle" ∧ yX10_sends.cls ≠ "java/lang/invoke/VarHandle" ∧ (parseMethodDescriptor yX10_sends.desc).map (fun d => d.parameters.length) = some 2 ∧ 3 ≤ 21 := by decide +kernel
theorem yd_X9_cook : yX9_cook.cls ≠ "java/lang/invoke/MethodHandle" ∧ yX9_cook.cls ≠ "java/lang/invoke/VarHandle" ∧ (parseMethodDescriptor yX9_cook.desc).map (fun d => d.parameters.length) = some 1 ∧ 3 ≤ 21 := by decide +kernel
theorem yd_X10_cook : yX10_cook.cls ≠ "java/lang/invoke/MethodHandle" ∧ yX10_cook.cls ≠ "java/lang/invoke/VarHandle" ∧ (parseMethodDescriptor yX10_cook.desc).map (fun d => d.parameters.length) = some 1 ∧ 2 ≤ 21 := by decide +kernel
theorem yd_X9_say : yX9_say.cls ≠ "java/lang/invoke/MethodHandle" ∧ yX9_say.cls ≠ "java/lang/invoke/VarHandle" ∧ (parseMethodDescriptor yX9_say.desc).map (fun d => d.parameters.length) = some 1 ∧ 3 ≤ 21 := by decide +kernel
theorem yd_X10_say : yX10_say.cls ≠ "java/lang/invoke/MethodHandle" ∧ yX10_say.cls ≠ "java/lang/invoke/VarHandle" ∧ (parseMethodDescriptor yX10_say.desc).map (fun d => d.parameters.length) = some 1 ∧ 3 ≤ 21 := by decide +kernel
theorem yd_X9_rule : yX9_rule.cls ≠ "java/lang/invoke/MethodHandle" ∧ yX9_rule.cls ≠ "java/lang/invoke/VarHandle" ∧ (parseMethodDescriptor yX9_rule.desc).map (fun d => d.parameters.length) = some 2 ∧ 4 ≤ 21 := by decide +kernel
theorem yd_X10_rule : yX10_rule.cls ≠ "java/lang/invoke/MethodHandle" ∧ yX10_rule.cls ≠ "java/lang/invoke/VarHandle" ∧ (parseMethodDescriptor yX10_rule.desc).map (fun d => d.parameters.length) = some 2 ∧ 3 ≤ 21 := by decide +kernel
theorem yd_X9_deal : yX9_deal.cls ≠ "java/lang/invoke/MethodHandle" ∧ yX9_deal.cls ≠ "java/lang/invoke/VarHandle" ∧ (parseMethodDescriptor yX9_deal.desc).map (fun d => d.parameters.length) = some 1 ∧ 5 ≤ 21 := by decide +kernel
theorem yd_X10_deal : yX10_deal.cls ≠ "java/lang/invoke/MethodHandle" ∧ yX10_deal.cls ≠ "java/lang/invoke/VarHandle" ∧ (parseMethodDescriptor yX10_deal.desc).map (fun d => d.parameters.length) = some 1 ∧ 4 ≤ 21 := by decide +kernel
theorem yd_X9_seed : yX9_seed.cls ≠ "java/lang/invoke/MethodHandle" ∧ yX9_seed.cls ≠ "java/lang/invoke/VarHandle" ∧ (parseMethodDescriptor yX9_seed.desc).map (fun d => d.parameters.length) = some 1 ∧ 3 ≤ 21 := by decide +kernel
theorem yd_X10_seed : yX10_seed.cls ≠ "java/lang/invoke/MethodHandle" ∧ yX10_seed.cls ≠ "java/lang/invoke/VarHandle" ∧ (parseMethodDescriptor yX10_seed.desc).map (fun d => d.parameters.length) = some 1 ∧ 2 ≤ 21 := by decide +kernel
theorem yd_X9_minutes : yX9_minutes.cls ≠ "java/lang/invoke/MethodHandle" ∧ yX9_minutes.cls ≠ "java/lang/invoke/VarHandle" ∧ (parseMethodDescriptor yX9_minutes.desc).map (fun d => d.parameters.length) = some 1 ∧ 3 ≤ 21 := by decide +kernel
theorem yd_X10_minutes : yX10_minutes.cls ≠ "java/lang/invoke/MethodHandle" ∧ yX10_minutes.cls ≠ "java/lang/invoke/VarHandle" ∧ (parseMethodDescriptor yX10_minutes.desc).map (fun d => d.parameters.length) = some 1 ∧ 4 ≤ 21 := by decide +kernel
theorem yd_X9_town : yX9_town.cls ≠ "java/lang/invoke/MethodHandle" ∧ yX9_town.cls ≠ "java/lang/invoke/VarHandle" ∧ (parseMethodDescriptor yX9_town.desc).map (fun d => d.parameters.length) = some 1 ∧ 2 ≤ 21 := by decide +kernel
theorem yd_X10_town : yX10_town.cls ≠ "java/lang/invoke/MethodHandle" ∧ yX10_town.cls ≠ "java/lang/invoke/VarHandle" ∧ (parseMethodDescriptor yX10_town.desc).map (fun d => d.parameters.length) = some 1 ∧ 2 ≤ 21 := by decide +kernel
theorem yd_X9_path : yX9_path.cls ≠ "java/lang/invoke/MethodHandle" ∧ yX9_path.cls ≠ "java/lang/invoke/VarHandle" ∧ (parseMethodDescriptor yX9_path.desc).map (fun d => d.parameters.length) = some 3 ∧ 4 ≤ 21 := by decide +kernel
theorem yd_X10_path : yX10_path.cls ≠ "java/lang/invoke/MethodHandle" ∧ yX10_path.cls ≠ "java/lang/invoke/VarHandle" ∧ (parseMethodDescriptor yX10_path.desc).map (fun d => d.parameters.length) = some 3 ∧ 8 ≤ 21 := by decide +kernel
theorem yd_X9_behind : yX9_behind.cls ≠ "java/lang/invoke/MethodHandle" ∧ yX9_behind.cls ≠ "java/lang/invoke/VarHandle" ∧ (parseMethodDescriptor yX9_behind.desc).map (fun d => d.parameters.length) = some 2 ∧ 3 ≤ 21 := by decide +kernel
theorem yd_X10_behind : yX10_behind.cls ≠ "java/lang/invoke/MethodHandle" ∧ yX10_behind.cls ≠ "java/lang/invoke/VarHandle" ∧ (parseMethodDescriptor yX10_behind.desc).map (fun d => d.parameters.length) = some 2 ∧ 4 ≤ 21 := by decide +kernel
theorem yd_X9_wets : yX9_wets.cls ≠ "java/lang/invoke/MethodHandle" ∧ yX9_wets.cls ≠ "java/lang/invoke/VarHandle" ∧ (parseMethodDescriptor yX9_wets.desc).map (fun d => d.parameters.length) = some 1 ∧ 3 ≤ 21 := by decide +kernel
theorem yd_X10_wets : yX10_wets.cls ≠ "java/lang/invoke/MethodHandle" ∧ yX10_wets.cls ≠ "java/lang/invoke/VarHandle" ∧ (parseMethodDescriptor yX10_wets.desc).map (fun d => d.parameters.length) = some 1 ∧ 4 ≤ 21 := by decide +kernel
theorem yd_X9_deepest : yX9_deepest.cls ≠ "java/lang/invoke/MethodHandle" ∧ yX9_deepest.cls ≠ "java/lang/invoke/VarHandle" ∧ (parseMethodDescriptor yX9_deepest.desc).map (fun d => d.parameters.length) = some 2 ∧ 5 ≤ 21 := by decide +kernel
theorem yd_X10_deepest : yX10_deepest.cls ≠ "java/lang/invoke/MethodHandle" ∧ yX10_deepest.cls ≠ "java/lang/invoke/VarHandle" ∧ (parseMethodDescriptor yX10_deepest.desc).map (fun d => d.parameters.length) = some 2 ∧ 5 ≤ 21 := by decide +kernel
theorem yd_X9_walled : yX9_walled.cls ≠ "java/lang/invoke/MethodHandle" ∧ yX9_walled.cls ≠ "java/lang/invoke/VarHandle" ∧ (parseMethodDescriptor yX9_walled.desc).map (fun d => d.parameters.length) = some 3 ∧ 7 ≤ 21 := by decide +kernel
theorem yd_X10_walled : yX10_walled.cls ≠ "java/lang/invoke/MethodHandle" ∧ yX10_walled.cls ≠ "java/lang/invoke/VarHandle" ∧ (parseMethodDescriptor yX10_walled.desc).map (fun d => d.parameters.length) = some 3 ∧ 8 ≤ 21 := by decide +kernel
theorem yd_X9_enough : yX9_enough.cls ≠ "java/lang/invoke/MethodHandle" ∧ yX9_enough.cls ≠ "java/lang/invoke/VarHandle" ∧ (parseMethodDescriptor yX9_enough.desc).map (fun d => d.parameters.length) = some 2 ∧ 5 ≤ 21 := by decide +kernel
theorem yd_X10_enough : yX10_enough.cls ≠ "java/lang/invoke/MethodHandle" ∧ yX10_enough.cls ≠ "java/lang/invoke/VarHandle" ∧ (parseMethodDescriptor yX10_enough.desc).map (fun d => d.parameters.length) = some 2 ∧ 5 ≤ 21 := by decide +kernel
theorem yd_X9_stood : yX9_stood.cls ≠ "java/lang/invoke/MethodHandle" ∧ yX9_stood.cls ≠ "java/lang/invoke/VarHandle" ∧ (parseMethodDescriptor yX9_stood.desc).map (fun d => d.parameters.length) = some 3 ∧ 8 ≤ 21 := by decide +kernel
theorem yd_X10_stood : yX10_stood.cls ≠ "java/lang/invoke/MethodHandle" ∧ yX10_stood.cls ≠ "java/lang/invoke/VarHandle" ∧ (parseMethodDescriptor yX10_stood.desc).map (fun d => d.parameters.length) = some 3 ∧ 10 ≤ 21 := by decide +kernel
theorem yd_X9_fee : yX9_fee.cls ≠ "java/lang/invoke/MethodHandle" ∧ yX9_fee.cls ≠ "java/lang/invoke/VarHandle" ∧ (parseMethodDescriptor yX9_fee.desc).map (fun d => d.parameters.length) = some 0 ∧ 3 ≤ 21 := by decide +kernel
theorem yd_X10_fee : yX10_fee.cls ≠ "java/lang/invoke/MethodHandle" ∧ yX10_fee.cls ≠ "java/lang/invoke/VarHandle" ∧ (parseMethodDescriptor yX10_fee.desc).map (fun d => d.parameters.length) = some 0 ∧ 2 ≤ 21 := by decide +kernel
theorem yd_X9_fine : yX9_fine.cls ≠ "java/lang/invoke/MethodHandle" ∧ yX9_fine.cls ≠ "java/lang/invoke/VarHandle" ∧ (parseMethodDescriptor yX9_fine.desc).map (fun d => d.parameters.length) = some 1 ∧ 4 ≤ 21 := by decide +kernel
theorem yd_X10_fine : yX10_fine.cls ≠ "java/lang/invoke/MethodHandle" ∧ yX10_fine.cls ≠ "java/lang/invoke/VarHandle" ∧ (parseMethodDescriptor yX10_fine.desc).map (fun d => d.parameters.length) = some 1 ∧ 3 ≤ 21 := by decide +kernel
theorem yd_X9_feed : yX9_feed.cls ≠ "java/lang/invoke/MethodHandle" ∧ yX9_feed.cls ≠ "java/lang/invoke/VarHandle" ∧ (parseMethodDescriptor yX9_feed.desc).map (fun d => d.parameters.length) = some 3 ∧ 4 ≤ 21 := by decide +kernel
theorem yd_X10_feed : yX10_feed.cls ≠ "java/lang/invoke/MethodHandle" ∧ yX10_feed.cls ≠ "java/lang/invoke/VarHandle" ∧ (parseMethodDescriptor yX10_feed.desc).map (fun d => d.parameters.length) = some 3 ∧ 6 ≤ 21 := by decide +kernel
theorem yd_X9_trim : yX9_trim.cls ≠ "java/lang/invoke/MethodHandle" ∧ yX9_trim.cls ≠ "java/lang/invoke/VarHandle" ∧ (parseMethodDescriptor yX9_trim.desc).map (fun d => d.parameters.length) = some 1 ∧ 2 ≤ 21 := by decide +kernel
theorem yd_X10_trim : yX10_trim.cls ≠ "java/lang/invoke/MethodHandle" ∧ yX10_trim.cls ≠ "java/lang/invoke/VarHandle" ∧ (parseMethodDescriptor yX10_trim.desc).map (fun d => d.parameters.length) = some 1 ∧ 2 ≤ 21 := by decide +kernel
theorem yd_X9_text : yX9_text.cls ≠ "java/lang/invoke/MethodHandle" ∧ yX9_text.cls ≠ "java/lang/invoke/VarHandle" ∧ (parseMethodDescriptor yX9_text.desc).map (fun d => d.parameters.length) = some 0 ∧ 2 ≤ 21 := by decide +kernel
theorem yd_X10_text : yX10_text.cls ≠ "java/lang/invoke/MethodHandle" ∧ yX10_text.cls ≠ "java/lang/invoke/VarHandle" ∧ (parseMethodDescriptor yX10_text.desc).map (fun d => d.parameters.length) = some 0 ∧ 3 ≤ 21 := by decide +kernel
theorem yd_X9_textTold : yX9_textTold.cls ≠ "java/lang/invoke/MethodHandle" ∧ yX9_textTold.cls ≠ "java/lang/invoke/VarHandle" ∧ (parseMethodDescriptor yX9_textTold.desc).map (fun d => d.parameters.length) = some 2 ∧ 4 ≤ 21 := by decide +kernel
theorem yd_X10_textTold : yX10_textTold.cls ≠ "java/lang/invoke/MethodHandle" ∧ yX10_textTold.cls ≠ "java/lang/invoke/VarHandle" ∧ (parseMethodDescriptor yX10_textTold.desc).map (fun d => d.parameters.length) = some 2 ∧ 3 ≤ 21 := by decide +kernel
theorem yd_X9_why : yX9_why.cls ≠ "java/lang/invoke/MethodHandle" ∧ yX9_why.cls ≠ "java/lang/invoke/VarHandle" ∧ (parseMethodDescriptor yX9_why.desc).map (fun d => d.parameters.length) = some 1 ∧ 3 ≤ 21 := by decide +kernel
theorem yd_X10_why : yX10_why.cls ≠ "java/lang/invoke/MethodHandle" ∧ yX10_why.cls ≠ "java/lang/invoke/VarHandle" ∧ (parseMethodDescriptor yX10_why.desc).map (fun d => d.parameters.length) = some 1 ∧ 2 ≤ 21 := by decide +kernel
theorem yd_X9_sheet : yX9_sheet.cls ≠ "java/lang/invoke/MethodHandle" ∧ yX9_sheet.cls ≠ "java/lang/invoke/VarHandle" ∧ (parseMethodDescriptor yX9_sheet.desc).map (fun d => d.parameters.length) = some 3 ∧ 4 ≤ 21 := by decide +kernel
theorem yd_X10_sheet : yX10_sheet.cls ≠ "java/lang/invoke/MethodHandle" ∧ yX10_sheet.cls ≠ "java/lang/invoke/VarHandle" ∧ (parseMethodDescriptor yX10_sheet.desc).map (fun d => d.parameters.length) = some 3 ∧ 5 ≤ 21 := by decide +kernel
theorem yd_X9_mark : yX9_mark.cls ≠ "java/lang/invoke/MethodHandle" ∧ yX9_mark.cls ≠ "java/lang/invoke/VarHandle" ∧ (parseMethodDescriptor yX9_mark.desc).map (fun d => d.parameters.length) = some 3 ∧ 5 ≤ 21 := by decide +kernel
theorem yd_X10_mark : yX10_mark.cls ≠ "java/lang/invoke/MethodHandle" ∧ yX10_mark.cls ≠ "java/lang/invoke/VarHandle" ∧ (parseMethodDescriptor yX10_mark.desc).map (fun d => d.parameters.length) = some 3 ∧ 4 ≤ 21 := by decide +kernel
theorem yd_X9_pour : yX9_pour.cls ≠ "java/lang/invoke/MethodHandle" ∧ yX9_pour.cls ≠ "java/lang/invoke/VarHandle" ∧ (parseMethodDescriptor yX9_pour.desc).map (fun d => d.parameters.length) = some 1 ∧ 2 ≤ 21 := by decide +kernel
theorem yd_X10_pour : yX10_pour.cls ≠ "java/lang/invoke/MethodHandle" ∧ yX10_pour.cls ≠ "java/lang/invoke/VarHandle" ∧ (parseMethodDescriptor yX10_pour.desc).map (fun d => d.parameters.length) = some 1 ∧ 6 ≤ 21 := by decide +kernel
theorem yd_X9_reads : yX9_reads.cls ≠ "java/lang/invoke/MethodHandle" ∧ yX9_reads.cls ≠ "java/lang/invoke/VarHandle" ∧ (parseMethodDescriptor yX9_reads.desc).map (fun d => d.parameters.length) = some 1 ∧ 2 ≤ 21 := by decide +kernel
theorem yd_X10_reads : yX10_reads.cls ≠ "java/lang/invoke/MethodHandle" ∧ yX10_reads.cls ≠ "java/lang/invoke/VarHandle" ∧ (parseMethodDescriptor yX10_reads.desc).map (fun d => d.parameters.length) = some 1 ∧ 4 ≤ 21 := by decide +kernel
theorem yd_X9_copy : yX9_copy.cls ≠ "java/lang/invoke/MethodHandle" ∧ yX9_copy.cls ≠ "java/lang/invoke/VarHandle" ∧ (parseMethodDescriptor yX9_copy.desc).map (fun d => d.parameters.length) = some 5 ∧ 8 ≤ 21 := by decide +kernel
theorem yd_X10_copy : yX10_copy.cls ≠ "java/lang/invoke/MethodHandle" ∧ yX10_copy.cls ≠ "java/lang/invoke/VarHandle" ∧ (parseMethodDescriptor yX10_copy.desc).map (fun d => d.parameters.length) = some 5 ∧ 7 ≤ 21 := by decide +kernel
theorem yd_X9_lay : yX9_lay.cls ≠ "java/lang/invoke/MethodHandle" ∧ yX9_lay.cls ≠ "java/lang/invoke/VarHandle" ∧ (parseMethodDescriptor yX9_lay.desc).map (fun d => d.parameters.length) = some 3 ∧ 6 ≤ 21 := by decide +kernel
theorem yd_X10_lay : yX10_lay.cls ≠ "java/lang/invoke/MethodHandle" ∧ yX10_lay.cls ≠ "java/lang/invoke/VarHandle" ∧ (parseMethodDescriptor yX10_lay.desc).map (fun d => d.parameters.length) = some 3 ∧ 7 ≤ 21 := by decide +kernel
theorem yd_X9_ask : yX9_ask.cls ≠ "java/lang/invoke/MethodHandle" ∧ yX9_ask.cls ≠ "java/lang/invoke/VarHandle" ∧ (parseMethodDescriptor yX9_ask.desc).map (fun d => d.parameters.length) = some 2 ∧ 5 ≤ 21 := by decide +kernel
theorem yd_X10_ask : yX10_ask.cls ≠ "java/lang/invoke/MethodHandle" ∧ yX10_ask.cls ≠ "java/lang/invoke/VarHandle" ∧ (parseMethodDescriptor yX10_ask.desc).map (fun d => d.parameters.length) = some 2 ∧ 3 ≤ 21 := by decide +kernel
theorem yd_X9_item : yX9_item.cls ≠ "java/lang/invoke/MethodHandle" ∧ yX9_item.cls ≠ "java/lang/invoke/VarHandle" ∧ (parseMethodDescriptor yX9_item.desc).map (fun d => d.parameters.length) = some 2 ∧ 5 ≤ 21 := by decide +kernel
theorem yd_X10_item : yX10_item.cls ≠ "java/lang/invoke/MethodHandle" ∧ yX10_item.cls ≠ "java/lang/invoke/VarHandle" ∧ (parseMethodDescriptor yX10_item.desc).map (fun d => d.parameters.length) = some 2 ∧ 4 ≤ 21 := by decide +kernel
theorem yd_X9_rest : yX9_rest.cls ≠ "java/lang/invoke/MethodHandle" ∧ yX9_rest.cls ≠ "java/lang/invoke/VarHandle" ∧ (parseMethodDescriptor yX9_rest.desc).map (fun d => d.parameters.length) = some 2 ∧ 4 ≤ 21 := by decide +kernel
theorem yd_X10_rest : yX10_rest.cls ≠ "java/lang/invoke/MethodHandle" ∧ yX10_rest.cls ≠ "java/lang/invoke/VarHandle" ∧ (parseMethodDescriptor yX10_rest.desc).map (fun d => d.parameters.length) = some 2 ∧ 3 ≤ 21 := by decide +kernel
theorem yd_X9_tell : yX9_tell.cls ≠ "java/lang/invoke/MethodHandle" ∧ yX9_tell.cls ≠ "java/lang/invoke/VarHandle" ∧ (parseMethodDescriptor yX9_tell.desc).map (fun d => d.parameters.length) = some 1 ∧ 2 ≤ 21 := by decide +kernel
theorem yd_X10_tell : yX10_tell.cls ≠ "java/lang/invoke/MethodHandle" ∧ yX10_tell.cls ≠ "java/lang/invoke/VarHandle" ∧ (parseMethodDescriptor yX10_tell.desc).map (fun d => d.parameters.length) = some 1 ∧ 2 ≤ 21 := by decide +kernel
theorem yd_X9_check : yX9_check.cls ≠ "java/lang/invoke/MethodHandle" ∧ yX9_check.cls ≠ "java/lang/invoke/VarHandle" ∧ (parseMethodDescriptor yX9_check.desc).map (fun d => d.parameters.length) = some 1 ∧ 5 ≤ 21 := by decide +kernel
theorem yd_X10_check : yX10_check.cls ≠ "java/lang/invoke/MethodHandle" ∧ yX10_check.cls ≠ "java/lang/invoke/VarHandle" ∧ (parseMethodDescriptor yX10_check.desc).map (fun d => d.parameters.length) = some 1 ∧ 5 ≤ 21 := by decide +kernel
theorem yd_X9_keep : yX9_keep.cls ≠ "java/lang/invoke/MethodHandle" ∧ yX9_keep.cls ≠ "java/lang/invoke/VarHandle" ∧ (parseMethodDescriptor yX9_keep.desc).map (fun d => d.parameters.length) = some 0 ∧ 1 ≤ 21 := by decide +kernel
theorem yd_X10_keep : yX10_keep.cls ≠ "java/lang/invoke/MethodHandle" ∧ yX10_keep.cls ≠ "java/lang/invoke/VarHandle" ∧ (parseMethodDescriptor yX10_keep.desc).map (fun d => d.parameters.length) = some 0 ∧ 1 ≤ 21 := by decide +kernel
theorem yd_X9_back : yX9_back.cls ≠ "java/lang/invoke/MethodHandle" ∧ yX9_back.cls ≠ "java/lang/invoke/VarHandle" ∧ (parseMethodDescriptor yX9_back.desc).map (fun d => d.parameters.length) = some 0 ∧ 1 ≤ 21 := by decide +kernel
theorem yd_X10_back : yX10_back.cls ≠ "java/lang/invoke/MethodHandle" ∧ yX10_back.cls ≠ "java/lang/invoke/VarHandle" ∧ (parseMethodDescriptor yX10_back.desc).map (fun d => d.parameters.length) = some 0 ∧ 1 ≤ 21 := by decide +kernel
theorem yd_X9_count : yX9_count.cls ≠ "java/lang/invoke/MethodHandle" ∧ yX9_count.cls ≠ "java/lang/invoke/VarHandle" ∧ (parseMethodDescriptor yX9_count.desc).map (fun d => d.parameters.length) = some 1 ∧ 2 ≤ 21 := by decide +kernel
theorem yd_X10_count : yX10_count.cls ≠ "java/lang/invoke/MethodHandle" ∧ yX10_count.cls ≠ "java/lang/invoke/VarHandle" ∧ (parseMethodDescriptor yX10_count.desc).map (fun d => d.parameters.length) = some 1 ∧ 2 ≤ 21 := by decide +kernel
theorem yd_J0_isLatin1_aae02 : yJ0_isLatin1_aae02.cls ≠ "java/lang/invoke/MethodHandle" ∧ yJ0_isLatin1_aae02.cls ≠ "java/lang/invoke/VarHandle" ∧ (parseMethodDescriptor yJ0_isLatin1_aae02.desc).map (fun d => d.parameters.length) = some 0 ∧ 1 ≤ 21 := by decide +kernel
theorem yd_J1_charAt_3b067 : yJ1_charAt_3b067.cls ≠ "java/lang/invoke/MethodHandle" ∧ yJ1_charAt_3b067.cls ≠ "java/lang/invoke/VarHandle" ∧ (parseMethodDescriptor yJ1_charAt_3b067.desc).map (fun d => d.parameters.length) = some 2 ∧ 2 ≤ 21 := by decide +kernel
theorem yd_J0_indexOf_7cf53 : yJ0_indexOf_7cf53.cls ≠ "java/lang/invoke/MethodHandle" ∧ yJ0_indexOf_7cf53.cls ≠ "java/lang/invoke/VarHandle" ∧ (parseMethodDescriptor yJ0_indexOf_7cf53.desc).map (fun d => d.parameters.length) = some 2 ∧ 3 ≤ 21 := by decide +kernel
theorem yd_J1_indexOf_4cfef : yJ1_indexOf_4cfef.cls ≠ "java/lang/invoke/MethodHandle" ∧ yJ1_indexOf_4cfef.cls ≠ "java/lang/invoke/VarHandle" ∧ (parseMethodDescriptor yJ1_indexOf_4cfef.desc).map (fun d => d.parameters.length) = some 4 ∧ 4 ≤ 21 := by decide +kernel
theorem yd_J0_coder_7d493 : yJ0_coder_7d493.cls ≠ "java/lang/invoke/MethodHandle" ∧ yJ0_coder_7d493.cls ≠ "java/lang/invoke/VarHandle" ∧ (parseMethodDescriptor yJ0_coder_7d493.desc).map (fun d => d.parameters.length) = some 0 ∧ 1 ≤ 21 := by decide +kernel
theorem yd_J0_checkIndex_df160 : yJ0_checkIndex_df160.cls ≠ "java/lang/invoke/MethodHandle" ∧ yJ0_checkIndex_df160.cls ≠ "java/lang/invoke/VarHandle" ∧ (parseMethodDescriptor yJ0_checkIndex_df160.desc).map (fun d => d.parameters.length) = some 2 ∧ 2 ≤ 21 := by decide +kernel
theorem yd_J1_canEncode_9a6ad : yJ1_canEncode_9a6ad.cls ≠ "java/lang/invoke/MethodHandle" ∧ yJ1_canEncode_9a6ad.cls ≠ "java/lang/invoke/VarHandle" ∧ (parseMethodDescriptor yJ1_canEncode_9a6ad.desc).map (fun d => d.parameters.length) = some 1 ∧ 1 ≤ 21 := by decide +kernel
theorem yd_J1_indexOfChar_4cfef : yJ1_indexOfChar_4cfef.cls ≠ "java/lang/invoke/MethodHandle" ∧ yJ1_indexOfChar_4cfef.cls ≠ "java/lang/invoke/VarHandle" ∧ (parseMethodDescriptor yJ1_indexOfChar_4cfef.desc).map (fun d => d.parameters.length) = some 4 ∧ 6 ≤ 21 := by decide +kernel
theorem ok_X9_9 : pz_okIN RX9 9 yX1_init cX1_init 1 0 "LittlePot" := ⟨(pz_f3 w92 w64 w93), yd_X1_init, rfl, (List.mem_of_getElem? (i := 91) (by decide +kernel))⟩
theorem ok_X9_18 : pz_okI RX9 18 yX7_init cX7_init 2 1 := ⟨(pz_f4 w107 w108 w65 w109), yd_X7_init, rfl⟩
theorem ok_X9_36 : pz_okIN RX9 36 yX3_init cX3_init 1 0 "LittlePot" := ⟨(pz_f3 w170 w66 w171), yd_X3_init, rfl, (List.mem_of_getElem? (i := 169) (by decide +kernel))⟩
theorem ok_X9_43 : pz_okIN RX9 43 yX8_init cX8_init 1 0 "LittlePot" := ⟨(pz_f3 w230 w68 w231), yd_X8_init, rfl, (List.mem_of_getElem? (i := 229) (by decide +kernel))⟩
theorem ok_X9_64 : pz_okIN RX9 64 yX4_init cX4_init 1 0 "LittlePot" := ⟨(pz_f3 w246 w69 w247), yd_X4_init, rfl, (List.mem_of_getElem? (i := 245) (by decide +kernel))⟩
theorem ok_X9_65 : pz_okIN RX9 65 yX5_init cX5_init 1 0 "LittlePot" := ⟨(pz_f3 w263 w70 w264), yd_X5_init, rfl, (List.mem_of_getElem? (i := 262) (by decide +kernel))⟩
theorem ok_X9_66 : pz_okS RX9 66 yX0_isKind cX0_isKind 1 (some .boolean) 1 := ⟨(pz_f4 w326 w327 w72 w328), yd_X0_isKind⟩
theorem ok_X9_72 : pz_okS RX9 72 yX9_isCell cX9_isCell 1 (some .boolean) 1 := ⟨(pz_f4 w332 w333 w63 w334), yd_X9_isCell⟩
theorem ok_X9_80 : pz_okV RX9 80 yX7_comes cX7_comes 4 (some .int) 2 := ⟨(pz_f5 w337 w338 w339 w65 w340), yd_X7_comes⟩
theorem ok_X9_85 : pz_okV RX9 85 yX7_hasEater cX7_hasEater 2 (some .boolean) 1 := ⟨(pz_f5 w346 w347 w348 w65 w349), yd_X7_hasEater⟩
theorem ok_X9_100 : pz_okS RX9 100 yX0_eats cX0_eats 2 (some .int) 2 := ⟨(pz_f4 w351 w352 w72 w353), yd_X0_eats⟩
theorem ok_X9_103 : pz_okS RX9 103 yX0_wades cX0_wades 1 (some .int) 1 := ⟨(pz_f4 w354 w355 w72 w356), yd_X0_wades⟩
theorem ok_X9_107 : pz_okS RX9 107 yX0_worth cX0_worth 2 (some .int) 2 := ⟨(pz_f4 w357 w358 w72 w359), yd_X0_worth⟩
theorem ok_X9_110 : pz_okS RX9 110 yX9_within cX9_within 3 (some .boolean) 3 := ⟨(pz_f4 w335 w330 w63 w331), yd_X9_within⟩
theorem ok_X9_114 : pz_okV RX9 114 yX7_level cX7_level 2 (some .int) 1 := ⟨(pz_f5 w370 w371 w372 w65 w373), yd_X7_level⟩
theorem ok_X9_117 : pz_okV RX9 117 yX7_laid cX7_laid 2 (some (.array .int)) 1 := ⟨(pz_f5 w374 w375 w376 w65 w377), yd_X7_laid⟩
theorem ok_X9_124 : pz_okS RX9 124 yX0_isUnder cX0_isUnder 4 (some .boolean) 2 := ⟨(pz_f4 w388 w389 w72 w390), yd_X0_isUnder⟩
theorem ok_X9_148 : pz_okV RX9 148 yX7_draw cX7_draw 1 (some .int) 0 := ⟨(pz_f5 w425 w426 w427 w65 w428), yd_X7_draw⟩
theorem ok_X9_155 : pz_okV RX9 155 yX7_allAte cX7_allAte 3 (some .int) 0 := ⟨(pz_f5 w438 w439 w440 w65 w441), yd_X7_allAte⟩
theorem ok_X9_161 : pz_okV RX9 161 yX7_passes cX7_passes 3 none 1 := ⟨(pz_f5 w442 w443 w444 w65 w445), yd_X7_passes⟩
theorem ok_X9_165 : pz_okV RX9 165 yX7_allParts cX7_allParts 3 (some .int) 0 := ⟨(pz_f5 w509 w510 w511 w65 w512), yd_X7_allParts⟩
theorem ok_X9_168 : pz_okV RX9 168 yX7_wetCells cX7_wetCells 3 (some .int) 0 := ⟨(pz_f5 w513 w514 w515 w65 w516), yd_X7_wetCells⟩
theorem ok_X9_171 : pz_okV RX9 171 yX7_pours cX7_pours 3 (some .int) 0 := ⟨(pz_f5 w517 w451 w452 w65 w453), yd_X7_pours⟩
theorem ok_X9_174 : pz_okV RX9 174 yX8_fewest cX8_fewest 9 (some .int) 4 := ⟨(pz_f5 w522 w523 w524 w68 w525), yd_X8_fewest⟩
theorem ok_X9_178 : pz_okV RX9 178 yX7_becomes cX7_becomes 2 none 1 := ⟨(pz_f5 w532 w533 w534 w65 w535), yd_X7_becomes⟩
theorem ok_X9_182 : pz_okV RX9 182 yX7_pass cX7_pass 2 none 0 := ⟨(pz_f5 w543 w447 w448 w65 w449), yd_X7_pass⟩
theorem ok_X9_190 : pz_okS RX9 190 yX9_isSheet cX9_isSheet 1 (some .boolean) 1 := ⟨(pz_f4 w562 w563 w63 w564), yd_X9_isSheet⟩
theorem ok_X9_193 : pz_okV RX9 193 yX4_isMissing cX4_isMissing 1 (some .boolean) 0 := ⟨(pz_f5 w565 w566 w567 w69 w568), yd_X4_isMissing⟩
theorem ok_X9_198 : pz_okV RX9 198 yX4_differsFrom cX4_differsFrom 4 (some .int) 1 := ⟨(pz_f5 w570 w571 w572 w69 w573), yd_X4_differsFrom⟩
theorem ok_X9_205 : pz_okV RX9 205 yX1_counting cX1_counting 3 (some (.object "LittlePot$Text")) 2 := ⟨(pz_f5 w586 w455 w456 w64 w457), yd_X1_counting⟩
theorem ok_X9_209 : pz_okV RX9 209 yX1_given cX1_given 8 (some .int) 4 := ⟨(pz_f5 w587 w469 w470 w64 w471), yd_X1_given⟩
theorem ok_X9_216 : pz_okV RX9 216 yX3_getsNumber cX3_getsNumber 3 none 1 := ⟨(pz_f5 w596 w597 w598 w66 w599), yd_X3_getsNumber⟩
theorem ok_X9_219 : pz_okV RX9 219 yX3_findsFault cX3_findsFault 2 (some .int) 0 := ⟨(pz_f5 w608 w609 w610 w66 w611), yd_X3_findsFault⟩
theorem ok_X9_226 : pz_okV RX9 226 yX1_takes cX1_takes 4 (some (.object "LittlePot$Text")) 2 := ⟨(pz_f5 w794 w795 w796 w64 w797), yd_X1_takes⟩
theorem ok_X9_230 : pz_okV RX9 230 yX1_numbered cX1_numbered 2 (some (.object "LittlePot$Text")) 1 := ⟨(pz_f5 w803 w464 w465 w64 w466), yd_X1_numbered⟩
theorem ok_X9_242 : pz_okV RX9 242 yX1_last cX1_last 4 (some .int) 2 := ⟨(pz_f5 w808 w459 w460 w64 w461), yd_X1_last⟩
theorem ok_X9_245 : pz_okV RX9 245 yX4_becomes cX4_becomes 4 none 2 := ⟨(pz_f5 w813 w814 w815 w69 w816), yd_X4_becomes⟩
theorem ok_X9_249 : pz_okV RX9 249 yX4_hasPlace cX4_hasPlace 2 (some .boolean) 1 := ⟨(pz_f5 w822 w823 w824 w69 w825), yd_X4_hasPlace⟩
theorem ok_X9_262 : pz_okV RX9 262 yX4_poursInto cX4_poursInto 5 (some .int) 1 := ⟨(pz_f5 w834 w835 w836 w69 w837), yd_X4_poursInto⟩
theorem ok_X9_265 : pz_okV RX9 265 yX4_firstUnlike cX4_firstUnlike 3 (some .int) 1 := ⟨(pz_f5 w845 w846 w847 w69 w848), yd_X4_firstUnlike⟩
theorem ok_X9_268 : pz_okV RX9 268 yX4_hasPlaces cX4_hasPlaces 3 (some .boolean) 2 := ⟨(pz_f5 w853 w854 w855 w69 w856), yd_X4_hasPlaces⟩
theorem ok_X9_277 : pz_okS RX9 277 yX9_isSlot cX9_isSlot 1 (some .boolean) 1 := ⟨(pz_f4 w862 w863 w63 w864), yd_X9_isSlot⟩
theorem ok_X9_293 : pz_okV RX9 293 yX4_becomes_ cX4_becomes_ 2 none 1 := ⟨(pz_f5 w865 w866 w867 w69 w868), yd_X4_becomes_⟩
theorem ok_X9_299 : pz_okV RX9 299 yX9_unlessHeld cX9_unlessHeld 3 (some .int) 2 := ⟨(pz_f5 w874 w876 w20 w63 w877), yd_X9_unlessHeld⟩
theorem ok_X9_302 : pz_okV RX9 302 yX4_isNumber cX4_isNumber 2 (some .boolean) 1 := ⟨(pz_f5 w882 w575 w576 w69 w577), yd_X4_isNumber⟩
theorem ok_X9_311 : pz_okV RX9 311 yX9_waited cX9_waited 4 (some .boolean) 3 := ⟨(pz_f5 w895 w897 w21 w63 w898), yd_X9_waited⟩
theorem ok_X10_71 : pz_okS RX10 71 yX10_isIn cX10_isIn 6 (some .boolean) 3 := ⟨(pz_f4 w1022 w1023 w71 w1024), yd_X10_isIn⟩
theorem ok_X10_78 : pz_okV RX10 78 yX10_parts cX10_parts 2 (some .int) 1 := ⟨(pz_f5 w1055 w1057 w27 w71 w1058), yd_X10_parts⟩
theorem ok_X10_82 : pz_okV RX10 82 yX10_sets cX10_sets 4 none 3 := ⟨(pz_f5 w1035 w1037 w23 w71 w1038), yd_X10_sets⟩
theorem ok_X10_88 : pz_okS RX10 88 yX10_isCell cX10_isCell 1 (some .boolean) 1 := ⟨(pz_f4 w1025 w1026 w71 w1027), yd_X10_isCell⟩
theorem ok_X10_94 : pz_okV RX10 94 yX10_comes cX10_comes 4 none 2 := ⟨(pz_f5 w1031 w1033 w22 w71 w1034), yd_X10_comes⟩
theorem ok_X10_98 : pz_okV RX10 98 yX10_of cX10_of 3 (some .int) 2 := ⟨(pz_f5 w1047 w1049 w25 w71 w1050), yd_X10_of⟩
theorem ok_X10_102 : pz_okV RX10 102 yX10_isEater cX10_isEater 2 (some .boolean) 1 := ⟨(pz_f5 w1043 w1045 w24 w71 w1046), yd_X10_isEater⟩
theorem ok_X10_105 : pz_okV RX10 105 yX10_eats cX10_eats 2 (some .int) 1 := ⟨(pz_f5 w1051 w1053 w26 w71 w1054), yd_X10_eats⟩
theorem ok_X10_108 : pz_okV RX10 108 yX10_wades cX10_wades 2 (some .int) 1 := ⟨(pz_f5 w1059 w1061 w28 w71 w1062), yd_X10_wades⟩
theorem ok_X10_111 : pz_okV RX10 111 yX10_worth cX10_worth 3 (some .int) 1 := ⟨(pz_f5 w1063 w1065 w29 w71 w1066), yd_X10_worth⟩
theorem ok_X10_116 : pz_okV RX10 116 yX10_level cX10_level 2 (some .int) 1 := ⟨(pz_f5 w1072 w1074 w30 w71 w1075), yd_X10_level⟩
theorem ok_X10_125 : pz_okV RX10 125 yX10_becomes cX10_becomes 4 (some .int) 2 := ⟨(pz_f5 w1083 w1085 w31 w71 w1086), yd_X10_becomes⟩
theorem ok_X10_128 : pz_okS RX10 128 yX10_isOf cX10_isOf 2 (some .boolean) 2 := ⟨(pz_f4 w1091 w1092 w71 w1093), yd_X10_isOf⟩
theorem ok_X10_136 : pz_okS RX10 136 yX10_within cX10_within 2 (some .int) 2 := ⟨(pz_f4 w1113 w1114 w71 w1115), yd_X10_within⟩
theorem ok_X10_139 : pz_okS RX10 139 yX10_mostRule cX10_mostRule 1 (some .int) 1 := ⟨(pz_f4 w1120 w1121 w71 w1122), yd_X10_mostRule⟩
theorem ok_X10_144 : pz_okV RX10 144 yX10_drawn cX10_drawn 1 (some .int) 0 := ⟨(pz_f5 w1128 w1130 w32 w71 w1131), yd_X10_drawn⟩
theorem ok_X10_148 : pz_okV RX10 148 yX10_counts cX10_counts 4 (some .int) 1 := ⟨(pz_f5 w1150 w1152 w35 w71 w1153), yd_X10_counts⟩
theorem ok_X10_151 : pz_okV RX10 151 yX10_worked cX10_worked 6 (some .int) 1 := ⟨(pz_f5 w1158 w1160 w37 w71 w1161), yd_X10_worked⟩
theorem ok_X10_154 : pz_okS RX10 154 yX10_beside cX10_beside 2 (some .int) 2 := ⟨(pz_f4 w1169 w1170 w71 w1171), yd_X10_beside⟩
theorem ok_X10_157 : pz_okV RX10 157 yX10_pours cX10_pours 2 (some .int) 0 := ⟨(pz_f5 w1146 w1148 w34 w71 w1149), yd_X10_pours⟩
theorem ok_X10_160 : pz_okV RX10 160 yX10_flows cX10_flows 5 none 1 := ⟨(pz_f5 w1165 w1167 w38 w71 w1168), yd_X10_flows⟩
theorem ok_X10_164 : pz_okV RX10 164 yX10_dines cX10_dines 8 (some .int) 1 := ⟨(pz_f5 w1172 w1174 w39 w71 w1175), yd_X10_dines⟩
theorem ok_X10_167 : pz_okV RX10 167 yX10_goesOn cX10_goesOn 3 (some .int) 0 := ⟨(pz_f5 w1142 w1144 w33 w71 w1145), yd_X10_goesOn⟩
theorem ok_X10_172 : pz_okV RX10 172 yX10_allParts cX10_allParts 3 (some .int) 0 := ⟨(pz_f5 w1180 w1182 w40 w71 w1183), yd_X10_allParts⟩
theorem ok_X10_175 : pz_okV RX10 175 yX10_allAte cX10_allAte 3 (some .int) 0 := ⟨(pz_f5 w1184 w1186 w41 w71 w1187), yd_X10_allAte⟩
theorem ok_X10_178 : pz_okV RX10 178 yX10_manyWet cX10_manyWet 3 (some .int) 0 := ⟨(pz_f5 w1188 w1190 w42 w71 w1191), yd_X10_manyWet⟩
theorem ok_X10_183 : pz_okS RX10 183 yX10_orNone cX10_orNone 1 (some .int) 1 := ⟨(pz_f4 w1197 w1198 w71 w1199), yd_X10_orNone⟩
theorem ok_X10_188 : pz_okV RX10 188 yX10_laysBy cX10_laysBy 2 none 0 := ⟨(pz_f5 w1206 w1208 w43 w71 w1209), yd_X10_laysBy⟩
theorem ok_X10_191 : pz_okV RX10 191 yX10_goesOnMany cX10_goesOnMany 4 none 1 := ⟨(pz_f5 w1210 w1212 w44 w71 w1213), yd_X10_goesOnMany⟩
theorem ok_X10_194 : pz_okV RX10 194 yX10_laysBack cX10_laysBack 2 none 0 := ⟨(pz_f5 w1214 w1216 w45 w71 w1217), yd_X10_laysBack⟩
theorem ok_X10_220 : pz_okV RX10 220 yX10_isLetter cX10_isLetter 2 (some .boolean) 1 := ⟨(pz_f5 w1263 w1265 w48 w71 w1266), yd_X10_isLetter⟩
theorem ok_X10_226 : pz_okV RX10 226 yX10_isDigit cX10_isDigit 2 (some .boolean) 1 := ⟨(pz_f5 w1269 w1271 w49 w71 w1272), yd_X10_isDigit⟩
theorem ok_X10_232 : pz_okV RX10 232 yX10_isWordAt cX10_isWordAt 6 (some .boolean) 4 := ⟨(pz_f5 w1279 w1281 w51 w71 w1282), yd_X10_isWordAt⟩
theorem ok_X10_242 : pz_okV RX10 242 yX10_both cX10_both 2 (some .boolean) 1 := ⟨(pz_f5 w1287 w1289 w53 w71 w1290), yd_X10_both⟩
theorem ok_X10_245 : pz_okV RX10 245 yX10_isSign cX10_isSign 2 (some .boolean) 1 := ⟨(pz_f5 w1314 w1316 w59 w71 w1317), yd_X10_isSign⟩
theorem ok_X10_248 : pz_okV RX10 248 yX10_nextToken cX10_nextToken 3 none 0 := ⟨(pz_f5 w1259 w1261 w47 w71 w1262), yd_X10_nextToken⟩
theorem ok_X10_251 : pz_okV RX10 251 yX10_step cX10_step 3 none 2 := ⟨(pz_f5 w1307 w1309 w58 w71 w1310), yd_X10_step⟩
theorem ok_X10_254 : pz_okV RX10 254 yX10_test cX10_test 3 (some .boolean) 1 := ⟨(pz_f5 w1291 w1293 w54 w71 w1294), yd_X10_test⟩
theorem ok_X10_257 : pz_okV RX10 257 yX10_sum cX10_sum 3 (some .boolean) 1 := ⟨(pz_f5 w1295 w1297 w55 w71 w1298), yd_X10_sum⟩
theorem ok_X10_260 : pz_okV RX10 260 yX10_term cX10_term 3 (some .boolean) 1 := ⟨(pz_f5 w1299 w1301 w56 w71 w1302), yd_X10_term⟩
theorem ok_X10_263 : pz_okV RX10 263 yX10_part0 cX10_part0 2 (some .boolean) 1 := ⟨(pz_f5 w1303 w1305 w57 w71 w1306), yd_X10_part0⟩
theorem ok_X10_269 : pz_okS RX10 269 yX10_isName cX10_isName 2 (some .boolean) 2 := ⟨(pz_f4 w1311 w1312 w71 w1313), yd_X10_isName⟩
theorem ok_X10_278 : pz_okV RX10 278 yX10_either cX10_either 2 (some .boolean) 1 := ⟨(pz_f5 w1283 w1285 w52 w71 w1286), yd_X10_either⟩
theorem ok_X10_281 : pz_okV RX10 281 yX10_textAt cX10_textAt 2 (some .int) 1 := ⟨(pz_f5 w1154 w1156 w36 w71 w1157), yd_X10_textAt⟩
theorem ok_X10_284 : pz_okV RX10 284 yX10_key cX10_key 1 (some .int) 0 := ⟨(pz_f5 w1275 w1277 w50 w71 w1278), yd_X10_key⟩
theorem ok_X10_287 : pz_okV RX10 287 yX10_parse cX10_parse 3 (some .int) 0 := ⟨(pz_f5 w1255 w1257 w46 w71 w1258), yd_X10_parse⟩
theorem ok_X10_290 : pz_okV RX10 290 yX10_isText cX10_isText 2 (some .boolean) 1 := ⟨(pz_f5 w1322 w1324 w60 w71 w1325), yd_X10_isText⟩
theorem ok_X10_293 : pz_okS RX10 293 yX10_joined cX10_joined 3 (some .int) 3 := ⟨(pz_f4 w1162 w1163 w71 w1164), yd_X10_joined⟩
theorem ok_X10_297 : pz_okS RX10 297 yX10_isSheet cX10_isSheet 1 (some .boolean) 1 := ⟨(pz_f4 w1334 w1335 w71 w1336), yd_X10_isSheet⟩
theorem ok_X10_309 : pz_okS RX10 309 yX10_off cX10_off 2 (some .int) 2 := ⟨(pz_f4 w1359 w1360 w71 w1361), yd_X10_off⟩
theorem ok_X10_314 : pz_okS RX10 314 yX10_isSlot cX10_isSlot 1 (some .boolean) 1 := ⟨(pz_f4 w1370 w1371 w71 w1372), yd_X10_isSlot⟩
theorem ok_X10_326 : pz_okV RX10 326 yX10_setAside cX10_setAside 4 none 2 := ⟨(pz_f5 w1395 w1397 w61 w71 w1398), yd_X10_setAside⟩
theorem ok_X0_9 : pz_okSN RX0 9 yX9_within cX9_within 3 (some .boolean) 3 "LittlePot" := ⟨(pz_f3 w330 w63 w331), yd_X9_within, (List.mem_of_getElem? (i := 329) (by decide +kernel))⟩
theorem ok_X0_15 : pz_okS RX0 15 yX0_isKind cX0_isKind 1 (some .boolean) 1 := ⟨(pz_f4 w391 w327 w72 w328), yd_X0_isKind⟩
theorem ok_X0_23 : pz_okS RX0 23 yX0_gluttonWorth cX0_gluttonWorth 1 (some .int) 1 := ⟨(pz_f4 w360 w361 w72 w362), yd_X0_gluttonWorth⟩
theorem ok_X0_27 : pz_okS RX0 27 yX0_childWorth cX0_childWorth 1 (some .int) 1 := ⟨(pz_f4 w363 w364 w72 w365), yd_X0_childWorth⟩
theorem ok_X1_21 : pz_okSN RX1 21 yX9_within cX9_within 3 (some .boolean) 3 "LittlePot" := ⟨(pz_f3 w330 w63 w331), yd_X9_within, (List.mem_of_getElem? (i := 467) (by decide +kernel))⟩
theorem ok_X1_25 : pz_okIN RX1 25 yX6_init cX6_init 1 0 "LittlePot" := ⟨(pz_f3 w176 w67 w177), yd_X6_init, rfl, (List.mem_of_getElem? (i := 798) (by decide +kernel))⟩
theorem ok_X1_36 : pz_okV RX1 36 yX1_last cX1_last 4 (some .int) 2 := ⟨(pz_f5 w458 w459 w460 w64 w461), yd_X1_last⟩
theorem ok_X1_39 : pz_okV RX1 39 yX1_numbered cX1_numbered 2 (some (.object "LittlePot$Text")) 1 := ⟨(pz_f5 w463 w464 w465 w64 w466), yd_X1_numbered⟩
theorem ok_X1_49 : pz_okS RX1 49 yX1_joined cX1_joined 3 (some .int) 3 := ⟨(pz_f4 w472 w473 w64 w474), yd_X1_joined⟩
theorem ok_X3_11 : pz_okIN RX3 11 yX6_init cX6_init 1 0 "LittlePot" := ⟨(pz_f3 w176 w67 w177), yd_X6_init, rfl, (List.mem_of_getElem? (i := 175) (by decide +kernel))⟩
theorem ok_X3_41 : pz_okV RX3 41 yX3_goesOn cX3_goesOn 3 none 0 := ⟨(pz_f5 w612 w614 w4 w66 w615), yd_X3_goesOn⟩
theorem ok_X3_44 : pz_okV RX3 44 yX3_keyHere cX3_keyHere 1 (some .int) 0 := ⟨(pz_f5 w625 w627 w7 w66 w628), yd_X3_keyHere⟩
theorem ok_X3_48 : pz_okV RX3 48 yX6_begins cX6_begins 2 none 1 := ⟨(pz_f5 w684 w685 w686 w67 w687), yd_X6_begins⟩
theorem ok_X3_52 : pz_okV RX3 52 yX3_readsOr cX3_readsOr 3 (some .boolean) 0 := ⟨(pz_f5 w688 w690 w9 w66 w691), yd_X3_readsOr⟩
theorem ok_X3_56 : pz_okV RX3 56 yX3_isLetter cX3_isLetter 2 (some .boolean) 1 := ⟨(pz_f5 w616 w618 w5 w66 w619), yd_X3_isLetter⟩
theorem ok_X3_60 : pz_okV RX3 60 yX3_isDigit cX3_isDigit 2 (some .boolean) 1 := ⟨(pz_f5 w621 w623 w6 w66 w624), yd_X3_isDigit⟩
theorem ok_X3_63 : pz_okSN RX3 63 yX9_within cX9_within 3 (some .boolean) 3 "LittlePot" := ⟨(pz_f3 w330 w63 w331), yd_X9_within, (List.mem_of_getElem? (i := 620) (by decide +kernel))⟩
theorem ok_X3_69 : pz_okV RX3 69 yX3_isWord cX3_isWord 3 (some .boolean) 1 := ⟨(pz_f5 w630 w632 w8 w66 w633), yd_X3_isWord⟩
theorem ok_X3_79 : pz_okV RX3 79 yJ0_length_8abf5 cJ0_length_8abf5 1 (some .int) 0 := ⟨(pz_f5 w634 w635 w636 w76 w637), yd_J0_length_8abf5⟩
theorem ok_X3_83 : pz_okV RX3 83 yJ0_charAt_5068e cJ0_charAt_5068e 2 (some .char) 1 := ⟨(pz_f5 w644 w645 w646 w76 w647), yd_J0_charAt_5068e⟩
theorem ok_X3_96 : pz_okV RX3 96 yJ0_indexOf_0f7a4 cJ0_indexOf_0f7a4 2 (some .int) 1 := ⟨(pz_f5 w735 w736 w737 w76 w738), yd_J0_indexOf_0f7a4⟩
theorem ok_X3_100 : pz_okV RX3 100 yX3_readsAnd cX3_readsAnd 3 (some .boolean) 0 := ⟨(pz_f5 w692 w694 w10 w66 w695), yd_X3_readsAnd⟩
theorem ok_X3_103 : pz_okV RX3 103 yX3_isSign cX3_isSign 2 (some .boolean) 1 := ⟨(pz_f5 w712 w714 w15 w66 w715), yd_X3_isSign⟩
theorem ok_X3_107 : pz_okV RX3 107 yX6_adds cX6_adds 2 none 1 := ⟨(pz_f5 w720 w721 w722 w67 w723), yd_X6_adds⟩
theorem ok_X3_110 : pz_okV RX3 110 yX3_readsTest cX3_readsTest 3 (some .boolean) 0 := ⟨(pz_f5 w696 w698 w11 w66 w699), yd_X3_readsTest⟩
theorem ok_X3_113 : pz_okV RX3 113 yX3_readsSum cX3_readsSum 4 (some .boolean) 0 := ⟨(pz_f5 w700 w702 w12 w66 w703), yd_X3_readsSum⟩
theorem ok_X3_116 : pz_okV RX3 116 yX3_readsTerm cX3_readsTerm 4 (some .boolean) 0 := ⟨(pz_f5 w704 w706 w13 w66 w707), yd_X3_readsTerm⟩
theorem ok_X3_119 : pz_okV RX3 119 yX3_readsPiece cX3_readsPiece 2 (some .boolean) 0 := ⟨(pz_f5 w708 w710 w14 w66 w711), yd_X3_readsPiece⟩
theorem ok_X3_122 : pz_okV RX3 122 yX3_readsNot cX3_readsNot 2 (some .boolean) 0 := ⟨(pz_f5 w716 w718 w16 w66 w719), yd_X3_readsNot⟩
theorem ok_X3_125 : pz_okV RX3 125 yX3_readsParen cX3_readsParen 2 (some .boolean) 0 := ⟨(pz_f5 w724 w726 w17 w66 w727), yd_X3_readsParen⟩
theorem ok_X3_128 : pz_okV RX3 128 yX3_nameHere cX3_nameHere 2 (some .int) 0 := ⟨(pz_f5 w728 w730 w18 w66 w731), yd_X3_nameHere⟩
theorem ok_X3_131 : pz_okV RX3 131 yX3_numberHere cX3_numberHere 3 (some .int) 0 := ⟨(pz_f5 w790 w792 w19 w66 w793), yd_X3_numberHere⟩
theorem ok_X4_28 : pz_okSN RX4 28 yX9_within cX9_within 3 (some .boolean) 3 "LittlePot" := ⟨(pz_f3 w330 w63 w331), yd_X9_within, (List.mem_of_getElem? (i := 826) (by decide +kernel))⟩
theorem ok_X4_33 : pz_okV RX4 33 yX4_isNumber cX4_isNumber 2 (some .boolean) 1 := ⟨(pz_f5 w574 w575 w576 w69 w577), yd_X4_isNumber⟩
theorem ok_X5_9 : pz_okIN RX5 9 yX4_init cX4_init 1 0 "LittlePot" := ⟨(pz_f3 w246 w69 w247), yd_X4_init, rfl, (List.mem_of_getElem? (i := 267) (by decide +kernel))⟩
theorem ok_X7_63 : pz_okSN RX7 63 yX9_within cX9_within 3 (some .boolean) 3 "LittlePot" := ⟨(pz_f3 w330 w63 w331), yd_X9_within, (List.mem_of_getElem? (i := 350) (by decide +kernel))⟩
theorem ok_X7_69 : pz_okV RX7 69 yX1_counting cX1_counting 3 (some (.object "LittlePot$Text")) 2 := ⟨(pz_f5 w454 w455 w456 w64 w457), yd_X1_counting⟩
theorem ok_X7_73 : pz_okV RX7 73 yX1_given cX1_given 8 (some .int) 4 := ⟨(pz_f5 w468 w469 w470 w64 w471), yd_X1_given⟩
theorem ok_X7_87 : pz_okV RX7 87 yX7_pass cX7_pass 2 none 0 := ⟨(pz_f5 w446 w447 w448 w65 w449), yd_X7_pass⟩
theorem ok_X7_90 : pz_okV RX7 90 yX7_pours cX7_pours 3 (some .int) 0 := ⟨(pz_f5 w450 w451 w452 w65 w453), yd_X7_pours⟩
theorem ok_X7_94 : pz_okV RX7 94 yX7_flows cX7_flows 6 none 1 := ⟨(pz_f5 w479 w481 w0 w65 w482), yd_X7_flows⟩
theorem ok_X7_98 : pz_okV RX7 98 yX7_feasts cX7_feasts 4 none 1 := ⟨(pz_f5 w490 w492 w1 w65 w493), yd_X7_feasts⟩
theorem ok_X7_101 : pz_okV RX7 101 yX7_miceEat cX7_miceEat 2 none 0 := ⟨(pz_f5 w500 w502 w3 w65 w503), yd_X7_miceEat⟩
theorem ok_X7_107 : pz_okS RX7 107 yX2_beside cX2_beside 2 (some .int) 2 := ⟨(pz_f4 w484 w485 w74 w486), yd_X2_beside⟩
theorem ok_X7_110 : pz_okV RX7 110 yX7_level cX7_level 2 (some .int) 1 := ⟨(pz_f5 w489 w371 w372 w65 w373), yd_X7_level⟩
theorem ok_X7_114 : pz_okS RX7 114 yX0_eats cX0_eats 2 (some .int) 2 := ⟨(pz_f4 w494 w352 w72 w353), yd_X0_eats⟩
theorem ok_X7_119 : pz_okS RX7 119 yX0_wades cX0_wades 1 (some .int) 1 := ⟨(pz_f4 w495 w355 w72 w356), yd_X0_wades⟩
theorem ok_X7_122 : pz_okV RX7 122 yX7_fullestBeside cX7_fullestBeside 7 (some .int) 2 := ⟨(pz_f5 w496 w498 w2 w65 w499), yd_X7_fullestBeside⟩
theorem ok_X7_125 : pz_okV RX7 125 yX7_draw cX7_draw 1 (some .int) 0 := ⟨(pz_f5 w504 w426 w427 w65 w428), yd_X7_draw⟩
theorem ok_X8_21 : pz_okS RX8 21 yX2_beside cX2_beside 2 (some .int) 2 := ⟨(pz_f4 w527 w485 w74 w486), yd_X2_beside⟩
theorem ok_L_9 : pz_okI RL 9 yX9_init cX9_init 2 0 := ⟨(pz_f4 w83 w84 w63 w85), yd_X9_init, rfl⟩
theorem ok_L_12 : pz_okI RL 12 yX10_init cX10_init 2 0 := ⟨(pz_f4 w913 w914 w71 w915), yd_X10_init, rfl⟩
theorem ok_L_13 : pz_okV RL 13 yX9_eater cX9_eater 3 (some .int) 2 := ⟨(pz_f5 w322 w323 w324 w63 w325), yd_X9_eater⟩
theorem ok_L_17 : pz_okV RL 17 yX10_eater cX10_eater 3 (some .int) 2 := ⟨(pz_f5 w1017 w1018 w1019 w71 w1020), yd_X10_eater⟩
theorem ok_L_18 : pz_okV RL 18 yX9_told cX9_told 4 (some .int) 2 := ⟨(pz_f5 w342 w343 w344 w63 w345), yd_X9_told⟩
theorem ok_L_21 : pz_okV RL 21 yX10_told cX10_told 3 (some .int) 2 := ⟨(pz_f5 w1039 w1040 w1041 w71 w1042), yd_X10_told⟩
theorem ok_L_22 : pz_okV RL 22 yX9_cell cX9_cell 3 (some .int) 2 := ⟨(pz_f5 w366 w367 w368 w63 w369), yd_X9_cell⟩
theorem ok_L_25 : pz_okV RL 25 yX10_cell cX10_cell 3 (some .int) 2 := ⟨(pz_f5 w1067 w1068 w1069 w71 w1070), yd_X10_cell⟩
theorem ok_L_26 : pz_okV RL 26 yX9_lays cX9_lays 6 (some .int) 3 := ⟨(pz_f5 w378 w379 w380 w63 w381), yd_X9_lays⟩
theorem ok_L_30 : pz_okV RL 30 yX10_lays cX10_lays 4 (some .int) 3 := ⟨(pz_f5 w1076 w1077 w1078 w71 w1079), yd_X10_lays⟩
theorem ok_L_31 : pz_okV RL 31 yX9_as cX9_as 3 (some .int) 2 := ⟨(pz_f5 w384 w385 w386 w63 w387), yd_X9_as⟩
theorem ok_L_34 : pz_okV RL 34 yX10_as cX10_as 3 (some .int) 2 := ⟨(pz_f5 w1087 w1088 w1089 w71 w1090), yd_X10_as⟩
theorem ok_L_35 : pz_okV RL 35 yX9_turns cX9_turns 4 (some .int) 2 := ⟨(pz_f5 w395 w396 w397 w63 w398), yd_X9_turns⟩
theorem ok_L_38 : pz_okV RL 38 yX10_turns cX10_turns 3 (some .int) 2 := ⟨(pz_f5 w1095 w1096 w1097 w71 w1098), yd_X10_turns⟩
theorem ok_L_39 : pz_okV RL 39 yX9_sends cX9_sends 4 (some .int) 2 := ⟨(pz_f5 w399 w400 w401 w63 w402), yd_X9_sends⟩
theorem ok_L_42 : pz_okV RL 42 yX10_sends cX10_sends 3 (some .int) 2 := ⟨(pz_f5 w1099 w1100 w1101 w71 w1102), yd_X10_sends⟩
theorem ok_L_43 : pz_okV RL 43 yX9_cook cX9_cook 3 (some .int) 1 := ⟨(pz_f5 w403 w404 w405 w63 w406), yd_X9_cook⟩
theorem ok_L_47 : pz_okV RL 47 yX10_cook cX10_cook 2 (some .int) 1 := ⟨(pz_f5 w1103 w1104 w1105 w71 w1106), yd_X10_cook⟩
theorem ok_L_48 : pz_okV RL 48 yX9_say cX9_say 3 (some .int) 1 := ⟨(pz_f5 w407 w408 w409 w63 w410), yd_X9_say⟩
theorem ok_L_51 : pz_okV RL 51 yX10_say cX10_say 3 (some .int) 1 := ⟨(pz_f5 w1107 w1108 w1109 w71 w1110), yd_X10_say⟩
theorem ok_L_52 : pz_okV RL 52 yX9_rule cX9_rule 4 (some .int) 2 := ⟨(pz_f5 w417 w418 w419 w63 w420), yd_X9_rule⟩
theorem ok_L_55 : pz_okV RL 55 yX10_rule cX10_rule 3 (some .int) 2 := ⟨(pz_f5 w1116 w1117 w1118 w71 w1119), yd_X10_rule⟩
theorem ok_L_56 : pz_okV RL 56 yX9_deal cX9_deal 5 (some .int) 1 := ⟨(pz_f5 w421 w422 w423 w63 w424), yd_X9_deal⟩
theorem ok_L_59 : pz_okV RL 59 yX10_deal cX10_deal 4 (some .int) 1 := ⟨(pz_f5 w1123 w1124 w1125 w71 w1126), yd_X10_deal⟩
theorem ok_L_60 : pz_okV RL 60 yX9_seed cX9_seed 3 (some .int) 1 := ⟨(pz_f5 w430 w431 w432 w63 w433), yd_X9_seed⟩
theorem ok_L_63 : pz_okV RL 63 yX10_seed cX10_seed 2 (some .int) 1 := ⟨(pz_f5 w1133 w1134 w1135 w71 w1136), yd_X10_seed⟩
theorem ok_L_64 : pz_okV RL 64 yX9_minutes cX9_minutes 3 (some .int) 1 := ⟨(pz_f5 w434 w435 w436 w63 w437), yd_X9_minutes⟩
theorem ok_L_67 : pz_okV RL 67 yX10_minutes cX10_minutes 4 (some .int) 1 := ⟨(pz_f5 w1137 w1138 w1139 w71 w1140), yd_X10_minutes⟩
theorem ok_L_68 : pz_okV RL 68 yX9_town cX9_town 2 (some .int) 1 := ⟨(pz_f5 w505 w506 w507 w63 w508), yd_X9_town⟩
theorem ok_L_71 : pz_okV RL 71 yX10_town cX10_town 2 (some .int) 1 := ⟨(pz_f5 w1176 w1177 w1178 w71 w1179), yd_X10_town⟩
theorem ok_L_72 : pz_okV RL 72 yX9_path cX9_path 4 (some .int) 3 := ⟨(pz_f5 w518 w519 w520 w63 w521), yd_X9_path⟩
theorem ok_L_75 : pz_okV RL 75 yX10_path cX10_path 8 (some .int) 3 := ⟨(pz_f5 w1192 w1193 w1194 w71 w1195), yd_X10_path⟩
theorem ok_L_76 : pz_okV RL 76 yX9_behind cX9_behind 3 (some .int) 2 := ⟨(pz_f5 w528 w529 w530 w63 w531), yd_X9_behind⟩
theorem ok_L_79 : pz_okV RL 79 yX10_behind cX10_behind 4 (some .int) 2 := ⟨(pz_f5 w1201 w1202 w1203 w71 w1204), yd_X10_behind⟩
theorem ok_L_80 : pz_okV RL 80 yX9_wets cX9_wets 3 (some .int) 1 := ⟨(pz_f5 w539 w540 w541 w63 w542), yd_X9_wets⟩
theorem ok_L_83 : pz_okV RL 83 yX10_wets cX10_wets 4 (some .int) 1 := ⟨(pz_f5 w1218 w1219 w1220 w71 w1221), yd_X10_wets⟩
theorem ok_L_84 : pz_okV RL 84 yX9_deepest cX9_deepest 5 (some .int) 2 := ⟨(pz_f5 w545 w546 w547 w63 w548), yd_X9_deepest⟩
theorem ok_L_87 : pz_okV RL 87 yX10_deepest cX10_deepest 5 (some .int) 2 := ⟨(pz_f5 w1222 w1223 w1224 w71 w1225), yd_X10_deepest⟩
theorem ok_L_88 : pz_okV RL 88 yX9_walled cX9_walled 7 (some .int) 3 := ⟨(pz_f5 w549 w550 w551 w63 w552), yd_X9_walled⟩
theorem ok_L_91 : pz_okV RL 91 yX10_walled cX10_walled 8 (some .int) 3 := ⟨(pz_f5 w1226 w1227 w1228 w71 w1229), yd_X10_walled⟩
theorem ok_L_92 : pz_okV RL 92 yX9_enough cX9_enough 5 (some .int) 2 := ⟨(pz_f5 w554 w555 w556 w63 w557), yd_X9_enough⟩
theorem ok_L_95 : pz_okV RL 95 yX10_enough cX10_enough 5 (some .int) 2 := ⟨(pz_f5 w1230 w1231 w1232 w71 w1233), yd_X10_enough⟩
theorem ok_L_96 : pz_okV RL 96 yX9_stood cX9_stood 8 (some .int) 3 := ⟨(pz_f5 w558 w559 w560 w63 w561), yd_X9_stood⟩
theorem ok_L_99 : pz_okV RL 99 yX10_stood cX10_stood 10 (some .int) 3 := ⟨(pz_f5 w1355 w1356 w1357 w71 w1358), yd_X10_stood⟩
theorem ok_L_100 : pz_okV RL 100 yX9_fee cX9_fee 3 (some .int) 0 := ⟨(pz_f5 w582 w583 w584 w63 w585), yd_X9_fee⟩
theorem ok_L_104 : pz_okV RL 104 yX10_fee cX10_fee 2 (some .int) 0 := ⟨(pz_f5 w1235 w1236 w1237 w71 w1238), yd_X10_fee⟩
theorem ok_L_105 : pz_okV RL 105 yX9_fine cX9_fine 4 (some .int) 1 := ⟨(pz_f5 w588 w589 w590 w63 w591), yd_X9_fine⟩
theorem ok_L_108 : pz_okV RL 108 yX10_fine cX10_fine 3 (some .int) 1 := ⟨(pz_f5 w1239 w1240 w1241 w71 w1242), yd_X10_fine⟩
theorem ok_L_109 : pz_okV RL 109 yX9_feed cX9_feed 4 (some .int) 3 := ⟨(pz_f5 w592 w593 w594 w63 w595), yd_X9_feed⟩
theorem ok_L_112 : pz_okV RL 112 yX10_feed cX10_feed 6 (some .int) 3 := ⟨(pz_f5 w1243 w1244 w1245 w71 w1246), yd_X10_feed⟩
theorem ok_L_113 : pz_okV RL 113 yX9_trim cX9_trim 2 (some .int) 1 := ⟨(pz_f5 w600 w601 w602 w63 w603), yd_X9_trim⟩
theorem ok_L_116 : pz_okV RL 116 yX10_trim cX10_trim 2 (some .int) 1 := ⟨(pz_f5 w1247 w1248 w1249 w71 w1250), yd_X10_trim⟩
theorem ok_L_117 : pz_okV RL 117 yX9_text cX9_text 2 (some .int) 0 := ⟨(pz_f5 w604 w605 w606 w63 w607), yd_X9_text⟩
theorem ok_L_120 : pz_okV RL 120 yX10_text cX10_text 3 (some .int) 0 := ⟨(pz_f5 w1251 w1252 w1253 w71 w1254), yd_X10_text⟩
theorem ok_L_121 : pz_okV RL 121 yX9_textTold cX9_textTold 4 (some .int) 2 := ⟨(pz_f5 w799 w800 w801 w63 w802), yd_X9_textTold⟩
theorem ok_L_124 : pz_okV RL 124 yX10_textTold cX10_textTold 3 (some .int) 2 := ⟨(pz_f5 w1318 w1319 w1320 w71 w1321), yd_X10_textTold⟩
theorem ok_L_125 : pz_okV RL 125 yX9_why cX9_why 3 (some .int) 1 := ⟨(pz_f5 w804 w805 w806 w63 w807), yd_X9_why⟩
theorem ok_L_128 : pz_okV RL 128 yX10_why cX10_why 2 (some .int) 1 := ⟨(pz_f5 w1326 w1327 w1328 w71 w1329), yd_X10_why⟩
theorem ok_L_129 : pz_okV RL 129 yX9_sheet cX9_sheet 4 (some .int) 3 := ⟨(pz_f5 w809 w810 w811 w63 w812), yd_X9_sheet⟩
theorem ok_L_132 : pz_okV RL 132 yX10_sheet cX10_sheet 5 (some .int) 3 := ⟨(pz_f5 w1330 w1331 w1332 w71 w1333), yd_X10_sheet⟩
theorem ok_L_133 : pz_okV RL 133 yX9_mark cX9_mark 5 (some .int) 3 := ⟨(pz_f5 w818 w819 w820 w63 w821), yd_X9_mark⟩
theorem ok_L_136 : pz_okV RL 136 yX10_mark cX10_mark 4 (some .int) 3 := ⟨(pz_f5 w1339 w1340 w1341 w71 w1342), yd_X10_mark⟩
theorem ok_L_137 : pz_okV RL 137 yX9_pour cX9_pour 2 (some .int) 1 := ⟨(pz_f5 w830 w831 w832 w63 w833), yd_X9_pour⟩
theorem ok_L_140 : pz_okV RL 140 yX10_pour cX10_pour 6 (some .int) 1 := ⟨(pz_f5 w1347 w1348 w1349 w71 w1350), yd_X10_pour⟩
theorem ok_L_141 : pz_okV RL 141 yX9_reads cX9_reads 2 (some .int) 1 := ⟨(pz_f5 w841 w842 w843 w63 w844), yd_X9_reads⟩
theorem ok_L_144 : pz_okV RL 144 yX10_reads cX10_reads 4 (some .int) 1 := ⟨(pz_f5 w1351 w1352 w1353 w71 w1354), yd_X10_reads⟩
theorem ok_L_145 : pz_okV RL 145 yX9_copy cX9_copy 8 (some .int) 5 := ⟨(pz_f5 w849 w850 w851 w63 w852), yd_X9_copy⟩
theorem ok_L_149 : pz_okV RL 149 yX10_copy cX10_copy 7 (some .int) 5 := ⟨(pz_f5 w1362 w1363 w1364 w71 w1365), yd_X10_copy⟩
theorem ok_L_150 : pz_okV RL 150 yX9_lay cX9_lay 6 (some .int) 3 := ⟨(pz_f5 w858 w859 w860 w63 w861), yd_X9_lay⟩
theorem ok_L_153 : pz_okV RL 153 yX10_lay cX10_lay 7 (some .int) 3 := ⟨(pz_f5 w1366 w1367 w1368 w71 w1369), yd_X10_lay⟩
theorem ok_L_154 : pz_okV RL 154 yX9_ask cX9_ask 5 (some .int) 2 := ⟨(pz_f5 w870 w871 w872 w63 w873), yd_X9_ask⟩
theorem ok_L_157 : pz_okV RL 157 yX10_ask cX10_ask 3 (some .int) 2 := ⟨(pz_f5 w1374 w1375 w1376 w71 w1377), yd_X10_ask⟩
theorem ok_L_158 : pz_okV RL 158 yX9_item cX9_item 5 (some .int) 2 := ⟨(pz_f5 w878 w879 w880 w63 w881), yd_X9_item⟩
theorem ok_L_161 : pz_okV RL 161 yX10_item cX10_item 4 (some .int) 2 := ⟨(pz_f5 w1378 w1379 w1380 w71 w1381), yd_X10_item⟩
theorem ok_L_162 : pz_okV RL 162 yX9_rest cX9_rest 4 (some .int) 2 := ⟨(pz_f5 w883 w884 w885 w63 w886), yd_X9_rest⟩
theorem ok_L_165 : pz_okV RL 165 yX10_rest cX10_rest 3 (some .int) 2 := ⟨(pz_f5 w1382 w1383 w1384 w71 w1385), yd_X10_rest⟩
theorem ok_L_166 : pz_okV RL 166 yX9_tell cX9_tell 2 (some .int) 1 := ⟨(pz_f5 w887 w888 w889 w63 w890), yd_X9_tell⟩
theorem ok_L_169 : pz_okV RL 169 yX10_tell cX10_tell 2 (some .int) 1 := ⟨(pz_f5 w1386 w1387 w1388 w71 w1389), yd_X10_tell⟩
theorem ok_L_170 : pz_okV RL 170 yX9_check cX9_check 5 (some .int) 1 := ⟨(pz_f5 w891 w892 w893 w63 w894), yd_X9_check⟩
theorem ok_L_173 : pz_okV RL 173 yX10_check cX10_check 5 (some .int) 1 := ⟨(pz_f5 w1390 w1391 w1392 w71 w1393), yd_X10_check⟩
theorem ok_L_174 : pz_okV RL 174 yX9_keep cX9_keep 1 (some .int) 0 := ⟨(pz_f5 w899 w900 w901 w63 w902), yd_X9_keep⟩
theorem ok_L_177 : pz_okV RL 177 yX10_keep cX10_keep 1 (some .int) 0 := ⟨(pz_f5 w1399 w1400 w1401 w71 w1402), yd_X10_keep⟩
theorem ok_L_178 : pz_okV RL 178 yX9_back cX9_back 1 (some .int) 0 := ⟨(pz_f5 w903 w904 w905 w63 w906), yd_X9_back⟩
theorem ok_L_181 : pz_okV RL 181 yX10_back cX10_back 1 (some .int) 0 := ⟨(pz_f5 w1403 w1404 w1405 w71 w1406), yd_X10_back⟩
theorem ok_L_182 : pz_okV RL 182 yX9_count cX9_count 2 (some .int) 1 := ⟨(pz_f5 w907 w908 w909 w63 w910), yd_X9_count⟩
theorem ok_L_185 : pz_okV RL 185 yX10_count cX10_count 2 (some .int) 1 := ⟨(pz_f5 w1407 w1408 w1409 w71 w1410), yd_X10_count⟩
theorem ok_J0_492 : pz_okV RJ0 492 yJ0_isLatin1_aae02 cJ0_isLatin1_aae02 1 (some .boolean) 0 := ⟨(pz_f5 w648 w649 w650 w76 w651), yd_J0_isLatin1_aae02⟩
theorem ok_J0_495 : pz_okS RJ0 495 yJ1_charAt_3b067 cJ1_charAt_3b067 2 (some .char) 2 := ⟨(pz_f4 w652 w653 w77 w654), yd_J1_charAt_3b067⟩
theorem ok_J0_633 : pz_okV RJ0 633 yJ0_indexOf_7cf53 cJ0_indexOf_7cf53 3 (some .int) 2 := ⟨(pz_f5 w739 w740 w741 w76 w742), yd_J0_indexOf_7cf53⟩
theorem ok_J0_505 : pz_okV RJ0 505 yJ0_length_8abf5 cJ0_length_8abf5 1 (some .int) 0 := ⟨(pz_f5 w743 w635 w636 w76 w637), yd_J0_length_8abf5⟩
theorem ok_J0_637 : pz_okS RJ0 637 yJ1_indexOf_4cfef cJ1_indexOf_4cfef 4 (some .int) 4 := ⟨(pz_f4 w744 w745 w77 w746), yd_J1_indexOf_4cfef⟩
theorem ok_J0_335 : pz_okV RJ0 335 yJ0_coder_7d493 cJ0_coder_7d493 1 (some .byte) 0 := ⟨(pz_f5 w638 w639 w640 w76 w641), yd_J0_coder_7d493⟩
theorem ok_J1_9 : pz_okS RJ1 9 yJ0_checkIndex_df160 cJ0_checkIndex_df160 2 none 2 := ⟨(pz_f4 w655 w656 w76 w657), yd_J0_checkIndex_df160⟩
theorem ok_J1_88 : pz_okS RJ1 88 yJ1_canEncode_9a6ad cJ1_canEncode_9a6ad 1 (some .boolean) 1 := ⟨(pz_f4 w747 w748 w77 w749), yd_J1_canEncode_9a6ad⟩
theorem ok_J1_95 : pz_okS RJ1 95 yJ1_indexOfChar_4cfef cJ1_indexOfChar_4cfef 6 (some .int) 4 := ⟨(pz_f4 w752 w753 w77 w754), yd_J1_indexOfChar_4cfef⟩
abbrev KX9_init : pz_K := (RX9, cX9_init, 2, 3, "<init>", 68, 1327, none)
abbrev KX9_eater : pz_K := (RX9, cX9_eater, 3, 2, "eater", 0, 0, (some .int))
abbrev KX9_told : pz_K := (RX9, cX9_told, 4, 2, "told", 0, 0, (some .int))
abbrev KX9_cell : pz_K := (RX9, cX9_cell, 3, 2, "cell", 0, 0, (some .int))
abbrev KX9_lays : pz_K := (RX9, cX9_lays, 6, 2, "lays", 0, 0, (some .int))
abbrev KX9_as : pz_K := (RX9, cX9_as, 3, 3, "as", 0, 0, (some .int))
abbrev KX9_turns : pz_K := (RX9, cX9_turns, 4, 2, "turns", 0, 0, (some .int))
abbrev KX9_sends : pz_K := (RX9, cX9_sends, 4, 2, "sends", 0, 0, (some .int))
abbrev KX9_cook : pz_K := (RX9, cX9_cook, 3, 2, "cook", 0, 0, (some .int))
abbrev KX9_say : pz_K := (RX9, cX9_say, 3, 1, "say", 0, 0, (some .int))
abbrev KX9_rule : pz_K := (RX9, cX9_rule, 4, 1, "rule", 0, 0, (some .int))
abbrev KX9_deal : pz_K := (RX9, cX9_deal, 5, 1, "deal", 0, 0, (some .int))
abbrev KX9_seed : pz_K := (RX9, cX9_seed, 3, 0, "seed", 0, 0, (some .int))
abbrev KX9_minutes : pz_K := (RX9, cX9_minutes, 3, 6, "minutes", 0, 0, (some .int))
abbrev KX9_town : pz_K := (RX9, cX9_town, 2, 4, "town", 0, 0, (some .int))
abbrev KX9_path : pz_K := (RX9, cX9_path, 4, 2, "path", 0, 0, (some .int))
abbrev KX9_behind : pz_K := (RX9, cX9_behind, 3, 6, "behind", 0, 0, (some .int))
abbrev KX9_wets : pz_K := (RX9, cX9_wets, 3, 5, "wets", 0, 0, (some .int))
abbrev KX9_deepest : pz_K := (RX9, cX9_deepest, 5, 6, "deepest", 0, 0, (some .int))
abbrev KX9_walled : pz_K := (RX9, cX9_walled, 7, 6, "walled", 0, 0, (some .int))
abbrev KX9_enough : pz_K := (RX9, cX9_enough, 5, 6, "enough", 0, 0, (some .int))
abbrev KX9_stood : pz_K := (RX9, cX9_stood, 8, 6, "stood", 0, 0, (some .int))
abbrev KX9_fee : pz_K := (RX9, cX9_fee, 3, 3, "fee", 0, 0, (some .int))
abbrev KX9_fine : pz_K := (RX9, cX9_fine, 4, 3, "fine", 0, 0, (some .int))
abbrev KX9_feed : pz_K := (RX9, cX9_feed, 4, 1, "feed", 0, 0, (some .int))
abbrev KX9_trim : pz_K := (RX9, cX9_trim, 2, 1, "trim", 0, 0, (some .int))
abbrev KX9_text : pz_K := (RX9, cX9_text, 2, 163, "text", 2, 100, (some .int))
abbrev KX9_textTold : pz_K := (RX9, cX9_textTold, 4, 2, "textTold", 0, 0, (some .int))
abbrev KX9_why : pz_K := (RX9, cX9_why, 3, 2, "why", 0, 0, (some .int))
abbrev KX9_sheet : pz_K := (RX9, cX9_sheet, 4, 2, "sheet", 0, 0, (some .int))
abbrev KX9_mark : pz_K := (RX9, cX9_mark, 5, 2, "mark", 0, 0, (some .int))
abbrev KX9_pour : pz_K := (RX9, cX9_pour, 2, 2, "pour", 0, 0, (some .int))
abbrev KX9_reads : pz_K := (RX9, cX9_reads, 2, 2, "reads", 0, 0, (some .int))
abbrev KX9_copy : pz_K := (RX9, cX9_copy, 8, 2, "copy", 0, 0, (some .int))
abbrev KX9_lay : pz_K := (RX9, cX9_lay, 6, 2, "lay", 0, 0, (some .int))
abbrev KX9_ask : pz_K := (RX9, cX9_ask, 5, 3, "ask", 0, 0, (some .int))
abbrev KX9_item : pz_K := (RX9, cX9_item, 5, 3, "item", 0, 0, (some .int))
abbrev KX9_rest : pz_K := (RX9, cX9_rest, 4, 3, "rest", 0, 0, (some .int))
abbrev KX9_tell : pz_K := (RX9, cX9_tell, 2, 0, "tell", 0, 0, (some .int))
abbrev KX9_check : pz_K := (RX9, cX9_check, 5, 5, "check", 0, 0, (some .int))
abbrev KX9_keep : pz_K := (RX9, cX9_keep, 1, 2, "keep", 0, 0, (some .int))
abbrev KX9_back : pz_K := (RX9, cX9_back, 1, 2, "back", 0, 0, (some .int))
abbrev KX9_count : pz_K := (RX9, cX9_count, 2, 1, "count", 0, 0, (some .int))
abbrev KX9_within : pz_K := (RX9, cX9_within, 3, 0, "within", 0, 0, (some .boolean))
abbrev KX9_isCell : pz_K := (RX9, cX9_isCell, 1, 1, "isCell", 0, 0, (some .boolean))
abbrev KX9_isSheet : pz_K := (RX9, cX9_isSheet, 1, 1, "isSheet", 0, 0, (some .boolean))
abbrev KX9_isSlot : pz_K := (RX9, cX9_isSlot, 1, 1, "isSlot", 0, 0, (some .boolean))
abbrev KX9_unlessHeld : pz_K := (RX9, cX9_unlessHeld, 3, 2, "unlessHeld", 0, 0, (some .int))
abbrev KX9_waited : pz_K := (RX9, cX9_waited, 4, 0, "waited", 0, 0, (some .boolean))
abbrev KX10_init : pz_K := (RX10, cX10_init, 2, 1, "<init>", 20, 10352, none)
abbrev KX10_isIn : pz_K := (RX10, cX10_isIn, 6, 0, "isIn", 0, 0, (some .boolean))
abbrev KX10_orNone : pz_K := (RX10, cX10_orNone, 1, 0, "orNone", 0, 0, (some .int))
abbrev KX10_within : pz_K := (RX10, cX10_within, 2, 0, "within", 0, 0, (some .int))
abbrev KX10_off : pz_K := (RX10, cX10_off, 2, 0, "off", 0, 0, (some .int))
abbrev KX10_becomes : pz_K := (RX10, cX10_becomes, 4, 0, "becomes", 0, 0, (some .int))
abbrev KX10_textAt : pz_K := (RX10, cX10_textAt, 2, 0, "textAt", 0, 0, (some .int))
abbrev KX10_of : pz_K := (RX10, cX10_of, 3, 0, "of", 0, 0, (some .int))
abbrev KX10_sets : pz_K := (RX10, cX10_sets, 4, 0, "sets", 0, 0, none)
abbrev KX10_isEater : pz_K := (RX10, cX10_isEater, 2, 1, "isEater", 0, 0, (some .boolean))
abbrev KX10_isCell : pz_K := (RX10, cX10_isCell, 1, 1, "isCell", 0, 0, (some .boolean))
abbrev KX10_isText : pz_K := (RX10, cX10_isText, 2, 1, "isText", 0, 0, (some .boolean))
abbrev KX10_drawn : pz_K := (RX10, cX10_drawn, 1, 0, "drawn", 0, 0, (some .int))
abbrev KX10_beside : pz_K := (RX10, cX10_beside, 2, 0, "beside", 0, 0, (some .int))
abbrev KX10_parts : pz_K := (RX10, cX10_parts, 2, 0, "parts", 0, 0, (some .int))
abbrev KX10_level : pz_K := (RX10, cX10_level, 2, 1, "level", 0, 0, (some .int))
abbrev KX10_comes : pz_K := (RX10, cX10_comes, 4, 1, "comes", 0, 0, none)
abbrev KX10_eater : pz_K := (RX10, cX10_eater, 3, 2, "eater", 0, 0, (some .int))
abbrev KX10_eats : pz_K := (RX10, cX10_eats, 2, 1, "eats", 0, 0, (some .int))
abbrev KX10_wades : pz_K := (RX10, cX10_wades, 2, 1, "wades", 0, 0, (some .int))
abbrev KX10_worth : pz_K := (RX10, cX10_worth, 3, 1, "worth", 0, 0, (some .int))
abbrev KX10_told : pz_K := (RX10, cX10_told, 3, 2, "told", 0, 0, (some .int))
abbrev KX10_cell : pz_K := (RX10, cX10_cell, 3, 2, "cell", 0, 0, (some .int))
abbrev KX10_lays : pz_K := (RX10, cX10_lays, 4, 2, "lays", 0, 0, (some .int))
abbrev KX10_isOf : pz_K := (RX10, cX10_isOf, 2, 0, "isOf", 0, 0, (some .boolean))
abbrev KX10_as : pz_K := (RX10, cX10_as, 3, 2, "as", 0, 0, (some .int))
abbrev KX10_turns : pz_K := (RX10, cX10_turns, 3, 2, "turns", 0, 0, (some .int))
abbrev KX10_sends : pz_K := (RX10, cX10_sends, 3, 2, "sends", 0, 0, (some .int))
abbrev KX10_cook : pz_K := (RX10, cX10_cook, 2, 2, "cook", 0, 0, (some .int))
abbrev KX10_say : pz_K := (RX10, cX10_say, 3, 1, "say", 0, 0, (some .int))
abbrev KX10_mostRule : pz_K := (RX10, cX10_mostRule, 1, 0, "mostRule", 0, 0, (some .int))
abbrev KX10_rule : pz_K := (RX10, cX10_rule, 3, 1, "rule", 0, 0, (some .int))
abbrev KX10_deal : pz_K := (RX10, cX10_deal, 4, 2, "deal", 0, 0, (some .int))
abbrev KX10_seed : pz_K := (RX10, cX10_seed, 2, 1, "seed", 0, 0, (some .int))
abbrev KX10_pours : pz_K := (RX10, cX10_pours, 2, 2, "pours", 0, 0, (some .int))
abbrev KX10_flows : pz_K := (RX10, cX10_flows, 5, 2, "flows", 0, 0, none)
abbrev KX10_dines : pz_K := (RX10, cX10_dines, 8, 2, "dines", 0, 0, (some .int))
abbrev KX10_goesOn : pz_K := (RX10, cX10_goesOn, 3, 3, "goesOn", 0, 0, (some .int))
abbrev KX10_goesOnMany : pz_K := (RX10, cX10_goesOnMany, 4, 4, "goesOnMany", 0, 0, none)
abbrev KX10_minutes : pz_K := (RX10, cX10_minutes, 4, 4, "minutes", 0, 0, (some .int))
abbrev KX10_allParts : pz_K := (RX10, cX10_allParts, 3, 1, "allParts", 0, 0, (some .int))
abbrev KX10_allAte : pz_K := (RX10, cX10_allAte, 3, 1, "allAte", 0, 0, (some .int))
abbrev KX10_manyWet : pz_K := (RX10, cX10_manyWet, 3, 1, "manyWet", 0, 0, (some .int))
abbrev KX10_town : pz_K := (RX10, cX10_town, 2, 3, "town", 0, 0, (some .int))
abbrev KX10_path : pz_K := (RX10, cX10_path, 8, 2, "path", 0, 0, (some .int))
abbrev KX10_laysBy : pz_K := (RX10, cX10_laysBy, 2, 0, "laysBy", 0, 0, none)
abbrev KX10_laysBack : pz_K := (RX10, cX10_laysBack, 2, 0, "laysBack", 0, 0, none)
abbrev KX10_behind : pz_K := (RX10, cX10_behind, 4, 5, "behind", 0, 0, (some .int))
abbrev KX10_wets : pz_K := (RX10, cX10_wets, 4, 5, "wets", 0, 0, (some .int))
abbrev KX10_deepest : pz_K := (RX10, cX10_deepest, 5, 5, "deepest", 0, 0, (some .int))
abbrev KX10_walled : pz_K := (RX10, cX10_walled, 8, 5, "walled", 0, 0, (some .int))
abbrev KX10_enough : pz_K := (RX10, cX10_enough, 5, 5, "enough", 0, 0, (some .int))
abbrev KX10_fee : pz_K := (RX10, cX10_fee, 2, 2, "fee", 0, 0, (some .int))
abbrev KX10_fine : pz_K := (RX10, cX10_fine, 3, 2, "fine", 0, 0, (some .int))
abbrev KX10_feed : pz_K := (RX10, cX10_feed, 6, 0, "feed", 0, 0, (some .int))
abbrev KX10_trim : pz_K := (RX10, cX10_trim, 2, 1, "trim", 0, 0, (some .int))
abbrev KX10_isLetter : pz_K := (RX10, cX10_isLetter, 2, 1, "isLetter", 0, 0, (some .boolean))
abbrev KX10_isDigit : pz_K := (RX10, cX10_isDigit, 2, 1, "isDigit", 0, 0, (some .boolean))
abbrev KX10_nextToken : pz_K := (RX10, cX10_nextToken, 3, 2, "nextToken", 0, 0, none)
abbrev KX10_isSign : pz_K := (RX10, cX10_isSign, 2, 0, "isSign", 0, 0, (some .boolean))
abbrev KX10_isWordAt : pz_K := (RX10, cX10_isWordAt, 6, 0, "isWordAt", 0, 0, (some .boolean))
abbrev KX10_key : pz_K := (RX10, cX10_key, 1, 1, "key", 0, 0, (some .int))
abbrev KX10_isName : pz_K := (RX10, cX10_isName, 2, 0, "isName", 0, 0, (some .boolean))
abbrev KX10_step : pz_K := (RX10, cX10_step, 3, 0, "step", 0, 0, none)
abbrev KX10_either (dr : Nat) : pz_K := (RX10, cX10_either, 2, dr + 12, "either", 0, 0, (some .boolean))
abbrev KX10_both (dr : Nat) : pz_K := (RX10, cX10_both, 2, dr + 12, "both", 0, 0, (some .boolean))
abbrev KX10_test (dr : Nat) : pz_K := (RX10, cX10_test, 3, dr + 12, "test", 0, 0, (some .boolean))
abbrev KX10_sum (dr : Nat) : pz_K := (RX10, cX10_sum, 3, dr + 12, "sum", 0, 0, (some .boolean))
abbrev KX10_term (dr : Nat) : pz_K := (RX10, cX10_term, 3, dr + 12, "term", 0, 0, (some .boolean))
abbrev KX10_part0 (dr : Nat) : pz_K := (RX10, cX10_part0, 2, dr + 12, "part0", 0, 0, (some .boolean))
abbrev KX10_parse : pz_K := (RX10, cX10_parse, 3, 162, "parse", 0, 0, (some .int))
abbrev KX10_text : pz_K := (RX10, cX10_text, 3, 163, "text", 0, 0, (some .int))
abbrev KX10_textTold : pz_K := (RX10, cX10_textTold, 3, 2, "textTold", 0, 0, (some .int))
abbrev KX10_counts : pz_K := (RX10, cX10_counts, 4, 1, "counts", 0, 0, (some .int))
abbrev KX10_why : pz_K := (RX10, cX10_why, 2, 2, "why", 0, 0, (some .int))
abbrev KX10_joined : pz_K := (RX10, cX10_joined, 3, 0, "joined", 0, 0, (some .int))
abbrev KX10_worked : pz_K := (RX10, cX10_worked, 6, 1, "worked", 0, 0, (some .int))
abbrev KX10_isSheet : pz_K := (RX10, cX10_isSheet, 1, 1, "isSheet", 0, 0, (some .boolean))
abbrev KX10_sheet : pz_K := (RX10, cX10_sheet, 5, 2, "sheet", 0, 0, (some .int))
abbrev KX10_mark : pz_K := (RX10, cX10_mark, 4, 2, "mark", 0, 0, (some .int))
abbrev KX10_pour : pz_K := (RX10, cX10_pour, 6, 2, "pour", 0, 0, (some .int))
abbrev KX10_reads : pz_K := (RX10, cX10_reads, 4, 2, "reads", 0, 0, (some .int))
abbrev KX10_stood : pz_K := (RX10, cX10_stood, 10, 5, "stood", 0, 0, (some .int))
abbrev KX10_copy : pz_K := (RX10, cX10_copy, 7, 2, "copy", 0, 0, (some .int))
abbrev KX10_isSlot : pz_K := (RX10, cX10_isSlot, 1, 1, "isSlot", 0, 0, (some .boolean))
abbrev KX10_lay : pz_K := (RX10, cX10_lay, 7, 2, "lay", 0, 0, (some .int))
abbrev KX10_ask : pz_K := (RX10, cX10_ask, 3, 2, "ask", 0, 0, (some .int))
abbrev KX10_item : pz_K := (RX10, cX10_item, 4, 2, "item", 0, 0, (some .int))
abbrev KX10_rest : pz_K := (RX10, cX10_rest, 3, 2, "rest", 0, 0, (some .int))
abbrev KX10_tell : pz_K := (RX10, cX10_tell, 2, 0, "tell", 0, 0, (some .int))
abbrev KX10_setAside : pz_K := (RX10, cX10_setAside, 4, 0, "setAside", 0, 0, none)
abbrev KX10_check : pz_K := (RX10, cX10_check, 5, 5, "check", 0, 0, (some .int))
abbrev KX10_keep : pz_K := (RX10, cX10_keep, 1, 1, "keep", 0, 0, (some .int))
abbrev KX10_back : pz_K := (RX10, cX10_back, 1, 1, "back", 0, 0, (some .int))
abbrev KX10_count : pz_K := (RX10, cX10_count, 2, 0, "count", 0, 0, (some .int))
abbrev KX0_isKind : pz_K := (RX0, cX0_isKind, 1, 1, "isKind", 0, 0, (some .boolean))
abbrev KX0_isUnder : pz_K := (RX0, cX0_isUnder, 4, 2, "isUnder", 0, 0, (some .boolean))
abbrev KX0_eats : pz_K := (RX0, cX0_eats, 2, 0, "eats", 0, 0, (some .int))
abbrev KX0_wades : pz_K := (RX0, cX0_wades, 1, 0, "wades", 0, 0, (some .int))
abbrev KX0_worth : pz_K := (RX0, cX0_worth, 2, 1, "worth", 0, 0, (some .int))
abbrev KX0_gluttonWorth : pz_K := (RX0, cX0_gluttonWorth, 1, 0, "gluttonWorth", 0, 0, (some .int))
abbrev KX0_childWorth : pz_K := (RX0, cX0_childWorth, 1, 0, "childWorth", 0, 0, (some .int))
abbrev KX1_init : pz_K := (RX1, cX1_init, 1, 1, "<init>", 2, 110, none)
abbrev KX1_takes : pz_K := (RX1, cX1_takes, 4, 2, "takes", 2, 100, (some (.object "LittlePot$Text")))
abbrev KX1_numbered : pz_K := (RX1, cX1_numbered, 2, 1, "numbered", 0, 0, (some (.object "LittlePot$Text")))
abbrev KX1_last : pz_K := (RX1, cX1_last, 4, 1, "last", 0, 0, (some .int))
abbrev KX1_counting : pz_K := (RX1, cX1_counting, 3, 2, "counting", 0, 0, (some (.object "LittlePot$Text")))
abbrev KX1_given : pz_K := (RX1, cX1_given, 8, 1, "given", 0, 0, (some .int))
abbrev KX1_joined : pz_K := (RX1, cX1_joined, 3, 0, "joined", 0, 0, (some .int))
abbrev KX2_beside : pz_K := (RX2, cX2_beside, 2, 0, "beside", 0, 0, (some .int))
abbrev KX3_init : pz_K := (RX3, cX3_init, 1, 2, "<init>", 3, 196, none)
abbrev KX3_getsNumber : pz_K := (RX3, cX3_getsNumber, 3, 0, "getsNumber", 0, 0, none)
abbrev KX3_findsFault : pz_K := (RX3, cX3_findsFault, 2, 162, "findsFault", 0, 0, (some .int))
abbrev KX3_goesOn : pz_K := (RX3, cX3_goesOn, 3, 2, "goesOn", 0, 0, none)
abbrev KX3_isLetter : pz_K := (RX3, cX3_isLetter, 2, 1, "isLetter", 0, 0, (some .boolean))
abbrev KX3_isDigit : pz_K := (RX3, cX3_isDigit, 2, 1, "isDigit", 0, 0, (some .boolean))
abbrev KX3_keyHere : pz_K := (RX3, cX3_keyHere, 1, 5, "keyHere", 0, 0, (some .int))
abbrev KX3_isWord : pz_K := (RX3, cX3_isWord, 3, 4, "isWord", 0, 0, (some .boolean))
abbrev KX3_nameHere : pz_K := (RX3, cX3_nameHere, 2, 4, "nameHere", 0, 0, (some .int))
abbrev KX3_isSign : pz_K := (RX3, cX3_isSign, 2, 0, "isSign", 0, 0, (some .boolean))
abbrev KX3_readsOr (dr : Nat) : pz_K := (RX3, cX3_readsOr, 3, dr + 12, "readsOr", 0, 0, (some .boolean))
abbrev KX3_readsAnd (dr : Nat) : pz_K := (RX3, cX3_readsAnd, 3, dr + 12, "readsAnd", 0, 0, (some .boolean))
abbrev KX3_readsTest (dr : Nat) : pz_K := (RX3, cX3_readsTest, 3, dr + 12, "readsTest", 0, 0, (some .boolean))
abbrev KX3_readsSum (dr : Nat) : pz_K := (RX3, cX3_readsSum, 4, dr + 12, "readsSum", 0, 0, (some .boolean))
abbrev KX3_readsTerm (dr : Nat) : pz_K := (RX3, cX3_readsTerm, 4, dr + 12, "readsTerm", 0, 0, (some .boolean))
abbrev KX3_readsPiece (dr : Nat) : pz_K := (RX3, cX3_readsPiece, 2, dr + 12, "readsPiece", 0, 0, (some .boolean))
abbrev KX3_readsNot (dr : Nat) : pz_K := (RX3, cX3_readsNot, 2, dr + 12, "readsNot", 0, 0, (some .boolean))
abbrev KX3_readsParen (dr : Nat) : pz_K := (RX3, cX3_readsParen, 2, dr + 12, "readsParen", 0, 0, (some .boolean))
abbrev KX3_numberHere : pz_K := (RX3, cX3_numberHere, 3, 0, "numberHere", 0, 0, (some .int))
abbrev KX4_init : pz_K := (RX4, cX4_init, 1, 1, "<init>", 1, 24, none)
abbrev KX4_becomes : pz_K := (RX4, cX4_becomes, 4, 0, "becomes", 0, 0, none)
abbrev KX4_becomes_ : pz_K := (RX4, cX4_becomes_, 2, 1, "becomes", 0, 0, none)
abbrev KX4_isMissing : pz_K := (RX4, cX4_isMissing, 1, 0, "isMissing", 0, 0, (some .boolean))
abbrev KX4_hasPlace : pz_K := (RX4, cX4_hasPlace, 2, 1, "hasPlace", 0, 0, (some .boolean))
abbrev KX4_hasPlaces : pz_K := (RX4, cX4_hasPlaces, 3, 1, "hasPlaces", 0, 0, (some .boolean))
abbrev KX4_isNumber : pz_K := (RX4, cX4_isNumber, 2, 0, "isNumber", 0, 0, (some .boolean))
abbrev KX4_differsFrom : pz_K := (RX4, cX4_differsFrom, 4, 1, "differsFrom", 0, 0, (some .int))
abbrev KX4_firstUnlike : pz_K := (RX4, cX4_firstUnlike, 3, 1, "firstUnlike", 0, 0, (some .int))
abbrev KX4_poursInto : pz_K := (RX4, cX4_poursInto, 5, 1, "poursInto", 0, 0, (some .int))
abbrev KX5_init : pz_K := (RX5, cX5_init, 1, 2, "<init>", 2, 27, none)
abbrev KX6_init : pz_K := (RX6, cX6_init, 1, 1, "<init>", 1, 96, none)
abbrev KX6_begins : pz_K := (RX6, cX6_begins, 2, 0, "begins", 0, 0, none)
abbrev KX6_adds : pz_K := (RX6, cX6_adds, 2, 0, "adds", 0, 0, none)
abbrev KX7_init : pz_K := (RX7, cX7_init, 2, 1, "<init>", 7, 136, none)
abbrev KX7_becomes : pz_K := (RX7, cX7_becomes, 2, 1, "becomes", 0, 0, none)
abbrev KX7_hasEater : pz_K := (RX7, cX7_hasEater, 2, 1, "hasEater", 0, 0, (some .boolean))
abbrev KX7_comes : pz_K := (RX7, cX7_comes, 4, 0, "comes", 0, 0, (some .int))
abbrev KX7_laid : pz_K := (RX7, cX7_laid, 2, 0, "laid", 0, 0, (some (.array .int)))
abbrev KX7_level : pz_K := (RX7, cX7_level, 2, 0, "level", 0, 0, (some .int))
abbrev KX7_allParts : pz_K := (RX7, cX7_allParts, 3, 0, "allParts", 0, 0, (some .int))
abbrev KX7_allAte : pz_K := (RX7, cX7_allAte, 3, 0, "allAte", 0, 0, (some .int))
abbrev KX7_wetCells : pz_K := (RX7, cX7_wetCells, 3, 0, "wetCells", 0, 0, (some .int))
abbrev KX7_pours : pz_K := (RX7, cX7_pours, 3, 3, "pours", 0, 0, (some .int))
abbrev KX7_draw : pz_K := (RX7, cX7_draw, 1, 0, "draw", 0, 0, (some .int))
abbrev KX7_passes : pz_K := (RX7, cX7_passes, 3, 5, "passes", 0, 0, none)
abbrev KX7_pass : pz_K := (RX7, cX7_pass, 2, 4, "pass", 0, 0, none)
abbrev KX7_flows : pz_K := (RX7, cX7_flows, 6, 1, "flows", 0, 0, none)
abbrev KX7_feasts : pz_K := (RX7, cX7_feasts, 4, 2, "feasts", 0, 0, none)
abbrev KX7_fullestBeside : pz_K := (RX7, cX7_fullestBeside, 7, 1, "fullestBeside", 0, 0, (some .int))
abbrev KX7_miceEat : pz_K := (RX7, cX7_miceEat, 2, 1, "miceEat", 0, 0, none)
abbrev KX8_init : pz_K := (RX8, cX8_init, 1, 1, "<init>", 2, 72, none)
abbrev KX8_fewest : pz_K := (RX8, cX8_fewest, 9, 1, "fewest", 0, 0, (some .int))
abbrev KL_law : pz_K := (RL, cL_law, 4, 164, "law", 600000, 7302250, (some .boolean))
abbrev KJ0_charAt_5068e : pz_K := (RJ0, cJ0_charAt_5068e, 2, 3, "charAt", 0, 0, (some .char))
abbrev KJ0_checkIndex_df160 : pz_K := (RJ0, cJ0_checkIndex_df160, 2, 1, "checkIndex", 0, 0, none)
abbrev KJ0_coder_7d493 : pz_K := (RJ0, cJ0_coder_7d493, 1, 0, "coder", 0, 0, (some .byte))
abbrev KJ0_indexOf_0f7a4 : pz_K := (RJ0, cJ0_indexOf_0f7a4, 2, 3, "indexOf", 0, 0, (some .int))
abbrev KJ0_indexOf_7cf53 : pz_K := (RJ0, cJ0_indexOf_7cf53, 3, 2, "indexOf", 0, 0, (some .int))
abbrev KJ0_isLatin1_aae02 : pz_K := (RJ0, cJ0_isLatin1_aae02, 1, 0, "isLatin1", 0, 0, (some .boolean))
abbrev KJ0_length_8abf5 : pz_K := (RJ0, cJ0_length_8abf5, 1, 1, "length", 0, 0, (some .int))
abbrev KJ1_canEncode_9a6ad : pz_K := (RJ1, cJ1_canEncode_9a6ad, 1, 0, "canEncode", 0, 0, (some .boolean))
abbrev KJ1_charAt_3b067 : pz_K := (RJ1, cJ1_charAt_3b067, 2, 2, "charAt", 0, 0, (some .char))
abbrev KJ1_indexOf_4cfef : pz_K := (RJ1, cJ1_indexOf_4cfef, 4, 1, "indexOf", 0, 0, (some .int))
abbrev KJ1_indexOfChar_4cfef : pz_K := (RJ1, cJ1_indexOfChar_4cfef, 6, 0, "indexOfChar", 0, 0, (some .int))
