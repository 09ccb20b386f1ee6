def bb_y (v : Int32) : Prop := narrow .byte (.int v) = .int v
set_option maxRecDepth 100000 in
theorem bf_J0_9 : Cond.fieldLink RJ0 9 "java/lang/String" "value" "[B" ∈ bb_tb := bb_in 933 (by decide +kernel) (by decide +kernel)
set_option maxRecDepth 100000 in
theorem bf_J0_15 : Cond.fieldLink RJ0 15 "java/lang/String" "coder" "B" ∈ bb_tb := bb_in 932 (by decide +kernel) (by decide +kernel)
set_option maxRecDepth 100000 in
theorem bf_J0_38 : Cond.fieldLink RJ0 38 "java/lang/String" "COMPACT_STRINGS" "Z" ∈ bb_tb := bb_in 349 (by decide +kernel) (by decide +kernel)
set_option maxRecDepth 100000 in
theorem bf_J0_1053 : Cond.fieldLink RJ0 1053 "jdk/internal/util/Preconditions" "SIOOBE_FORMATTER" "Ljava/util/function/BiFunction;" ∈ bb_tb := bb_in 390 (by decide +kernel) (by decide +kernel)
set_option maxRecDepth 100000 in
theorem bm_J0_335 : Cond.methodLink RJ0 335 yJ0_coder_7d493 ∈ bb_tb := bb_in 355 (by decide +kernel) (by decide +kernel)
set_option maxRecDepth 100000 in
theorem bm_J0_492 : Cond.methodLink RJ0 492 yJ0_isLatin1_aae02 ∈ bb_tb := bb_in 345 (by decide +kernel) (by decide +kernel)
set_option maxRecDepth 100000 in
theorem bm_J0_505 : Cond.methodLink RJ0 505 yJ0_length_8abf5 ∈ bb_tb := bb_in 351 (by decide +kernel) (by decide +kernel)
set_option maxRecDepth 100000 in
theorem bm_J0_633 : Cond.methodLink RJ0 633 yJ0_indexOf_7cf53 ∈ bb_tb := bb_in 341 (by decide +kernel) (by decide +kernel)
set_option maxRecDepth 100000 in
theorem bm_J0_637 : Cond.methodLink RJ0 637 yJ1_indexOf_4cfef ∈ bb_tb := bb_in 359 (by decide +kernel) (by decide +kernel)
set_option maxRecDepth 100000 in
theorem bm_J1_38 : Cond.methodLink RJ1 38 Lib.Math.min.name ∈ bb_tb := bb_in 366 (by decide +kernel) (by decide +kernel)
set_option maxRecDepth 100000 in
theorem bm_J1_88 : Cond.methodLink RJ1 88 yJ1_canEncode_9a6ad ∈ bb_tb := bb_in 362 (by decide +kernel) (by decide +kernel)
set_option maxRecDepth 100000 in
theorem bm_J1_92 : Cond.methodLink RJ1 92 Lib.Math.max.name ∈ bb_tb := bb_in 365 (by decide +kernel) (by decide +kernel)
set_option maxRecDepth 100000 in
theorem bm_J1_95 : Cond.methodLink RJ1 95 yJ1_indexOfChar_4cfef ∈ bb_tb := bb_in 369 (by decide +kernel) (by decide +kernel)
set_option maxRecDepth 100000 in
theorem bv_J0_length_8abf5 : bb_cv RJ0 yJ0_length_8abf5 cJ0_length_8abf5 1 (some .int) 0 := ⟨bb_in 352 (by decide +kernel) (by decide +kernel), bb_in 353 (by decide +kernel) (by decide +kernel), bb_in 35 (by decide +kernel) (by decide +kernel), bb_in 354 (by decide +kernel) (by decide +kernel), ⟨by decide +kernel, by decide +kernel, by decide +kernel, by decide +kernel⟩, by decide⟩
set_option maxRecDepth 100000 in
theorem bv_J0_indexOf_0f7a4 : bb_cv RJ0 yJ0_indexOf_0f7a4 cJ0_indexOf_0f7a4 2 (some .int) 1 := ⟨bb_in 338 (by decide +kernel) (by decide +kernel), bb_in 339 (by decide +kernel) (by decide +kernel), bb_in 35 (by decide +kernel) (by decide +kernel), bb_in 340 (by decide +kernel) (by decide +kernel), ⟨by decide +kernel, by decide +kernel, by decide +kernel, by decide +kernel⟩, by decide⟩
set_option maxRecDepth 100000 in
theorem bv_J0_indexOf_7cf53 : bb_cv RJ0 yJ0_indexOf_7cf53 cJ0_indexOf_7cf53 3 (some .int) 2 := ⟨bb_in 342 (by decide +kernel) (by decide +kernel), bb_in 343 (by decide +kernel) (by decide +kernel), bb_in 35 (by decide +kernel) (by decide +kernel), bb_in 344 (by decide +kernel) (by decide +kernel), ⟨by decide +kernel, by decide +kernel, by decide +kernel, by decide +kernel⟩, by decide⟩
set_option maxRecDepth 100000 in
theorem bv_J0_coder_7d493 : bb_cv RJ0 yJ0_coder_7d493 cJ0_coder_7d493 1 (some .byte) 0 := ⟨bb_in 356 (by decide +kernel) (by decide +kernel), bb_in 357 (by decide +kernel) (by decide +kernel), bb_in 35 (by decide +kernel) (by decide +kernel), bb_in 358 (by decide +kernel) (by decide +kernel), ⟨by decide +kernel, by decide +kernel, by decide +kernel, by decide +kernel⟩, by decide⟩
set_option maxRecDepth 100000 in
theorem bv_J0_isLatin1_aae02 : bb_cv RJ0 yJ0_isLatin1_aae02 cJ0_isLatin1_aae02 1 (some .boolean) 0 := ⟨bb_in 346 (by decide +kernel) (by decide +kernel), bb_in 347 (by decide +kernel) (by decide +kernel), bb_in 35 (by decide +kernel) (by decide +kernel), bb_in 348 (by decide +kernel) (by decide +kernel), ⟨by decide +kernel, by decide +kernel, by decide +kernel, by decide +kernel⟩, by decide⟩
set_option maxRecDepth 100000 in
theorem bv_J0_checkBoundsBeginEnd_23922 : bb_cS RJ0 yJ0_checkBoundsBeginEnd_23922 cJ0_checkBoundsBeginEnd_23922 3 none 3 := ⟨bb_in 388 (by decide +kernel) (by decide +kernel), bb_in 35 (by decide +kernel) (by decide +kernel), bb_in 389 (by decide +kernel) (by decide +kernel), ⟨by decide +kernel, by decide +kernel, by decide +kernel, by decide +kernel⟩, by decide⟩
set_option maxRecDepth 100000 in
theorem bv_J1_canEncode_9a6ad : bb_cS RJ1 yJ1_canEncode_9a6ad cJ1_canEncode_9a6ad 1 (some .boolean) 1 := ⟨bb_in 363 (by decide +kernel) (by decide +kernel), bb_in 36 (by decide +kernel) (by decide +kernel), bb_in 364 (by decide +kernel) (by decide +kernel), ⟨by decide +kernel, by decide +kernel, by decide +kernel, by decide +kernel⟩, by decide⟩
set_option maxRecDepth 100000 in
theorem bv_J1_indexOf_4cfef : bb_cS RJ1 yJ1_indexOf_4cfef cJ1_indexOf_4cfef 4 (some .int) 4 := ⟨bb_in 360 (by decide +kernel) (by decide +kernel), bb_in 36 (by decide +kernel) (by decide +kernel), bb_in 361 (by decide +kernel) (by decide +kernel), ⟨by decide +kernel, by decide +kernel, by decide +kernel, by decide +kernel⟩, by decide⟩
set_option maxRecDepth 100000 in
theorem bv_J1_indexOfChar_4cfef : bb_cS RJ1 yJ1_indexOfChar_4cfef cJ1_indexOfChar_4cfef 6 (some .int) 4 := ⟨bb_in 370 (by decide +kernel) (by decide +kernel), bb_in 36 (by decide +kernel) (by decide +kernel), bb_in 371 (by decide +kernel) (by decide +kernel), ⟨by decide +kernel, by decide +kernel, by decide +kernel, by decide +kernel⟩, by decide⟩
