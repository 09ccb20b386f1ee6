set_option maxRecDepth 100000 in
theorem bf_X4_10 : Cond.fieldLink RX4 10 RX4 "now" "LBlindBuff$City;" ∈ bb_tb := bb_in 182 (by decide +kernel) (by decide +kernel)
set_option maxRecDepth 100000 in
theorem bf_X4_19 : Cond.fieldLink RX4 19 RX4 "past" "LBlindBuff$Past;" ∈ bb_tb := bb_in 183 (by decide +kernel) (by decide +kernel)
set_option maxRecDepth 100000 in
theorem bf_X4_23 : Cond.fieldLink RX4 23 RX4 "trial" "LBlindBuff$City;" ∈ bb_tb := bb_in 184 (by decide +kernel) (by decide +kernel)
set_option maxRecDepth 100000 in
theorem bf_X4_26 : Cond.fieldLink RX4 26 RX4 "keptCity" "LBlindBuff$City;" ∈ bb_tb := bb_in 185 (by decide +kernel) (by decide +kernel)
set_option maxRecDepth 100000 in
theorem bf_X4_29 : Cond.fieldLink RX4 29 RX4 "keptPast" "LBlindBuff$Past;" ∈ bb_tb := bb_in 186 (by decide +kernel) (by decide +kernel)
set_option maxRecDepth 100000 in
theorem bf_X4_35 : Cond.fieldLink RX4 35 RX4 "tape" "LBlindBuff$Tape;" ∈ bb_tb := bb_in 188 (by decide +kernel) (by decide +kernel)
set_option maxRecDepth 100000 in
theorem bf_X4_41 : Cond.fieldLink RX4 41 RX4 "sheets" "[LBlindBuff$Row;" ∈ bb_tb := bb_in 189 (by decide +kernel) (by decide +kernel)
set_option maxRecDepth 100000 in
theorem bf_X4_61 : Cond.fieldLink RX4 61 RX0 "people" "I" ∈ bb_tb := bb_in 61 (by decide +kernel) (by decide +kernel)
set_option maxRecDepth 100000 in
theorem bf_X4_73 : Cond.fieldLink RX4 73 RX0 "kind" "[I" ∈ bb_tb := bb_in 83 (by decide +kernel) (by decide +kernel)
set_option maxRecDepth 100000 in
theorem bf_X4_77 : Cond.fieldLink RX4 77 RX0 "cell" "[I" ∈ bb_tb := bb_in 86 (by decide +kernel) (by decide +kernel)
set_option maxRecDepth 100000 in
theorem bf_X4_80 : Cond.fieldLink RX4 80 RX0 "noise" "[I" ∈ bb_tb := bb_in 88 (by decide +kernel) (by decide +kernel)
set_option maxRecDepth 100000 in
theorem bf_X4_83 : Cond.fieldLink RX4 83 RX0 "look" "[I" ∈ bb_tb := bb_in 90 (by decide +kernel) (by decide +kernel)
set_option maxRecDepth 100000 in
theorem bf_X4_86 : Cond.fieldLink RX4 86 RX0 "disguise" "[I" ∈ bb_tb := bb_in 92 (by decide +kernel) (by decide +kernel)
set_option maxRecDepth 100000 in
theorem bf_X4_105 : Cond.fieldLink RX4 105 RX3 "length" "I" ∈ bb_tb := bb_in 150 (by decide +kernel) (by decide +kernel)
set_option maxRecDepth 100000 in
theorem bf_X4_119 : Cond.fieldLink RX4 119 RX3 "at" "I" ∈ bb_tb := bb_in 152 (by decide +kernel) (by decide +kernel)
set_option maxRecDepth 100000 in
theorem bf_X4_122 : Cond.fieldLink RX4 122 RX0 "rows" "I" ∈ bb_tb := bb_in 56 (by decide +kernel) (by decide +kernel)
set_option maxRecDepth 100000 in
theorem bf_X4_125 : Cond.fieldLink RX4 125 RX0 "columns" "I" ∈ bb_tb := bb_in 59 (by decide +kernel) (by decide +kernel)
set_option maxRecDepth 100000 in
theorem bf_X4_128 : Cond.fieldLink RX4 128 RX0 "constable" "I" ∈ bb_tb := bb_in 66 (by decide +kernel) (by decide +kernel)
set_option maxRecDepth 100000 in
theorem bf_X4_131 : Cond.fieldLink RX4 131 RX0 "minute" "I" ∈ bb_tb := bb_in 72 (by decide +kernel) (by decide +kernel)
set_option maxRecDepth 100000 in
theorem bf_X4_134 : Cond.fieldLink RX4 134 RX0 "caught" "I" ∈ bb_tb := bb_in 69 (by decide +kernel) (by decide +kernel)
set_option maxRecDepth 100000 in
theorem bf_X4_137 : Cond.fieldLink RX4 137 RX0 "right" "I" ∈ bb_tb := bb_in 75 (by decide +kernel) (by decide +kernel)
set_option maxRecDepth 100000 in
theorem bf_X4_140 : Cond.fieldLink RX4 140 RX0 "wrong" "I" ∈ bb_tb := bb_in 78 (by decide +kernel) (by decide +kernel)
set_option maxRecDepth 100000 in
theorem bf_X4_146 : Cond.fieldLink RX4 146 RX1 "known" "I" ∈ bb_tb := bb_in 134 (by decide +kernel) (by decide +kernel)
set_option maxRecDepth 100000 in
theorem bf_X4_165 : Cond.fieldLink RX4 165 RX0 "draw" "I" ∈ bb_tb := bb_in 81 (by decide +kernel) (by decide +kernel)
set_option maxRecDepth 100000 in
theorem bf_X4_190 : Cond.fieldLink RX4 190 RX4 "kept" "Z" ∈ bb_tb := bb_in 187 (by decide +kernel) (by decide +kernel)
set_option maxRecDepth 100000 in
theorem bf_X4_216 : Cond.fieldLink RX4 216 RX2 "length" "I" ∈ bb_tb := bb_in 171 (by decide +kernel) (by decide +kernel)
set_option maxRecDepth 100000 in
theorem bf_X4_220 : Cond.fieldLink RX4 220 RX2 "lane" "I" ∈ bb_tb := bb_in 169 (by decide +kernel) (by decide +kernel)
set_option maxRecDepth 100000 in
theorem bf_X4_226 : Cond.fieldLink RX4 226 RX2 "items" "[J" ∈ bb_tb := bb_in 173 (by decide +kernel) (by decide +kernel)
set_option maxRecDepth 100000 in
theorem bf_X0_9 : Cond.fieldLink RX0 9 RX0 "rows" "I" ∈ bb_tb := bb_in 54 (by decide +kernel) (by decide +kernel)
set_option maxRecDepth 100000 in
theorem bf_X0_15 : Cond.fieldLink RX0 15 RX0 "columns" "I" ∈ bb_tb := bb_in 57 (by decide +kernel) (by decide +kernel)
set_option maxRecDepth 100000 in
theorem bf_X0_18 : Cond.fieldLink RX0 18 RX0 "draw" "I" ∈ bb_tb := bb_in 79 (by decide +kernel) (by decide +kernel)
set_option maxRecDepth 100000 in
theorem bf_X0_21 : Cond.fieldLink RX0 21 RX0 "kind" "[I" ∈ bb_tb := bb_in 82 (by decide +kernel) (by decide +kernel)
set_option maxRecDepth 100000 in
theorem bf_X0_25 : Cond.fieldLink RX0 25 RX0 "cell" "[I" ∈ bb_tb := bb_in 84 (by decide +kernel) (by decide +kernel)
set_option maxRecDepth 100000 in
theorem bf_X0_28 : Cond.fieldLink RX0 28 RX0 "noise" "[I" ∈ bb_tb := bb_in 87 (by decide +kernel) (by decide +kernel)
set_option maxRecDepth 100000 in
theorem bf_X0_31 : Cond.fieldLink RX0 31 RX0 "look" "[I" ∈ bb_tb := bb_in 89 (by decide +kernel) (by decide +kernel)
set_option maxRecDepth 100000 in
theorem bf_X0_34 : Cond.fieldLink RX0 34 RX0 "disguise" "[I" ∈ bb_tb := bb_in 91 (by decide +kernel) (by decide +kernel)
set_option maxRecDepth 100000 in
theorem bf_X0_37 : Cond.fieldLink RX0 37 RX0 "people" "I" ∈ bb_tb := bb_in 60 (by decide +kernel) (by decide +kernel)
set_option maxRecDepth 100000 in
theorem bf_X0_40 : Cond.fieldLink RX0 40 RX0 "constable" "I" ∈ bb_tb := bb_in 62 (by decide +kernel) (by decide +kernel)
set_option maxRecDepth 100000 in
theorem bf_X0_43 : Cond.fieldLink RX0 43 RX0 "caught" "I" ∈ bb_tb := bb_in 67 (by decide +kernel) (by decide +kernel)
set_option maxRecDepth 100000 in
theorem bf_X0_46 : Cond.fieldLink RX0 46 RX0 "minute" "I" ∈ bb_tb := bb_in 70 (by decide +kernel) (by decide +kernel)
set_option maxRecDepth 100000 in
theorem bf_X0_49 : Cond.fieldLink RX0 49 RX0 "right" "I" ∈ bb_tb := bb_in 73 (by decide +kernel) (by decide +kernel)
set_option maxRecDepth 100000 in
theorem bf_X0_52 : Cond.fieldLink RX0 52 RX0 "wrong" "I" ∈ bb_tb := bb_in 76 (by decide +kernel) (by decide +kernel)
set_option maxRecDepth 100000 in
theorem bf_X1_13 : Cond.fieldLink RX1 13 RX1 "steps" "[[I" ∈ bb_tb := bb_in 131 (by decide +kernel) (by decide +kernel)
set_option maxRecDepth 100000 in
theorem bf_X1_16 : Cond.fieldLink RX1 16 RX1 "known" "I" ∈ bb_tb := bb_in 133 (by decide +kernel) (by decide +kernel)
set_option maxRecDepth 100000 in
theorem bf_X1_20 : Cond.fieldLink RX1 20 RX1 "place" "I" ∈ bb_tb := bb_in 132 (by decide +kernel) (by decide +kernel)
set_option maxRecDepth 100000 in
theorem bf_X1_23 : Cond.fieldLink RX1 23 RX0 "cell" "[I" ∈ bb_tb := bb_in 85 (by decide +kernel) (by decide +kernel)
set_option maxRecDepth 100000 in
theorem bf_X1_35 : Cond.fieldLink RX1 35 RX0 "constable" "I" ∈ bb_tb := bb_in 63 (by decide +kernel) (by decide +kernel)
set_option maxRecDepth 100000 in
theorem bf_X1_38 : Cond.fieldLink RX1 38 RX0 "caught" "I" ∈ bb_tb := bb_in 68 (by decide +kernel) (by decide +kernel)
set_option maxRecDepth 100000 in
theorem bf_X1_41 : Cond.fieldLink RX1 41 RX0 "minute" "I" ∈ bb_tb := bb_in 71 (by decide +kernel) (by decide +kernel)
set_option maxRecDepth 100000 in
theorem bf_X1_44 : Cond.fieldLink RX1 44 RX0 "right" "I" ∈ bb_tb := bb_in 74 (by decide +kernel) (by decide +kernel)
set_option maxRecDepth 100000 in
theorem bf_X1_47 : Cond.fieldLink RX1 47 RX0 "wrong" "I" ∈ bb_tb := bb_in 77 (by decide +kernel) (by decide +kernel)
set_option maxRecDepth 100000 in
theorem bf_X1_50 : Cond.fieldLink RX1 50 RX0 "draw" "I" ∈ bb_tb := bb_in 80 (by decide +kernel) (by decide +kernel)
set_option maxRecDepth 100000 in
theorem bf_X2_11 : Cond.fieldLink RX2 11 RX2 "lane" "I" ∈ bb_tb := bb_in 168 (by decide +kernel) (by decide +kernel)
set_option maxRecDepth 100000 in
theorem bf_X2_15 : Cond.fieldLink RX2 15 RX2 "items" "[J" ∈ bb_tb := bb_in 172 (by decide +kernel) (by decide +kernel)
set_option maxRecDepth 100000 in
theorem bf_X2_19 : Cond.fieldLink RX2 19 RX2 "length" "I" ∈ bb_tb := bb_in 170 (by decide +kernel) (by decide +kernel)
set_option maxRecDepth 100000 in
theorem bf_X2_36 : Cond.fieldLink RX2 36 RX0 "constable" "I" ∈ bb_tb := bb_in 65 (by decide +kernel) (by decide +kernel)
set_option maxRecDepth 100000 in
theorem bf_X3_9 : Cond.fieldLink RX3 9 RX3 "letters" "[C" ∈ bb_tb := bb_in 148 (by decide +kernel) (by decide +kernel)
set_option maxRecDepth 100000 in
theorem bf_X3_15 : Cond.fieldLink RX3 15 RX3 "length" "I" ∈ bb_tb := bb_in 149 (by decide +kernel) (by decide +kernel)
set_option maxRecDepth 100000 in
theorem bf_X3_19 : Cond.fieldLink RX3 19 RX3 "at" "I" ∈ bb_tb := bb_in 151 (by decide +kernel) (by decide +kernel)
set_option maxRecDepth 100000 in
theorem bf_X3_56 : Cond.fieldLink RX3 56 RX0 "constable" "I" ∈ bb_tb := bb_in 64 (by decide +kernel) (by decide +kernel)
set_option maxRecDepth 100000 in
theorem bf_X3_75 : Cond.fieldLink RX3 75 RX0 "rows" "I" ∈ bb_tb := bb_in 55 (by decide +kernel) (by decide +kernel)
set_option maxRecDepth 100000 in
theorem bf_X3_78 : Cond.fieldLink RX3 78 RX0 "columns" "I" ∈ bb_tb := bb_in 58 (by decide +kernel) (by decide +kernel)
set_option maxRecDepth 100000 in
theorem bf_X5_7 : Cond.fieldLink RX5 7 RX5 "now" "[I" ∈ bb_tb := bb_in 631 (by decide +kernel) (by decide +kernel)
set_option maxRecDepth 100000 in
theorem bf_X5_13 : Cond.fieldLink RX5 13 RX5 "tape" "[I" ∈ bb_tb := bb_in 634 (by decide +kernel) (by decide +kernel)
set_option maxRecDepth 100000 in
theorem bf_X5_16 : Cond.fieldLink RX5 16 RX5 "read" "[I" ∈ bb_tb := bb_in 638 (by decide +kernel) (by decide +kernel)
set_option maxRecDepth 100000 in
theorem bf_X5_19 : Cond.fieldLink RX5 19 RX5 "undone" "[I" ∈ bb_tb := bb_in 639 (by decide +kernel) (by decide +kernel)
set_option maxRecDepth 100000 in
theorem bf_X5_22 : Cond.fieldLink RX5 22 RX5 "aside" "[I" ∈ bb_tb := bb_in 641 (by decide +kernel) (by decide +kernel)
set_option maxRecDepth 100000 in
theorem bf_X5_25 : Cond.fieldLink RX5 25 RX5 "kept" "[I" ∈ bb_tb := bb_in 642 (by decide +kernel) (by decide +kernel)
set_option maxRecDepth 100000 in
theorem bf_X5_28 : Cond.fieldLink RX5 28 RX5 "lanes" "[I" ∈ bb_tb := bb_in 645 (by decide +kernel) (by decide +kernel)
set_option maxRecDepth 100000 in
theorem bf_X5_31 : Cond.fieldLink RX5 31 RX5 "sizes" "[I" ∈ bb_tb := bb_in 646 (by decide +kernel) (by decide +kernel)
set_option maxRecDepth 100000 in
theorem bf_X5_34 : Cond.fieldLink RX5 34 RX5 "items" "[J" ∈ bb_tb := bb_in 647 (by decide +kernel) (by decide +kernel)
set_option maxRecDepth 100000 in
theorem bf_X5_38 : Cond.fieldLink RX5 38 RX5 "moved" "[J" ∈ bb_tb := bb_in 648 (by decide +kernel) (by decide +kernel)
set_option maxRecDepth 100000 in
theorem bf_X5_45 : Cond.fieldLink RX5 45 RX5 "undos" "I" ∈ bb_tb := bb_in 640 (by decide +kernel) (by decide +kernel)
set_option maxRecDepth 100000 in
theorem bf_X5_80 : Cond.fieldLink RX5 80 RX5 "last" "I" ∈ bb_tb := bb_in 632 (by decide +kernel) (by decide +kernel)
set_option maxRecDepth 100000 in
theorem bf_X5_86 : Cond.fieldLink RX5 86 RX5 "lastNamed" "I" ∈ bb_tb := bb_in 633 (by decide +kernel) (by decide +kernel)
set_option maxRecDepth 100000 in
theorem bf_X5_118 : Cond.fieldLink RX5 118 RX5 "typed" "I" ∈ bb_tb := bb_in 635 (by decide +kernel) (by decide +kernel)
set_option maxRecDepth 100000 in
theorem bf_X5_121 : Cond.fieldLink RX5 121 RX5 "place" "I" ∈ bb_tb := bb_in 636 (by decide +kernel) (by decide +kernel)
set_option maxRecDepth 100000 in
theorem bf_X5_124 : Cond.fieldLink RX5 124 RX5 "isFault" "Z" ∈ bb_tb := bb_in 637 (by decide +kernel) (by decide +kernel)
set_option maxRecDepth 100000 in
theorem bf_X5_187 : Cond.fieldLink RX5 187 RX5 "keptUndos" "I" ∈ bb_tb := bb_in 643 (by decide +kernel) (by decide +kernel)
set_option maxRecDepth 100000 in
theorem bf_X5_190 : Cond.fieldLink RX5 190 RX5 "isKept" "Z" ∈ bb_tb := bb_in 644 (by decide +kernel) (by decide +kernel)
set_option maxRecDepth 100000 in
theorem bm_X4_1 : Cond.methodLink RX4 1 objectInit ∈ bb_tb := bb_in 45 (by decide +kernel) (by decide +kernel)
set_option maxRecDepth 100000 in
theorem bm_X4_46 : Cond.methodLink RX4 46 yX4_outside ∈ bb_tb := bb_in 211 (by decide +kernel) (by decide +kernel)
set_option maxRecDepth 100000 in
theorem bm_X4_50 : Cond.methodLink RX4 50 yX0_build ∈ bb_tb := bb_in 214 (by decide +kernel) (by decide +kernel)
set_option maxRecDepth 100000 in
theorem bm_X4_54 : Cond.methodLink RX4 54 yX1_forget ∈ bb_tb := bb_in 218 (by decide +kernel) (by decide +kernel)
set_option maxRecDepth 100000 in
theorem bm_X4_57 : Cond.methodLink RX4 57 yX0_cells ∈ bb_tb := bb_in 222 (by decide +kernel) (by decide +kernel)
set_option maxRecDepth 100000 in
theorem bm_X4_65 : Cond.methodLink RX4 65 yX0_enter ∈ bb_tb := bb_in 230 (by decide +kernel) (by decide +kernel)
set_option maxRecDepth 100000 in
theorem bm_X4_69 : Cond.methodLink RX4 69 yX4_isNobody ∈ bb_tb := bb_in 238 (by decide +kernel) (by decide +kernel)
set_option maxRecDepth 100000 in
theorem bm_X4_89 : Cond.methodLink RX4 89 yX0_isFree ∈ bb_tb := bb_in 242 (by decide +kernel) (by decide +kernel)
set_option maxRecDepth 100000 in
theorem bm_X4_92 : Cond.methodLink RX4 92 yX0_far ∈ bb_tb := bb_in 246 (by decide +kernel) (by decide +kernel)
set_option maxRecDepth 100000 in
theorem bm_X4_96 : Cond.methodLink RX4 96 yX0_loud ∈ bb_tb := bb_in 261 (by decide +kernel) (by decide +kernel)
set_option maxRecDepth 100000 in
theorem bm_X4_99 : Cond.methodLink RX4 99 yX0_feel ∈ bb_tb := bb_in 269 (by decide +kernel) (by decide +kernel)
set_option maxRecDepth 100000 in
theorem bm_X4_102 : Cond.methodLink RX4 102 yX0_namedBy ∈ bb_tb := bb_in 273 (by decide +kernel) (by decide +kernel)
set_option maxRecDepth 100000 in
theorem bm_X4_108 : Cond.methodLink RX4 108 yX3_add ∈ bb_tb := bb_in 291 (by decide +kernel) (by decide +kernel)
set_option maxRecDepth 100000 in
theorem bm_X4_111 : Cond.methodLink RX4 111 yX0_take ∈ bb_tb := bb_in 299 (by decide +kernel) (by decide +kernel)
set_option maxRecDepth 100000 in
theorem bm_X4_115 : Cond.methodLink RX4 115 yX3_readInto ∈ bb_tb := bb_in 306 (by decide +kernel) (by decide +kernel)
set_option maxRecDepth 100000 in
theorem bm_X4_143 : Cond.methodLink RX4 143 yX0_followed ∈ bb_tb := bb_in 431 (by decide +kernel) (by decide +kernel)
set_option maxRecDepth 100000 in
theorem bm_X4_149 : Cond.methodLink RX4 149 yX1_keep ∈ bb_tb := bb_in 441 (by decide +kernel) (by decide +kernel)
set_option maxRecDepth 100000 in
theorem bm_X4_152 : Cond.methodLink RX4 152 yX0_pass ∈ bb_tb := bb_in 447 (by decide +kernel) (by decide +kernel)
set_option maxRecDepth 100000 in
theorem bm_X4_155 : Cond.methodLink RX4 155 yX0_beside ∈ bb_tb := bb_in 469 (by decide +kernel) (by decide +kernel)
set_option maxRecDepth 100000 in
theorem bm_X4_159 : Cond.methodLink RX4 159 yX0_stray ∈ bb_tb := bb_in 481 (by decide +kernel) (by decide +kernel)
set_option maxRecDepth 100000 in
theorem bm_X4_162 : Cond.methodLink RX4 162 yX1_bringBack ∈ bb_tb := bb_in 493 (by decide +kernel) (by decide +kernel)
set_option maxRecDepth 100000 in
theorem bm_X4_168 : Cond.methodLink RX4 168 yX0_passUntilCaught ∈ bb_tb := bb_in 509 (by decide +kernel) (by decide +kernel)
set_option maxRecDepth 100000 in
theorem bm_X4_171 : Cond.methodLink RX4 171 yX0_behindHowMany ∈ bb_tb := bb_in 518 (by decide +kernel) (by decide +kernel)
set_option maxRecDepth 100000 in
theorem bm_X4_174 : Cond.methodLink RX4 174 yJ6_bitCount_0f7a4 ∈ bb_tb := bb_in 530 (by decide +kernel) (by decide +kernel)
set_option maxRecDepth 100000 in
theorem bm_X4_179 : Cond.methodLink RX4 179 yX0_goesFirst ∈ bb_tb := bb_in 543 (by decide +kernel) (by decide +kernel)
set_option maxRecDepth 100000 in
theorem bm_X4_183 : Cond.methodLink RX4 183 yX4_commonDivisor ∈ bb_tb := bb_in 547 (by decide +kernel) (by decide +kernel)
set_option maxRecDepth 100000 in
theorem bm_X4_186 : Cond.methodLink RX4 186 yX1_takePast ∈ bb_tb := bb_in 554 (by decide +kernel) (by decide +kernel)
set_option maxRecDepth 100000 in
theorem bm_X4_194 : Cond.methodLink RX4 194 yX4_isNoSheet ∈ bb_tb := bb_in 566 (by decide +kernel) (by decide +kernel)
set_option maxRecDepth 100000 in
theorem bm_X4_197 : Cond.methodLink RX4 197 yX2_faultOf ∈ bb_tb := bb_in 569 (by decide +kernel) (by decide +kernel)
set_option maxRecDepth 100000 in
theorem bm_X4_201 : Cond.methodLink RX4 201 yX2_tellsOf ∈ bb_tb := bb_in 581 (by decide +kernel) (by decide +kernel)
set_option maxRecDepth 100000 in
theorem bm_X4_205 : Cond.methodLink RX4 205 yX2_put ∈ bb_tb := bb_in 590 (by decide +kernel) (by decide +kernel)
set_option maxRecDepth 100000 in
theorem bm_X4_209 : Cond.methodLink RX4 209 yX2_renew ∈ bb_tb := bb_in 598 (by decide +kernel) (by decide +kernel)
set_option maxRecDepth 100000 in
theorem bm_X4_212 : Cond.methodLink RX4 212 yX2_isMissing ∈ bb_tb := bb_in 606 (by decide +kernel) (by decide +kernel)
set_option maxRecDepth 100000 in
theorem bm_X4_217 : Cond.methodLink RX4 217 yX2_lose ∈ bb_tb := bb_in 607 (by decide +kernel) (by decide +kernel)
set_option maxRecDepth 100000 in
theorem bm_X4_223 : Cond.methodLink RX4 223 yX2_reaches ∈ bb_tb := bb_in 619 (by decide +kernel) (by decide +kernel)
set_option maxRecDepth 100000 in
theorem bm_X4_230 : Cond.methodLink RX4 230 arraycopyName ∈ bb_tb := bb_in 620 (by decide +kernel) (by decide +kernel)
set_option maxRecDepth 100000 in
theorem bm_X0_3 : Cond.methodLink RX0 3 objectInit ∈ bb_tb := bb_in 53 (by decide +kernel) (by decide +kernel)
set_option maxRecDepth 100000 in
theorem bm_X0_55 : Cond.methodLink RX0 55 arraycopyName ∈ bb_tb := bb_in 303 (by decide +kernel) (by decide +kernel)
set_option maxRecDepth 100000 in
theorem bm_X0_61 : Cond.methodLink RX0 61 yX0_rowOf ∈ bb_tb := bb_in 250 (by decide +kernel) (by decide +kernel)
set_option maxRecDepth 100000 in
theorem bm_X0_65 : Cond.methodLink RX0 65 Lib.Math.abs.name ∈ bb_tb := bb_in 254 (by decide +kernel) (by decide +kernel)
set_option maxRecDepth 100000 in
theorem bm_X0_70 : Cond.methodLink RX0 70 yX0_columnOf ∈ bb_tb := bb_in 257 (by decide +kernel) (by decide +kernel)
set_option maxRecDepth 100000 in
theorem bm_X0_73 : Cond.methodLink RX0 73 yX0_far ∈ bb_tb := bb_in 265 (by decide +kernel) (by decide +kernel)
set_option maxRecDepth 100000 in
theorem bm_X0_76 : Cond.methodLink RX0 76 Lib.Math.max.name ∈ bb_tb := bb_in 266 (by decide +kernel) (by decide +kernel)
set_option maxRecDepth 100000 in
theorem bm_X0_80 : Cond.methodLink RX0 80 yX0_isFree ∈ bb_tb := bb_in 435 (by decide +kernel) (by decide +kernel)
set_option maxRecDepth 100000 in
theorem bm_X0_84 : Cond.methodLink RX0 84 yX0_loud ∈ bb_tb := bb_in 436 (by decide +kernel) (by decide +kernel)
set_option maxRecDepth 100000 in
theorem bm_X0_87 : Cond.methodLink RX0 87 yJ6_bitCount_0f7a4 ∈ bb_tb := bb_in 277 (by decide +kernel) (by decide +kernel)
set_option maxRecDepth 100000 in
theorem bm_X0_92 : Cond.methodLink RX0 92 yX0_followed ∈ bb_tb := bb_in 451 (by decide +kernel) (by decide +kernel)
set_option maxRecDepth 100000 in
theorem bm_X0_96 : Cond.methodLink RX0 96 yX0_nearerTo ∈ bb_tb := bb_in 452 (by decide +kernel) (by decide +kernel)
set_option maxRecDepth 100000 in
theorem bm_X0_99 : Cond.methodLink RX0 99 yX0_firstOnHisCell ∈ bb_tb := bb_in 459 (by decide +kernel) (by decide +kernel)
set_option maxRecDepth 100000 in
theorem bm_X0_102 : Cond.methodLink RX0 102 yX0_feel ∈ bb_tb := bb_in 463 (by decide +kernel) (by decide +kernel)
set_option maxRecDepth 100000 in
theorem bm_X0_105 : Cond.methodLink RX0 105 yX0_namedBy ∈ bb_tb := bb_in 464 (by decide +kernel) (by decide +kernel)
set_option maxRecDepth 100000 in
theorem bm_X0_108 : Cond.methodLink RX0 108 yJ6_compare_7cf53 ∈ bb_tb := bb_in 456 (by decide +kernel) (by decide +kernel)
set_option maxRecDepth 100000 in
theorem bm_X0_111 : Cond.methodLink RX0 111 yX0_pass ∈ bb_tb := bb_in 513 (by decide +kernel) (by decide +kernel)
set_option maxRecDepth 100000 in
theorem bm_X0_117 : Cond.methodLink RX0 117 yX0_beside ∈ bb_tb := bb_in 488 (by decide +kernel) (by decide +kernel)
set_option maxRecDepth 100000 in
theorem bm_X1_3 : Cond.methodLink RX1 3 objectInit ∈ bb_tb := bb_in 128 (by decide +kernel) (by decide +kernel)
set_option maxRecDepth 100000 in
theorem bm_X1_29 : Cond.methodLink RX1 29 arraycopyName ∈ bb_tb := bb_in 445 (by decide +kernel) (by decide +kernel)
set_option maxRecDepth 100000 in
theorem bm_X1_53 : Cond.methodLink RX1 53 Lib.Math.min.name ∈ bb_tb := bb_in 446 (by decide +kernel) (by decide +kernel)
set_option maxRecDepth 100000 in
theorem bm_X2_3 : Cond.methodLink RX2 3 objectInit ∈ bb_tb := bb_in 167 (by decide +kernel) (by decide +kernel)
set_option maxRecDepth 100000 in
theorem bm_X2_22 : Cond.methodLink RX2 22 yX2_isMissing ∈ bb_tb := bb_in 573 (by decide +kernel) (by decide +kernel)
set_option maxRecDepth 100000 in
theorem bm_X2_26 : Cond.methodLink RX2 26 yX2_reaches ∈ bb_tb := bb_in 577 (by decide +kernel) (by decide +kernel)
set_option maxRecDepth 100000 in
theorem bm_X2_30 : Cond.methodLink RX2 30 yX0_pass ∈ bb_tb := bb_in 585 (by decide +kernel) (by decide +kernel)
set_option maxRecDepth 100000 in
theorem bm_X3_3 : Cond.methodLink RX3 3 objectInit ∈ bb_tb := bb_in 147 (by decide +kernel) (by decide +kernel)
set_option maxRecDepth 100000 in
theorem bm_X3_22 : Cond.methodLink RX3 22 yX3_readStreets ∈ bb_tb := bb_in 310 (by decide +kernel) (by decide +kernel)
set_option maxRecDepth 100000 in
theorem bm_X3_26 : Cond.methodLink RX3 26 yX3_readSign ∈ bb_tb := bb_in 322 (by decide +kernel) (by decide +kernel)
set_option maxRecDepth 100000 in
theorem bm_X3_30 : Cond.methodLink RX3 30 yX3_readPerson ∈ bb_tb := bb_in 332 (by decide +kernel) (by decide +kernel)
set_option maxRecDepth 100000 in
theorem bm_X3_33 : Cond.methodLink RX3 33 yX3_peek ∈ bb_tb := bb_in 318 (by decide +kernel) (by decide +kernel)
set_option maxRecDepth 100000 in
theorem bm_X3_37 : Cond.methodLink RX3 37 yX3_readDigit ∈ bb_tb := bb_in 314 (by decide +kernel) (by decide +kernel)
set_option maxRecDepth 100000 in
theorem bm_X3_41 : Cond.methodLink RX3 41 yX0_build ∈ bb_tb := bb_in 326 (by decide +kernel) (by decide +kernel)
set_option maxRecDepth 100000 in
theorem bm_X3_47 : Cond.methodLink RX3 47 yX3_readCell ∈ bb_tb := bb_in 327 (by decide +kernel) (by decide +kernel)
set_option maxRecDepth 100000 in
theorem bm_X3_51 : Cond.methodLink RX3 51 Lib.Math.max.name ∈ bb_tb := bb_in 331 (by decide +kernel) (by decide +kernel)
set_option maxRecDepth 100000 in
theorem bm_X3_61 : Cond.methodLink RX3 61 yJ0_indexOf_0f7a4 ∈ bb_tb := bb_in 337 (by decide +kernel) (by decide +kernel)
set_option maxRecDepth 100000 in
theorem bm_X3_67 : Cond.methodLink RX3 67 yX3_readFeatures ∈ bb_tb := bb_in 421 (by decide +kernel) (by decide +kernel)
set_option maxRecDepth 100000 in
theorem bm_X3_71 : Cond.methodLink RX3 71 yX0_enter ∈ bb_tb := bb_in 425 (by decide +kernel) (by decide +kernel)
set_option maxRecDepth 100000 in
theorem bm_L_9 : Cond.methodLink RL 9 yX4_init ∈ bb_tb := bb_in 42 (by decide +kernel) (by decide +kernel)
set_option maxRecDepth 100000 in
theorem bm_L_12 : Cond.methodLink RL 12 yX5_init ∈ bb_tb := bb_in 623 (by decide +kernel) (by decide +kernel)
set_option maxRecDepth 100000 in
theorem bm_L_13 : Cond.methodLink RL 13 yX4_streets ∈ bb_tb := bb_in 207 (by decide +kernel) (by decide +kernel)
set_option maxRecDepth 100000 in
theorem bm_L_17 : Cond.methodLink RL 17 yX5_streets ∈ bb_tb := bb_in 686 (by decide +kernel) (by decide +kernel)
set_option maxRecDepth 100000 in
theorem bm_L_18 : Cond.methodLink RL 18 yX4_person ∈ bb_tb := bb_in 226 (by decide +kernel) (by decide +kernel)
set_option maxRecDepth 100000 in
theorem bm_L_22 : Cond.methodLink RL 22 yX5_person ∈ bb_tb := bb_in 699 (by decide +kernel) (by decide +kernel)
set_option maxRecDepth 100000 in
theorem bm_L_23 : Cond.methodLink RL 23 yX4_of ∈ bb_tb := bb_in 234 (by decide +kernel) (by decide +kernel)
set_option maxRecDepth 100000 in
theorem bm_L_26 : Cond.methodLink RL 26 yX5_of ∈ bb_tb := bb_in 710 (by decide +kernel) (by decide +kernel)
set_option maxRecDepth 100000 in
theorem bm_L_27 : Cond.methodLink RL 27 yX4_rule ∈ bb_tb := bb_in 283 (by decide +kernel) (by decide +kernel)
set_option maxRecDepth 100000 in
theorem bm_L_31 : Cond.methodLink RL 31 yX5_rule ∈ bb_tb := bb_in 745 (by decide +kernel) (by decide +kernel)
set_option maxRecDepth 100000 in
theorem bm_L_32 : Cond.methodLink RL 32 yX4_type ∈ bb_tb := bb_in 287 (by decide +kernel) (by decide +kernel)
set_option maxRecDepth 100000 in
theorem bm_L_36 : Cond.methodLink RL 36 yX5_type ∈ bb_tb := bb_in 758 (by decide +kernel) (by decide +kernel)
set_option maxRecDepth 100000 in
theorem bm_L_37 : Cond.methodLink RL 37 yX4_city ∈ bb_tb := bb_in 295 (by decide +kernel) (by decide +kernel)
set_option maxRecDepth 100000 in
theorem bm_L_41 : Cond.methodLink RL 41 yX5_city ∈ bb_tb := bb_in 764 (by decide +kernel) (by decide +kernel)
set_option maxRecDepth 100000 in
theorem bm_L_42 : Cond.methodLink RL 42 yX4_count ∈ bb_tb := bb_in 427 (by decide +kernel) (by decide +kernel)
set_option maxRecDepth 100000 in
theorem bm_L_45 : Cond.methodLink RL 45 yX5_count ∈ bb_tb := bb_in 749 (by decide +kernel) (by decide +kernel)
set_option maxRecDepth 100000 in
theorem bm_L_46 : Cond.methodLink RL 46 yX4_minutes ∈ bb_tb := bb_in 437 (by decide +kernel) (by decide +kernel)
set_option maxRecDepth 100000 in
theorem bm_L_49 : Cond.methodLink RL 49 yX5_minutes ∈ bb_tb := bb_in 793 (by decide +kernel) (by decide +kernel)
set_option maxRecDepth 100000 in
theorem bm_L_50 : Cond.methodLink RL 50 yX4_walk ∈ bb_tb := bb_in 465 (by decide +kernel) (by decide +kernel)
set_option maxRecDepth 100000 in
theorem bm_L_53 : Cond.methodLink RL 53 yX5_walk ∈ bb_tb := bb_in 809 (by decide +kernel) (by decide +kernel)
set_option maxRecDepth 100000 in
theorem bm_L_54 : Cond.methodLink RL 54 yX4_free ∈ bb_tb := bb_in 473 (by decide +kernel) (by decide +kernel)
set_option maxRecDepth 100000 in
theorem bm_L_57 : Cond.methodLink RL 57 yX5_free ∈ bb_tb := bb_in 818 (by decide +kernel) (by decide +kernel)
set_option maxRecDepth 100000 in
theorem bm_L_58 : Cond.methodLink RL 58 yX4_drift ∈ bb_tb := bb_in 477 (by decide +kernel) (by decide +kernel)
set_option maxRecDepth 100000 in
theorem bm_L_61 : Cond.methodLink RL 61 yX5_drift ∈ bb_tb := bb_in 822 (by decide +kernel) (by decide +kernel)
set_option maxRecDepth 100000 in
theorem bm_L_62 : Cond.methodLink RL 62 yX4_undo ∈ bb_tb := bb_in 489 (by decide +kernel) (by decide +kernel)
set_option maxRecDepth 100000 in
theorem bm_L_65 : Cond.methodLink RL 65 yX5_undo ∈ bb_tb := bb_in 830 (by decide +kernel) (by decide +kernel)
set_option maxRecDepth 100000 in
theorem bm_L_66 : Cond.methodLink RL 66 yX4_seed ∈ bb_tb := bb_in 497 (by decide +kernel) (by decide +kernel)
set_option maxRecDepth 100000 in
theorem bm_L_69 : Cond.methodLink RL 69 yX5_seed ∈ bb_tb := bb_in 834 (by decide +kernel) (by decide +kernel)
set_option maxRecDepth 100000 in
theorem bm_L_70 : Cond.methodLink RL 70 yX4_ahead ∈ bb_tb := bb_in 501 (by decide +kernel) (by decide +kernel)
set_option maxRecDepth 100000 in
theorem bm_L_73 : Cond.methodLink RL 73 yX5_ahead ∈ bb_tb := bb_in 838 (by decide +kernel) (by decide +kernel)
set_option maxRecDepth 100000 in
theorem bm_L_74 : Cond.methodLink RL 74 yX4_next ∈ bb_tb := bb_in 505 (by decide +kernel) (by decide +kernel)
set_option maxRecDepth 100000 in
theorem bm_L_77 : Cond.methodLink RL 77 yX5_next ∈ bb_tb := bb_in 851 (by decide +kernel) (by decide +kernel)
set_option maxRecDepth 100000 in
theorem bm_L_78 : Cond.methodLink RL 78 yX4_stand ∈ bb_tb := bb_in 514 (by decide +kernel) (by decide +kernel)
set_option maxRecDepth 100000 in
theorem bm_L_81 : Cond.methodLink RL 81 yX5_stand ∈ bb_tb := bb_in 859 (by decide +kernel) (by decide +kernel)
set_option maxRecDepth 100000 in
theorem bm_L_82 : Cond.methodLink RL 82 yX4_hush ∈ bb_tb := bb_in 522 (by decide +kernel) (by decide +kernel)
set_option maxRecDepth 100000 in
theorem bm_L_85 : Cond.methodLink RL 85 yX5_hush ∈ bb_tb := bb_in 867 (by decide +kernel) (by decide +kernel)
set_option maxRecDepth 100000 in
theorem bm_L_86 : Cond.methodLink RL 86 yX4_mask ∈ bb_tb := bb_in 526 (by decide +kernel) (by decide +kernel)
set_option maxRecDepth 100000 in
theorem bm_L_89 : Cond.methodLink RL 89 yX5_mask ∈ bb_tb := bb_in 871 (by decide +kernel) (by decide +kernel)
set_option maxRecDepth 100000 in
theorem bm_L_90 : Cond.methodLink RL 90 yX4_alike ∈ bb_tb := bb_in 531 (by decide +kernel) (by decide +kernel)
set_option maxRecDepth 100000 in
theorem bm_L_93 : Cond.methodLink RL 93 yX5_alike ∈ bb_tb := bb_in 875 (by decide +kernel) (by decide +kernel)
set_option maxRecDepth 100000 in
theorem bm_L_94 : Cond.methodLink RL 94 yX4_turned ∈ bb_tb := bb_in 535 (by decide +kernel) (by decide +kernel)
set_option maxRecDepth 100000 in
theorem bm_L_97 : Cond.methodLink RL 97 yX5_turned ∈ bb_tb := bb_in 879 (by decide +kernel) (by decide +kernel)
set_option maxRecDepth 100000 in
theorem bm_L_98 : Cond.methodLink RL 98 yX4_luck ∈ bb_tb := bb_in 539 (by decide +kernel) (by decide +kernel)
set_option maxRecDepth 100000 in
theorem bm_L_101 : Cond.methodLink RL 101 yX5_luck ∈ bb_tb := bb_in 883 (by decide +kernel) (by decide +kernel)
set_option maxRecDepth 100000 in
theorem bm_L_102 : Cond.methodLink RL 102 yX4_image ∈ bb_tb := bb_in 550 (by decide +kernel) (by decide +kernel)
set_option maxRecDepth 100000 in
theorem bm_L_105 : Cond.methodLink RL 105 yX5_image ∈ bb_tb := bb_in 888 (by decide +kernel) (by decide +kernel)
set_option maxRecDepth 100000 in
theorem bm_L_106 : Cond.methodLink RL 106 yX4_restore ∈ bb_tb := bb_in 558 (by decide +kernel) (by decide +kernel)
set_option maxRecDepth 100000 in
theorem bm_L_109 : Cond.methodLink RL 109 yX5_restore ∈ bb_tb := bb_in 892 (by decide +kernel) (by decide +kernel)
set_option maxRecDepth 100000 in
theorem bm_L_110 : Cond.methodLink RL 110 yX4_seen ∈ bb_tb := bb_in 562 (by decide +kernel) (by decide +kernel)
set_option maxRecDepth 100000 in
theorem bm_L_114 : Cond.methodLink RL 114 yX5_seen ∈ bb_tb := bb_in 896 (by decide +kernel) (by decide +kernel)
set_option maxRecDepth 100000 in
theorem bm_L_115 : Cond.methodLink RL 115 yX4_film ∈ bb_tb := bb_in 586 (by decide +kernel) (by decide +kernel)
set_option maxRecDepth 100000 in
theorem bm_L_118 : Cond.methodLink RL 118 yX5_film ∈ bb_tb := bb_in 910 (by decide +kernel) (by decide +kernel)
set_option maxRecDepth 100000 in
theorem bm_L_119 : Cond.methodLink RL 119 yX4_sheet ∈ bb_tb := bb_in 594 (by decide +kernel) (by decide +kernel)
set_option maxRecDepth 100000 in
theorem bm_L_122 : Cond.methodLink RL 122 yX5_sheet ∈ bb_tb := bb_in 915 (by decide +kernel) (by decide +kernel)
set_option maxRecDepth 100000 in
theorem bm_L_123 : Cond.methodLink RL 123 yX4_drop ∈ bb_tb := bb_in 602 (by decide +kernel) (by decide +kernel)
set_option maxRecDepth 100000 in
theorem bm_L_126 : Cond.methodLink RL 126 yX5_drop ∈ bb_tb := bb_in 919 (by decide +kernel) (by decide +kernel)
set_option maxRecDepth 100000 in
theorem bm_L_129 : Cond.methodLink RL 129 yX4_item ∈ bb_tb := bb_in 611 (by decide +kernel) (by decide +kernel)
set_option maxRecDepth 100000 in
theorem bm_L_133 : Cond.methodLink RL 133 yX5_item ∈ bb_tb := bb_in 923 (by decide +kernel) (by decide +kernel)
set_option maxRecDepth 100000 in
theorem bm_L_134 : Cond.methodLink RL 134 yX4_copy ∈ bb_tb := bb_in 615 (by decide +kernel) (by decide +kernel)
set_option maxRecDepth 100000 in
theorem bm_L_137 : Cond.methodLink RL 137 yX5_copy ∈ bb_tb := bb_in 927 (by decide +kernel) (by decide +kernel)
set_option maxRecDepth 100000 in
theorem bm_X5_1 : Cond.methodLink RX5 1 objectInit ∈ bb_tb := bb_in 626 (by decide +kernel) (by decide +kernel)
set_option maxRecDepth 100000 in
theorem bm_X5_41 : Cond.methodLink RX5 41 yX5_fresh ∈ bb_tb := bb_in 627 (by decide +kernel) (by decide +kernel)
set_option maxRecDepth 100000 in
theorem bm_X5_49 : Cond.methodLink RX5 49 yX5_in ∈ bb_tb := bb_in 692 (by decide +kernel) (by decide +kernel)
set_option maxRecDepth 100000 in
theorem bm_X5_53 : Cond.methodLink RX5 53 yX5_told ∈ bb_tb := bb_in 727 (by decide +kernel) (by decide +kernel)
set_option maxRecDepth 100000 in
theorem bm_X5_57 : Cond.methodLink RX5 57 yX5_apart ∈ bb_tb := bb_in 731 (by decide +kernel) (by decide +kernel)
set_option maxRecDepth 100000 in
theorem bm_X5_60 : Cond.methodLink RX5 60 yX5_far ∈ bb_tb := bb_in 723 (by decide +kernel) (by decide +kernel)
set_option maxRecDepth 100000 in
theorem bm_X5_64 : Cond.methodLink RX5 64 yX5_many ∈ bb_tb := bb_in 742 (by decide +kernel) (by decide +kernel)
set_option maxRecDepth 100000 in
theorem bm_X5_67 : Cond.methodLink RX5 67 yX5_isFree ∈ bb_tb := bb_in 719 (by decide +kernel) (by decide +kernel)
set_option maxRecDepth 100000 in
theorem bm_X5_71 : Cond.methodLink RX5 71 yX5_loud ∈ bb_tb := bb_in 734 (by decide +kernel) (by decide +kernel)
set_option maxRecDepth 100000 in
theorem bm_X5_74 : Cond.methodLink RX5 74 yX5_follows ∈ bb_tb := bb_in 754 (by decide +kernel) (by decide +kernel)
set_option maxRecDepth 100000 in
theorem bm_X5_77 : Cond.methodLink RX5 77 yX5_nearer ∈ bb_tb := bb_in 806 (by decide +kernel) (by decide +kernel)
set_option maxRecDepth 100000 in
theorem bm_X5_83 : Cond.methodLink RX5 83 yX5_named ∈ bb_tb := bb_in 738 (by decide +kernel) (by decide +kernel)
set_option maxRecDepth 100000 in
theorem bm_X5_93 : Cond.methodLink RX5 93 yX5_cells ∈ bb_tb := bb_in 695 (by decide +kernel) (by decide +kernel)
set_option maxRecDepth 100000 in
theorem bm_X5_103 : Cond.methodLink RX5 103 yX5_comes ∈ bb_tb := bb_in 706 (by decide +kernel) (by decide +kernel)
set_option maxRecDepth 100000 in
theorem bm_X5_107 : Cond.methodLink RX5 107 yX5_isPerson ∈ bb_tb := bb_in 714 (by decide +kernel) (by decide +kernel)
set_option maxRecDepth 100000 in
theorem bm_X5_128 : Cond.methodLink RX5 128 yX5_here ∈ bb_tb := bb_in 772 (by decide +kernel) (by decide +kernel)
set_option maxRecDepth 100000 in
theorem bm_X5_131 : Cond.methodLink RX5 131 yX5_must ∈ bb_tb := bb_in 776 (by decide +kernel) (by decide +kernel)
set_option maxRecDepth 100000 in
theorem bm_X5_137 : Cond.methodLink RX5 137 yX5_digit ∈ bb_tb := bb_in 768 (by decide +kernel) (by decide +kernel)
set_option maxRecDepth 100000 in
theorem bm_X5_140 : Cond.methodLink RX5 140 yX5_readFace ∈ bb_tb := bb_in 788 (by decide +kernel) (by decide +kernel)
set_option maxRecDepth 100000 in
theorem bm_X5_143 : Cond.methodLink RX5 143 yX5_sign ∈ bb_tb := bb_in 780 (by decide +kernel) (by decide +kernel)
set_option maxRecDepth 100000 in
theorem bm_X5_147 : Cond.methodLink RX5 147 yX5_readPeople ∈ bb_tb := bb_in 784 (by decide +kernel) (by decide +kernel)
set_option maxRecDepth 100000 in
theorem bm_X5_152 : Cond.methodLink RX5 152 yX5_notes ∈ bb_tb := bb_in 798 (by decide +kernel) (by decide +kernel)
set_option maxRecDepth 100000 in
theorem bm_X5_155 : Cond.methodLink RX5 155 yX5_goesBy ∈ bb_tb := bb_in 802 (by decide +kernel) (by decide +kernel)
set_option maxRecDepth 100000 in
theorem bm_X5_161 : Cond.methodLink RX5 161 yX5_beside ∈ bb_tb := bb_in 814 (by decide +kernel) (by decide +kernel)
set_option maxRecDepth 100000 in
theorem bm_X5_173 : Cond.methodLink RX5 173 yX5_asides ∈ bb_tb := bb_in 843 (by decide +kernel) (by decide +kernel)
set_option maxRecDepth 100000 in
theorem bm_X5_176 : Cond.methodLink RX5 176 yX5_backs ∈ bb_tb := bb_in 847 (by decide +kernel) (by decide +kernel)
set_option maxRecDepth 100000 in
theorem bm_X5_179 : Cond.methodLink RX5 179 yX5_nextBehind ∈ bb_tb := bb_in 855 (by decide +kernel) (by decide +kernel)
set_option maxRecDepth 100000 in
theorem bm_X5_182 : Cond.methodLink RX5 182 yX5_caughtBehind ∈ bb_tb := bb_in 863 (by decide +kernel) (by decide +kernel)
set_option maxRecDepth 100000 in
theorem bm_X5_193 : Cond.methodLink RX5 193 yX5_isSheet ∈ bb_tb := bb_in 900 (by decide +kernel) (by decide +kernel)
set_option maxRecDepth 100000 in
theorem bm_X5_196 : Cond.methodLink RX5 196 yX5_isLane ∈ bb_tb := bb_in 903 (by decide +kernel) (by decide +kernel)
set_option maxRecDepth 100000 in
theorem bm_X5_199 : Cond.methodLink RX5 199 yX5_why ∈ bb_tb := bb_in 906 (by decide +kernel) (by decide +kernel)
set_option maxRecDepth 100000 in
theorem bk_X0_114 : Cond.constant RX0 114 (1103515245) ∈ bb_tb := bb_in 485 (by decide +kernel) (by decide +kernel)
set_option maxRecDepth 100000 in
theorem bk_X0_115 : Cond.constant RX0 115 (2147483647) ∈ bb_tb := bb_in 486 (by decide +kernel) (by decide +kernel)
set_option maxRecDepth 100000 in
theorem bk_X0_116 : Cond.constant RX0 116 (65536) ∈ bb_tb := bb_in 487 (by decide +kernel) (by decide +kernel)
set_option maxRecDepth 100000 in
theorem bk_X5_170 : Cond.constant RX5 170 (65536) ∈ bb_tb := bb_in 829 (by decide +kernel) (by decide +kernel)
set_option maxRecDepth 100000 in
theorem bk_J6_265 : Cond.constant RJ6 265 (1431655765) ∈ bb_tb := bb_in 280 (by decide +kernel) (by decide +kernel)
set_option maxRecDepth 100000 in
theorem bk_J6_266 : Cond.constant RJ6 266 (858993459) ∈ bb_tb := bb_in 281 (by decide +kernel) (by decide +kernel)
set_option maxRecDepth 100000 in
theorem bk_J6_267 : Cond.constant RJ6 267 (252645135) ∈ bb_tb := bb_in 282 (by decide +kernel) (by decide +kernel)
set_option maxRecDepth 100000 in
theorem bk_L_127 : Cond.constantLong RL 127 (4294967295) ∈ bb_tb := bb_in 931 (by decide +kernel) (by decide +kernel)
set_option maxRecDepth 100000 in
theorem bk_X5_89 : Cond.constantLong RX5 89 (2) ∈ bb_tb := bb_in 690 (by decide +kernel) (by decide +kernel)
set_option maxRecDepth 100000 in
theorem bk_X5_91 : Cond.constantLong RX5 91 (6) ∈ bb_tb := bb_in 691 (by decide +kernel) (by decide +kernel)
set_option maxRecDepth 100000 in
theorem bk_X5_97 : Cond.constantLong RX5 97 (4) ∈ bb_tb := bb_in 703 (by decide +kernel) (by decide +kernel)
set_option maxRecDepth 100000 in
theorem bk_X5_99 : Cond.constantLong RX5 99 (9) ∈ bb_tb := bb_in 704 (by decide +kernel) (by decide +kernel)
set_option maxRecDepth 100000 in
theorem bk_X5_101 : Cond.constantLong RX5 101 (63) ∈ bb_tb := bb_in 705 (by decide +kernel) (by decide +kernel)
set_option maxRecDepth 100000 in
theorem bk_X5_110 : Cond.constantLong RX5 110 (8) ∈ bb_tb := bb_in 718 (by decide +kernel) (by decide +kernel)
set_option maxRecDepth 100000 in
theorem bk_X5_112 : Cond.constantLong RX5 112 (7) ∈ bb_tb := bb_in 753 (by decide +kernel) (by decide +kernel)
set_option maxRecDepth 100000 in
theorem bk_X5_114 : Cond.constantLong RX5 114 (32) ∈ bb_tb := bb_in 762 (by decide +kernel) (by decide +kernel)
set_option maxRecDepth 100000 in
theorem bk_X5_116 : Cond.constantLong RX5 116 (126) ∈ bb_tb := bb_in 763 (by decide +kernel) (by decide +kernel)
set_option maxRecDepth 100000 in
theorem bk_X5_135 : Cond.constantLong RX5 135 (5) ∈ bb_tb := bb_in 792 (by decide +kernel) (by decide +kernel)
set_option maxRecDepth 100000 in
theorem bk_X5_150 : Cond.constantLong RX5 150 (40) ∈ bb_tb := bb_in 797 (by decide +kernel) (by decide +kernel)
set_option maxRecDepth 100000 in
theorem bk_X5_159 : Cond.constantLong RX5 159 (3) ∈ bb_tb := bb_in 813 (by decide +kernel) (by decide +kernel)
set_option maxRecDepth 100000 in
theorem bk_X5_164 : Cond.constantLong RX5 164 (1103515245) ∈ bb_tb := bb_in 826 (by decide +kernel) (by decide +kernel)
set_option maxRecDepth 100000 in
theorem bk_X5_166 : Cond.constantLong RX5 166 (12345) ∈ bb_tb := bb_in 827 (by decide +kernel) (by decide +kernel)
set_option maxRecDepth 100000 in
theorem bk_X5_168 : Cond.constantLong RX5 168 (2147483647) ∈ bb_tb := bb_in 828 (by decide +kernel) (by decide +kernel)
set_option maxRecDepth 100000 in
theorem bk_X5_171 : Cond.constantLong RX5 171 (60) ∈ bb_tb := bb_in 842 (by decide +kernel) (by decide +kernel)
set_option maxRecDepth 100000 in
theorem bk_X5_185 : Cond.constantLong RX5 185 (10) ∈ bb_tb := bb_in 887 (by decide +kernel) (by decide +kernel)
set_option maxRecDepth 100000 in
theorem bk_X5_203 : Cond.constantLong RX5 203 (24) ∈ bb_tb := bb_in 914 (by decide +kernel) (by decide +kernel)
set_option maxRecDepth 100000 in
theorem bl_abs_s : Cond.static Lib.Math.abs.name ∈ bb_tb := bb_in 255 (by decide +kernel) (by decide +kernel)
set_option maxRecDepth 100000 in
theorem bl_abs_c : Cond.code Lib.Math.abs.name Lib.Math.abs.code 1 (some .int) ∈ bb_tb := bb_in 256 (by decide +kernel) (by decide +kernel)
set_option maxRecDepth 100000 in
theorem bl_max_s : Cond.static Lib.Math.max.name ∈ bb_tb := bb_in 267 (by decide +kernel) (by decide +kernel)
set_option maxRecDepth 100000 in
theorem bl_max_c : Cond.code Lib.Math.max.name Lib.Math.max.code 2 (some .int) ∈ bb_tb := bb_in 268 (by decide +kernel) (by decide +kernel)
set_option maxRecDepth 100000 in
theorem bl_min_s : Cond.static Lib.Math.min.name ∈ bb_tb := bb_in 367 (by decide +kernel) (by decide +kernel)
set_option maxRecDepth 100000 in
theorem bl_min_c : Cond.code Lib.Math.min.name Lib.Math.min.code 2 (some .int) ∈ bb_tb := bb_in 368 (by decide +kernel) (by decide +kernel)
set_option maxRecDepth 100000 in
theorem bl_Math : Cond.initialized "java/lang/Math" ∈ bb_tb := bb_in 32 (by decide +kernel) (by decide +kernel)
set_option maxRecDepth 100000 in
theorem bl_System : Cond.initialized "java/lang/System" ∈ bb_tb := bb_in 34 (by decide +kernel) (by decide +kernel)
set_option maxRecDepth 100000 in
theorem bl_ac_n : Cond.native arraycopyName ∈ bb_tb := bb_in 305 (by decide +kernel) (by decide +kernel)
set_option maxRecDepth 100000 in
theorem bl_ac_s : Cond.static arraycopyName ∈ bb_tb := bb_in 304 (by decide +kernel) (by decide +kernel)
set_option maxRecDepth 100000 in
theorem bi_X0 : ∀ w ∈ wsX00, w ∈ bb_tb := by decide +kernel
set_option maxRecDepth 100000 in
theorem bi_X1 : ∀ w ∈ wsX10, w ∈ bb_tb := by decide +kernel
set_option maxRecDepth 100000 in
theorem bi_X2 : ∀ w ∈ wsX20, w ∈ bb_tb := by decide +kernel
set_option maxRecDepth 100000 in
theorem bi_X3 : ∀ w ∈ wsX30, w ∈ bb_tb := by decide +kernel
set_option maxRecDepth 100000 in
theorem bi_X4 : ∀ w ∈ wsX40, w ∈ bb_tb := by decide +kernel
set_option maxRecDepth 100000 in
theorem bi_X5 : ∀ w ∈ wsX50, w ∈ bb_tb := by decide +kernel
set_option maxRecDepth 100000 in
theorem bv_X0_take : bb_cv RX0 yX0_take cX0_take 2 none 1 := ⟨bb_in 300 (by decide +kernel) (by decide +kernel), bb_in 301 (by decide +kernel) (by decide +kernel), bb_in 27 (by decide +kernel) (by decide +kernel), bb_in 302 (by decide +kernel) (by decide +kernel), ⟨by decide +kernel, by decide +kernel, by decide +kernel, by decide +kernel⟩, by decide⟩
set_option maxRecDepth 100000 in
theorem bv_X0_build : bb_cv RX0 yX0_build cX0_build 3 none 2 := ⟨bb_in 215 (by decide +kernel) (by decide +kernel), bb_in 216 (by decide +kernel) (by decide +kernel), bb_in 27 (by decide +kernel) (by decide +kernel), bb_in 217 (by decide +kernel) (by decide +kernel), ⟨by decide +kernel, by decide +kernel, by decide +kernel, by decide +kernel⟩, by decide⟩
set_option maxRecDepth 100000 in
theorem bv_X0_enter : bb_cv RX0 yX0_enter cX0_enter 6 (some .int) 4 := ⟨bb_in 231 (by decide +kernel) (by decide +kernel), bb_in 232 (by decide +kernel) (by decide +kernel), bb_in 27 (by decide +kernel) (by decide +kernel), bb_in 233 (by decide +kernel) (by decide +kernel), ⟨by decide +kernel, by decide +kernel, by decide +kernel, by decide +kernel⟩, by decide⟩
set_option maxRecDepth 100000 in
theorem bv_X0_cells : bb_cv RX0 yX0_cells cX0_cells 1 (some .int) 0 := ⟨bb_in 223 (by decide +kernel) (by decide +kernel), bb_in 224 (by decide +kernel) (by decide +kernel), bb_in 27 (by decide +kernel) (by decide +kernel), bb_in 225 (by decide +kernel) (by decide +kernel), ⟨by decide +kernel, by decide +kernel, by decide +kernel, by decide +kernel⟩, by decide⟩
set_option maxRecDepth 100000 in
theorem bv_X0_isFree : bb_cv RX0 yX0_isFree cX0_isFree 2 (some .boolean) 1 := ⟨bb_in 243 (by decide +kernel) (by decide +kernel), bb_in 244 (by decide +kernel) (by decide +kernel), bb_in 27 (by decide +kernel) (by decide +kernel), bb_in 245 (by decide +kernel) (by decide +kernel), ⟨by decide +kernel, by decide +kernel, by decide +kernel, by decide +kernel⟩, by decide⟩
set_option maxRecDepth 100000 in
theorem bv_X0_far : bb_cv RX0 yX0_far cX0_far 2 (some .int) 1 := ⟨bb_in 247 (by decide +kernel) (by decide +kernel), bb_in 248 (by decide +kernel) (by decide +kernel), bb_in 27 (by decide +kernel) (by decide +kernel), bb_in 249 (by decide +kernel) (by decide +kernel), ⟨by decide +kernel, by decide +kernel, by decide +kernel, by decide +kernel⟩, by decide⟩
set_option maxRecDepth 100000 in
theorem bv_X0_rowOf : bb_cv RX0 yX0_rowOf cX0_rowOf 2 (some .int) 1 := ⟨bb_in 251 (by decide +kernel) (by decide +kernel), bb_in 252 (by decide +kernel) (by decide +kernel), bb_in 27 (by decide +kernel) (by decide +kernel), bb_in 253 (by decide +kernel) (by decide +kernel), ⟨by decide +kernel, by decide +kernel, by decide +kernel, by decide +kernel⟩, by decide⟩
set_option maxRecDepth 100000 in
theorem bv_X0_columnOf : bb_cv RX0 yX0_columnOf cX0_columnOf 2 (some .int) 1 := ⟨bb_in 258 (by decide +kernel) (by decide +kernel), bb_in 259 (by decide +kernel) (by decide +kernel), bb_in 27 (by decide +kernel) (by decide +kernel), bb_in 260 (by decide +kernel) (by decide +kernel), ⟨by decide +kernel, by decide +kernel, by decide +kernel, by decide +kernel⟩, by decide⟩
set_option maxRecDepth 100000 in
theorem bv_X0_loud : bb_cv RX0 yX0_loud cX0_loud 6 (some .int) 1 := ⟨bb_in 262 (by decide +kernel) (by decide +kernel), bb_in 263 (by decide +kernel) (by decide +kernel), bb_in 27 (by decide +kernel) (by decide +kernel), bb_in 264 (by decide +kernel) (by decide +kernel), ⟨by decide +kernel, by decide +kernel, by decide +kernel, by decide +kernel⟩, by decide⟩
set_option maxRecDepth 100000 in
theorem bv_X0_followed : bb_cv RX0 yX0_followed cX0_followed 5 (some .int) 0 := ⟨bb_in 432 (by decide +kernel) (by decide +kernel), bb_in 433 (by decide +kernel) (by decide +kernel), bb_in 27 (by decide +kernel) (by decide +kernel), bb_in 434 (by decide +kernel) (by decide +kernel), ⟨by decide +kernel, by decide +kernel, by decide +kernel, by decide +kernel⟩, by decide⟩
set_option maxRecDepth 100000 in
theorem bv_X0_goesFirst : bb_cv RX0 yX0_goesFirst cX0_goesFirst 4 (some .boolean) 2 := ⟨bb_in 544 (by decide +kernel) (by decide +kernel), bb_in 545 (by decide +kernel) (by decide +kernel), bb_in 27 (by decide +kernel) (by decide +kernel), bb_in 546 (by decide +kernel) (by decide +kernel), ⟨by decide +kernel, by decide +kernel, by decide +kernel, by decide +kernel⟩, by decide⟩
set_option maxRecDepth 100000 in
theorem bv_X0_feel : bb_cv RX0 yX0_feel cX0_feel 2 (some .int) 1 := ⟨bb_in 270 (by decide +kernel) (by decide +kernel), bb_in 271 (by decide +kernel) (by decide +kernel), bb_in 27 (by decide +kernel) (by decide +kernel), bb_in 272 (by decide +kernel) (by decide +kernel), ⟨by decide +kernel, by decide +kernel, by decide +kernel, by decide +kernel⟩, by decide⟩
set_option maxRecDepth 100000 in
theorem bv_X0_namedBy : bb_cv RX0 yX0_namedBy cX0_namedBy 6 (some .int) 1 := ⟨bb_in 274 (by decide +kernel) (by decide +kernel), bb_in 275 (by decide +kernel) (by decide +kernel), bb_in 27 (by decide +kernel) (by decide +kernel), bb_in 276 (by decide +kernel) (by decide +kernel), ⟨by decide +kernel, by decide +kernel, by decide +kernel, by decide +kernel⟩, by decide⟩
set_option maxRecDepth 100000 in
theorem bv_X0_pass : bb_cv RX0 yX0_pass cX0_pass 3 (some .int) 0 := ⟨bb_in 448 (by decide +kernel) (by decide +kernel), bb_in 449 (by decide +kernel) (by decide +kernel), bb_in 27 (by decide +kernel) (by decide +kernel), bb_in 450 (by decide +kernel) (by decide +kernel), ⟨by decide +kernel, by decide +kernel, by decide +kernel, by decide +kernel⟩, by decide⟩
set_option maxRecDepth 100000 in
theorem bv_X0_nearerTo : bb_cv RX0 yX0_nearerTo cX0_nearerTo 3 (some .int) 1 := ⟨bb_in 453 (by decide +kernel) (by decide +kernel), bb_in 454 (by decide +kernel) (by decide +kernel), bb_in 27 (by decide +kernel) (by decide +kernel), bb_in 455 (by decide +kernel) (by decide +kernel), ⟨by decide +kernel, by decide +kernel, by decide +kernel, by decide +kernel⟩, by decide⟩
set_option maxRecDepth 100000 in
theorem bv_X0_firstOnHisCell : bb_cv RX0 yX0_firstOnHisCell cX0_firstOnHisCell 2 (some .int) 0 := ⟨bb_in 460 (by decide +kernel) (by decide +kernel), bb_in 461 (by decide +kernel) (by decide +kernel), bb_in 27 (by decide +kernel) (by decide +kernel), bb_in 462 (by decide +kernel) (by decide +kernel), ⟨by decide +kernel, by decide +kernel, by decide +kernel, by decide +kernel⟩, by decide⟩
set_option maxRecDepth 100000 in
theorem bv_X0_passUntilCaught : bb_cv RX0 yX0_passUntilCaught cX0_passUntilCaught 3 (some .int) 0 := ⟨bb_in 510 (by decide +kernel) (by decide +kernel), bb_in 511 (by decide +kernel) (by decide +kernel), bb_in 27 (by decide +kernel) (by decide +kernel), bb_in 512 (by decide +kernel) (by decide +kernel), ⟨by decide +kernel, by decide +kernel, by decide +kernel, by decide +kernel⟩, by decide⟩
set_option maxRecDepth 100000 in
theorem bv_X0_behindHowMany : bb_cv RX0 yX0_behindHowMany cX0_behindHowMany 4 (some .int) 2 := ⟨bb_in 519 (by decide +kernel) (by decide +kernel), bb_in 520 (by decide +kernel) (by decide +kernel), bb_in 27 (by decide +kernel) (by decide +kernel), bb_in 521 (by decide +kernel) (by decide +kernel), ⟨by decide +kernel, by decide +kernel, by decide +kernel, by decide +kernel⟩, by decide⟩
set_option maxRecDepth 100000 in
theorem bv_X0_beside : bb_cv RX0 yX0_beside cX0_beside 3 (some .int) 2 := ⟨bb_in 470 (by decide +kernel) (by decide +kernel), bb_in 471 (by decide +kernel) (by decide +kernel), bb_in 27 (by decide +kernel) (by decide +kernel), bb_in 472 (by decide +kernel) (by decide +kernel), ⟨by decide +kernel, by decide +kernel, by decide +kernel, by decide +kernel⟩, by decide⟩
set_option maxRecDepth 100000 in
theorem bv_X0_stray : bb_cv RX0 yX0_stray cX0_stray 3 none 0 := ⟨bb_in 482 (by decide +kernel) (by decide +kernel), bb_in 483 (by decide +kernel) (by decide +kernel), bb_in 27 (by decide +kernel) (by decide +kernel), bb_in 484 (by decide +kernel) (by decide +kernel), ⟨by decide +kernel, by decide +kernel, by decide +kernel, by decide +kernel⟩, by decide⟩
set_option maxRecDepth 100000 in
theorem bv_X1_forget : bb_cv RX1 yX1_forget cX1_forget 1 none 0 := ⟨bb_in 219 (by decide +kernel) (by decide +kernel), bb_in 220 (by decide +kernel) (by decide +kernel), bb_in 28 (by decide +kernel) (by decide +kernel), bb_in 221 (by decide +kernel) (by decide +kernel), ⟨by decide +kernel, by decide +kernel, by decide +kernel, by decide +kernel⟩, by decide⟩
set_option maxRecDepth 100000 in
theorem bv_X1_keep : bb_cv RX1 yX1_keep cX1_keep 3 none 1 := ⟨bb_in 442 (by decide +kernel) (by decide +kernel), bb_in 443 (by decide +kernel) (by decide +kernel), bb_in 28 (by decide +kernel) (by decide +kernel), bb_in 444 (by decide +kernel) (by decide +kernel), ⟨by decide +kernel, by decide +kernel, by decide +kernel, by decide +kernel⟩, by decide⟩
set_option maxRecDepth 100000 in
theorem bv_X1_bringBack : bb_cv RX1 yX1_bringBack cX1_bringBack 3 none 1 := ⟨bb_in 494 (by decide +kernel) (by decide +kernel), bb_in 495 (by decide +kernel) (by decide +kernel), bb_in 28 (by decide +kernel) (by decide +kernel), bb_in 496 (by decide +kernel) (by decide +kernel), ⟨by decide +kernel, by decide +kernel, by decide +kernel, by decide +kernel⟩, by decide⟩
set_option maxRecDepth 100000 in
theorem bv_X1_takePast : bb_cv RX1 yX1_takePast cX1_takePast 3 none 1 := ⟨bb_in 555 (by decide +kernel) (by decide +kernel), bb_in 556 (by decide +kernel) (by decide +kernel), bb_in 28 (by decide +kernel) (by decide +kernel), bb_in 557 (by decide +kernel) (by decide +kernel), ⟨by decide +kernel, by decide +kernel, by decide +kernel, by decide +kernel⟩, by decide⟩
set_option maxRecDepth 100000 in
theorem bv_X2_isMissing : bb_cv RX2 yX2_isMissing cX2_isMissing 1 (some .boolean) 0 := ⟨bb_in 574 (by decide +kernel) (by decide +kernel), bb_in 575 (by decide +kernel) (by decide +kernel), bb_in 30 (by decide +kernel) (by decide +kernel), bb_in 576 (by decide +kernel) (by decide +kernel), ⟨by decide +kernel, by decide +kernel, by decide +kernel, by decide +kernel⟩, by decide⟩
set_option maxRecDepth 100000 in
theorem bv_X2_renew : bb_cv RX2 yX2_renew cX2_renew 4 none 2 := ⟨bb_in 599 (by decide +kernel) (by decide +kernel), bb_in 600 (by decide +kernel) (by decide +kernel), bb_in 30 (by decide +kernel) (by decide +kernel), bb_in 601 (by decide +kernel) (by decide +kernel), ⟨by decide +kernel, by decide +kernel, by decide +kernel, by decide +kernel⟩, by decide⟩
set_option maxRecDepth 100000 in
theorem bv_X2_lose : bb_cv RX2 yX2_lose cX2_lose 1 none 0 := ⟨bb_in 608 (by decide +kernel) (by decide +kernel), bb_in 609 (by decide +kernel) (by decide +kernel), bb_in 30 (by decide +kernel) (by decide +kernel), bb_in 610 (by decide +kernel) (by decide +kernel), ⟨by decide +kernel, by decide +kernel, by decide +kernel, by decide +kernel⟩, by decide⟩
set_option maxRecDepth 100000 in
theorem bv_X2_faultOf : bb_cv RX2 yX2_faultOf cX2_faultOf 4 (some .int) 3 := ⟨bb_in 570 (by decide +kernel) (by decide +kernel), bb_in 571 (by decide +kernel) (by decide +kernel), bb_in 30 (by decide +kernel) (by decide +kernel), bb_in 572 (by decide +kernel) (by decide +kernel), ⟨by decide +kernel, by decide +kernel, by decide +kernel, by decide +kernel⟩, by decide⟩
set_option maxRecDepth 100000 in
theorem bv_X2_reaches : bb_cv RX2 yX2_reaches cX2_reaches 3 (some .boolean) 2 := ⟨bb_in 578 (by decide +kernel) (by decide +kernel), bb_in 579 (by decide +kernel) (by decide +kernel), bb_in 30 (by decide +kernel) (by decide +kernel), bb_in 580 (by decide +kernel) (by decide +kernel), ⟨by decide +kernel, by decide +kernel, by decide +kernel, by decide +kernel⟩, by decide⟩
set_option maxRecDepth 100000 in
theorem bv_X2_put : bb_cv RX2 yX2_put cX2_put 4 none 2 := ⟨bb_in 591 (by decide +kernel) (by decide +kernel), bb_in 592 (by decide +kernel) (by decide +kernel), bb_in 30 (by decide +kernel) (by decide +kernel), bb_in 593 (by decide +kernel) (by decide +kernel), ⟨by decide +kernel, by decide +kernel, by decide +kernel, by decide +kernel⟩, by decide⟩
set_option maxRecDepth 100000 in
theorem bv_X2_tellsOf : bb_cv RX2 yX2_tellsOf cX2_tellsOf 5 (some .boolean) 3 := ⟨bb_in 582 (by decide +kernel) (by decide +kernel), bb_in 583 (by decide +kernel) (by decide +kernel), bb_in 30 (by decide +kernel) (by decide +kernel), bb_in 584 (by decide +kernel) (by decide +kernel), ⟨by decide +kernel, by decide +kernel, by decide +kernel, by decide +kernel⟩, by decide⟩
set_option maxRecDepth 100000 in
theorem bv_X3_add : bb_cv RX3 yX3_add cX3_add 2 (some .int) 1 := ⟨bb_in 292 (by decide +kernel) (by decide +kernel), bb_in 293 (by decide +kernel) (by decide +kernel), bb_in 29 (by decide +kernel) (by decide +kernel), bb_in 294 (by decide +kernel) (by decide +kernel), ⟨by decide +kernel, by decide +kernel, by decide +kernel, by decide +kernel⟩, by decide⟩
set_option maxRecDepth 100000 in
theorem bv_X3_readInto : bb_cv RX3 yX3_readInto cX3_readInto 3 (some .boolean) 1 := ⟨bb_in 307 (by decide +kernel) (by decide +kernel), bb_in 308 (by decide +kernel) (by decide +kernel), bb_in 29 (by decide +kernel) (by decide +kernel), bb_in 309 (by decide +kernel) (by decide +kernel), ⟨by decide +kernel, by decide +kernel, by decide +kernel, by decide +kernel⟩, by decide⟩
set_option maxRecDepth 100000 in
theorem bv_X3_readStreets : bb_cv RX3 yX3_readStreets cX3_readStreets 5 (some .boolean) 1 := ⟨bb_in 311 (by decide +kernel) (by decide +kernel), bb_in 312 (by decide +kernel) (by decide +kernel), bb_in 29 (by decide +kernel) (by decide +kernel), bb_in 313 (by decide +kernel) (by decide +kernel), ⟨by decide +kernel, by decide +kernel, by decide +kernel, by decide +kernel⟩, by decide⟩
set_option maxRecDepth 100000 in
theorem bv_X3_readPerson : bb_cv RX3 yX3_readPerson cX3_readPerson 5 (some .boolean) 1 := ⟨bb_in 333 (by decide +kernel) (by decide +kernel), bb_in 334 (by decide +kernel) (by decide +kernel), bb_in 29 (by decide +kernel) (by decide +kernel), bb_in 335 (by decide +kernel) (by decide +kernel), ⟨by decide +kernel, by decide +kernel, by decide +kernel, by decide +kernel⟩, by decide⟩
set_option maxRecDepth 100000 in
theorem bv_X3_readFeatures : bb_cv RX3 yX3_readFeatures cX3_readFeatures 3 (some .int) 0 := ⟨bb_in 422 (by decide +kernel) (by decide +kernel), bb_in 423 (by decide +kernel) (by decide +kernel), bb_in 29 (by decide +kernel) (by decide +kernel), bb_in 424 (by decide +kernel) (by decide +kernel), ⟨by decide +kernel, by decide +kernel, by decide +kernel, by decide +kernel⟩, by decide⟩
set_option maxRecDepth 100000 in
theorem bv_X3_readCell : bb_cv RX3 yX3_readCell cX3_readCell 4 (some .int) 1 := ⟨bb_in 328 (by decide +kernel) (by decide +kernel), bb_in 329 (by decide +kernel) (by decide +kernel), bb_in 29 (by decide +kernel) (by decide +kernel), bb_in 330 (by decide +kernel) (by decide +kernel), ⟨by decide +kernel, by decide +kernel, by decide +kernel, by decide +kernel⟩, by decide⟩
set_option maxRecDepth 100000 in
theorem bv_X3_readDigit : bb_cv RX3 yX3_readDigit cX3_readDigit 4 (some .int) 2 := ⟨bb_in 315 (by decide +kernel) (by decide +kernel), bb_in 316 (by decide +kernel) (by decide +kernel), bb_in 29 (by decide +kernel) (by decide +kernel), bb_in 317 (by decide +kernel) (by decide +kernel), ⟨by decide +kernel, by decide +kernel, by decide +kernel, by decide +kernel⟩, by decide⟩
set_option maxRecDepth 100000 in
theorem bv_X3_readSign : bb_cv RX3 yX3_readSign cX3_readSign 2 (some .boolean) 1 := ⟨bb_in 323 (by decide +kernel) (by decide +kernel), bb_in 324 (by decide +kernel) (by decide +kernel), bb_in 29 (by decide +kernel) (by decide +kernel), bb_in 325 (by decide +kernel) (by decide +kernel), ⟨by decide +kernel, by decide +kernel, by decide +kernel, by decide +kernel⟩, by decide⟩
set_option maxRecDepth 100000 in
theorem bv_X3_peek : bb_cv RX3 yX3_peek cX3_peek 1 (some .char) 0 := ⟨bb_in 319 (by decide +kernel) (by decide +kernel), bb_in 320 (by decide +kernel) (by decide +kernel), bb_in 29 (by decide +kernel) (by decide +kernel), bb_in 321 (by decide +kernel) (by decide +kernel), ⟨by decide +kernel, by decide +kernel, by decide +kernel, by decide +kernel⟩, by decide⟩
set_option maxRecDepth 100000 in
theorem bv_X4_streets : bb_cv RX4 yX4_streets cX4_streets 3 (some .int) 2 := ⟨bb_in 208 (by decide +kernel) (by decide +kernel), bb_in 209 (by decide +kernel) (by decide +kernel), bb_in 26 (by decide +kernel) (by decide +kernel), bb_in 210 (by decide +kernel) (by decide +kernel), ⟨by decide +kernel, by decide +kernel, by decide +kernel, by decide +kernel⟩, by decide⟩
set_option maxRecDepth 100000 in
theorem bv_X4_person : bb_cv RX4 yX4_person cX4_person 5 (some .int) 4 := ⟨bb_in 227 (by decide +kernel) (by decide +kernel), bb_in 228 (by decide +kernel) (by decide +kernel), bb_in 26 (by decide +kernel) (by decide +kernel), bb_in 229 (by decide +kernel) (by decide +kernel), ⟨by decide +kernel, by decide +kernel, by decide +kernel, by decide +kernel⟩, by decide⟩
set_option maxRecDepth 100000 in
theorem bv_X4_of : bb_cv RX4 yX4_of cX4_of 3 (some .int) 2 := ⟨bb_in 235 (by decide +kernel) (by decide +kernel), bb_in 236 (by decide +kernel) (by decide +kernel), bb_in 26 (by decide +kernel) (by decide +kernel), bb_in 237 (by decide +kernel) (by decide +kernel), ⟨by decide +kernel, by decide +kernel, by decide +kernel, by decide +kernel⟩, by decide⟩
set_option maxRecDepth 100000 in
theorem bv_X4_rule : bb_cv RX4 yX4_rule cX4_rule 5 (some .int) 3 := ⟨bb_in 284 (by decide +kernel) (by decide +kernel), bb_in 285 (by decide +kernel) (by decide +kernel), bb_in 26 (by decide +kernel) (by decide +kernel), bb_in 286 (by decide +kernel) (by decide +kernel), ⟨by decide +kernel, by decide +kernel, by decide +kernel, by decide +kernel⟩, by decide⟩
set_option maxRecDepth 100000 in
theorem bv_X4_type : bb_cv RX4 yX4_type cX4_type 2 (some .int) 1 := ⟨bb_in 288 (by decide +kernel) (by decide +kernel), bb_in 289 (by decide +kernel) (by decide +kernel), bb_in 26 (by decide +kernel) (by decide +kernel), bb_in 290 (by decide +kernel) (by decide +kernel), ⟨by decide +kernel, by decide +kernel, by decide +kernel, by decide +kernel⟩, by decide⟩
set_option maxRecDepth 100000 in
theorem bv_X4_city : bb_cv RX4 yX4_city cX4_city 3 (some .int) 0 := ⟨bb_in 296 (by decide +kernel) (by decide +kernel), bb_in 297 (by decide +kernel) (by decide +kernel), bb_in 26 (by decide +kernel) (by decide +kernel), bb_in 298 (by decide +kernel) (by decide +kernel), ⟨by decide +kernel, by decide +kernel, by decide +kernel, by decide +kernel⟩, by decide⟩
set_option maxRecDepth 100000 in
theorem bv_X4_count : bb_cv RX4 yX4_count cX4_count 2 (some .int) 1 := ⟨bb_in 428 (by decide +kernel) (by decide +kernel), bb_in 429 (by decide +kernel) (by decide +kernel), bb_in 26 (by decide +kernel) (by decide +kernel), bb_in 430 (by decide +kernel) (by decide +kernel), ⟨by decide +kernel, by decide +kernel, by decide +kernel, by decide +kernel⟩, by decide⟩
set_option maxRecDepth 100000 in
theorem bv_X4_minutes : bb_cv RX4 yX4_minutes cX4_minutes 3 (some .int) 1 := ⟨bb_in 438 (by decide +kernel) (by decide +kernel), bb_in 439 (by decide +kernel) (by decide +kernel), bb_in 26 (by decide +kernel) (by decide +kernel), bb_in 440 (by decide +kernel) (by decide +kernel), ⟨by decide +kernel, by decide +kernel, by decide +kernel, by decide +kernel⟩, by decide⟩
set_option maxRecDepth 100000 in
theorem bv_X4_walk : bb_cv RX4 yX4_walk cX4_walk 4 (some .int) 2 := ⟨bb_in 466 (by decide +kernel) (by decide +kernel), bb_in 467 (by decide +kernel) (by decide +kernel), bb_in 26 (by decide +kernel) (by decide +kernel), bb_in 468 (by decide +kernel) (by decide +kernel), ⟨by decide +kernel, by decide +kernel, by decide +kernel, by decide +kernel⟩, by decide⟩
set_option maxRecDepth 100000 in
theorem bv_X4_free : bb_cv RX4 yX4_free cX4_free 2 (some .int) 1 := ⟨bb_in 474 (by decide +kernel) (by decide +kernel), bb_in 475 (by decide +kernel) (by decide +kernel), bb_in 26 (by decide +kernel) (by decide +kernel), bb_in 476 (by decide +kernel) (by decide +kernel), ⟨by decide +kernel, by decide +kernel, by decide +kernel, by decide +kernel⟩, by decide⟩
set_option maxRecDepth 100000 in
theorem bv_X4_drift : bb_cv RX4 yX4_drift cX4_drift 3 (some .int) 1 := ⟨bb_in 478 (by decide +kernel) (by decide +kernel), bb_in 479 (by decide +kernel) (by decide +kernel), bb_in 26 (by decide +kernel) (by decide +kernel), bb_in 480 (by decide +kernel) (by decide +kernel), ⟨by decide +kernel, by decide +kernel, by decide +kernel, by decide +kernel⟩, by decide⟩
set_option maxRecDepth 100000 in
theorem bv_X4_undo : bb_cv RX4 yX4_undo cX4_undo 1 (some .int) 0 := ⟨bb_in 490 (by decide +kernel) (by decide +kernel), bb_in 491 (by decide +kernel) (by decide +kernel), bb_in 26 (by decide +kernel) (by decide +kernel), bb_in 492 (by decide +kernel) (by decide +kernel), ⟨by decide +kernel, by decide +kernel, by decide +kernel, by decide +kernel⟩, by decide⟩
set_option maxRecDepth 100000 in
theorem bv_X4_seed : bb_cv RX4 yX4_seed cX4_seed 3 (some .int) 1 := ⟨bb_in 498 (by decide +kernel) (by decide +kernel), bb_in 499 (by decide +kernel) (by decide +kernel), bb_in 26 (by decide +kernel) (by decide +kernel), bb_in 500 (by decide +kernel) (by decide +kernel), ⟨by decide +kernel, by decide +kernel, by decide +kernel, by decide +kernel⟩, by decide⟩
set_option maxRecDepth 100000 in
theorem bv_X4_ahead : bb_cv RX4 yX4_ahead cX4_ahead 4 (some .int) 2 := ⟨bb_in 502 (by decide +kernel) (by decide +kernel), bb_in 503 (by decide +kernel) (by decide +kernel), bb_in 26 (by decide +kernel) (by decide +kernel), bb_in 504 (by decide +kernel) (by decide +kernel), ⟨by decide +kernel, by decide +kernel, by decide +kernel, by decide +kernel⟩, by decide⟩
set_option maxRecDepth 100000 in
theorem bv_X4_next : bb_cv RX4 yX4_next cX4_next 3 (some .int) 1 := ⟨bb_in 506 (by decide +kernel) (by decide +kernel), bb_in 507 (by decide +kernel) (by decide +kernel), bb_in 26 (by decide +kernel) (by decide +kernel), bb_in 508 (by decide +kernel) (by decide +kernel), ⟨by decide +kernel, by decide +kernel, by decide +kernel, by decide +kernel⟩, by decide⟩
set_option maxRecDepth 100000 in
theorem bv_X4_stand : bb_cv RX4 yX4_stand cX4_stand 7 (some .int) 2 := ⟨bb_in 515 (by decide +kernel) (by decide +kernel), bb_in 516 (by decide +kernel) (by decide +kernel), bb_in 26 (by decide +kernel) (by decide +kernel), bb_in 517 (by decide +kernel) (by decide +kernel), ⟨by decide +kernel, by decide +kernel, by decide +kernel, by decide +kernel⟩, by decide⟩
set_option maxRecDepth 100000 in
theorem bv_X4_hush : bb_cv RX4 yX4_hush cX4_hush 4 (some .int) 2 := ⟨bb_in 523 (by decide +kernel) (by decide +kernel), bb_in 524 (by decide +kernel) (by decide +kernel), bb_in 26 (by decide +kernel) (by decide +kernel), bb_in 525 (by decide +kernel) (by decide +kernel), ⟨by decide +kernel, by decide +kernel, by decide +kernel, by decide +kernel⟩, by decide⟩
set_option maxRecDepth 100000 in
theorem bv_X4_mask : bb_cv RX4 yX4_mask cX4_mask 7 (some .int) 2 := ⟨bb_in 527 (by decide +kernel) (by decide +kernel), bb_in 528 (by decide +kernel) (by decide +kernel), bb_in 26 (by decide +kernel) (by decide +kernel), bb_in 529 (by decide +kernel) (by decide +kernel), ⟨by decide +kernel, by decide +kernel, by decide +kernel, by decide +kernel⟩, by decide⟩
set_option maxRecDepth 100000 in
theorem bv_X4_alike : bb_cv RX4 yX4_alike cX4_alike 7 (some .int) 2 := ⟨bb_in 532 (by decide +kernel) (by decide +kernel), bb_in 533 (by decide +kernel) (by decide +kernel), bb_in 26 (by decide +kernel) (by decide +kernel), bb_in 534 (by decide +kernel) (by decide +kernel), ⟨by decide +kernel, by decide +kernel, by decide +kernel, by decide +kernel⟩, by decide⟩
set_option maxRecDepth 100000 in
theorem bv_X4_turned : bb_cv RX4 yX4_turned cX4_turned 6 (some .int) 2 := ⟨bb_in 536 (by decide +kernel) (by decide +kernel), bb_in 537 (by decide +kernel) (by decide +kernel), bb_in 26 (by decide +kernel) (by decide +kernel), bb_in 538 (by decide +kernel) (by decide +kernel), ⟨by decide +kernel, by decide +kernel, by decide +kernel, by decide +kernel⟩, by decide⟩
set_option maxRecDepth 100000 in
theorem bv_X4_luck : bb_cv RX4 yX4_luck cX4_luck 7 (some .int) 3 := ⟨bb_in 540 (by decide +kernel) (by decide +kernel), bb_in 541 (by decide +kernel) (by decide +kernel), bb_in 26 (by decide +kernel) (by decide +kernel), bb_in 542 (by decide +kernel) (by decide +kernel), ⟨by decide +kernel, by decide +kernel, by decide +kernel, by decide +kernel⟩, by decide⟩
set_option maxRecDepth 100000 in
theorem bv_X4_image : bb_cv RX4 yX4_image cX4_image 1 (some .int) 0 := ⟨bb_in 551 (by decide +kernel) (by decide +kernel), bb_in 552 (by decide +kernel) (by decide +kernel), bb_in 26 (by decide +kernel) (by decide +kernel), bb_in 553 (by decide +kernel) (by decide +kernel), ⟨by decide +kernel, by decide +kernel, by decide +kernel, by decide +kernel⟩, by decide⟩
set_option maxRecDepth 100000 in
theorem bv_X4_restore : bb_cv RX4 yX4_restore cX4_restore 1 (some .int) 0 := ⟨bb_in 559 (by decide +kernel) (by decide +kernel), bb_in 560 (by decide +kernel) (by decide +kernel), bb_in 26 (by decide +kernel) (by decide +kernel), bb_in 561 (by decide +kernel) (by decide +kernel), ⟨by decide +kernel, by decide +kernel, by decide +kernel, by decide +kernel⟩, by decide⟩
set_option maxRecDepth 100000 in
theorem bv_X4_seen : bb_cv RX4 yX4_seen cX4_seen 11 (some .int) 5 := ⟨bb_in 563 (by decide +kernel) (by decide +kernel), bb_in 564 (by decide +kernel) (by decide +kernel), bb_in 26 (by decide +kernel) (by decide +kernel), bb_in 565 (by decide +kernel) (by decide +kernel), ⟨by decide +kernel, by decide +kernel, by decide +kernel, by decide +kernel⟩, by decide⟩
set_option maxRecDepth 100000 in
theorem bv_X4_film : bb_cv RX4 yX4_film cX4_film 8 (some .int) 4 := ⟨bb_in 587 (by decide +kernel) (by decide +kernel), bb_in 588 (by decide +kernel) (by decide +kernel), bb_in 26 (by decide +kernel) (by decide +kernel), bb_in 589 (by decide +kernel) (by decide +kernel), ⟨by decide +kernel, by decide +kernel, by decide +kernel, by decide +kernel⟩, by decide⟩
set_option maxRecDepth 100000 in
theorem bv_X4_sheet : bb_cv RX4 yX4_sheet cX4_sheet 4 (some .int) 3 := ⟨bb_in 595 (by decide +kernel) (by decide +kernel), bb_in 596 (by decide +kernel) (by decide +kernel), bb_in 26 (by decide +kernel) (by decide +kernel), bb_in 597 (by decide +kernel) (by decide +kernel), ⟨by decide +kernel, by decide +kernel, by decide +kernel, by decide +kernel⟩, by decide⟩
set_option maxRecDepth 100000 in
theorem bv_X4_drop : bb_cv RX4 yX4_drop cX4_drop 4 (some .int) 1 := ⟨bb_in 603 (by decide +kernel) (by decide +kernel), bb_in 604 (by decide +kernel) (by decide +kernel), bb_in 26 (by decide +kernel) (by decide +kernel), bb_in 605 (by decide +kernel) (by decide +kernel), ⟨by decide +kernel, by decide +kernel, by decide +kernel, by decide +kernel⟩, by decide⟩
set_option maxRecDepth 100000 in
theorem bv_X4_item : bb_cv RX4 yX4_item cX4_item 7 (some .int) 4 := ⟨bb_in 612 (by decide +kernel) (by decide +kernel), bb_in 613 (by decide +kernel) (by decide +kernel), bb_in 26 (by decide +kernel) (by decide +kernel), bb_in 614 (by decide +kernel) (by decide +kernel), ⟨by decide +kernel, by decide +kernel, by decide +kernel, by decide +kernel⟩, by decide⟩
set_option maxRecDepth 100000 in
theorem bv_X4_copy : bb_cv RX4 yX4_copy cX4_copy 8 (some .int) 5 := ⟨bb_in 616 (by decide +kernel) (by decide +kernel), bb_in 617 (by decide +kernel) (by decide +kernel), bb_in 26 (by decide +kernel) (by decide +kernel), bb_in 618 (by decide +kernel) (by decide +kernel), ⟨by decide +kernel, by decide +kernel, by decide +kernel, by decide +kernel⟩, by decide⟩
set_option maxRecDepth 100000 in
theorem bv_X4_isNobody : bb_cv RX4 yX4_isNobody cX4_isNobody 2 (some .boolean) 1 := ⟨bb_in 240 (by decide +kernel) (by decide +kernel), bb_in 0 (by decide +kernel) (by decide +kernel), bb_in 26 (by decide +kernel) (by decide +kernel), bb_in 241 (by decide +kernel) (by decide +kernel), ⟨by decide +kernel, by decide +kernel, by decide +kernel, by decide +kernel⟩, by decide⟩
set_option maxRecDepth 100000 in
theorem bv_X4_isNoSheet : bb_cS RX4 yX4_isNoSheet cX4_isNoSheet 1 (some .boolean) 1 := ⟨bb_in 567 (by decide +kernel) (by decide +kernel), bb_in 26 (by decide +kernel) (by decide +kernel), bb_in 568 (by decide +kernel) (by decide +kernel), ⟨by decide +kernel, by decide +kernel, by decide +kernel, by decide +kernel⟩, by decide⟩
set_option maxRecDepth 100000 in
theorem bv_X4_outside : bb_cS RX4 yX4_outside cX4_outside 3 (some .boolean) 3 := ⟨bb_in 212 (by decide +kernel) (by decide +kernel), bb_in 26 (by decide +kernel) (by decide +kernel), bb_in 213 (by decide +kernel) (by decide +kernel), ⟨by decide +kernel, by decide +kernel, by decide +kernel, by decide +kernel⟩, by decide⟩
set_option maxRecDepth 100000 in
theorem bv_X4_commonDivisor : bb_cS RX4 yX4_commonDivisor cX4_commonDivisor 6 (some .int) 2 := ⟨bb_in 548 (by decide +kernel) (by decide +kernel), bb_in 26 (by decide +kernel) (by decide +kernel), bb_in 549 (by decide +kernel) (by decide +kernel), ⟨by decide +kernel, by decide +kernel, by decide +kernel, by decide +kernel⟩, by decide⟩
set_option maxRecDepth 100000 in
theorem bv_X5_in : bb_cS RX5 yX5_in cX5_in 6 (some .boolean) 3 := ⟨bb_in 693 (by decide +kernel) (by decide +kernel), bb_in 31 (by decide +kernel) (by decide +kernel), bb_in 694 (by decide +kernel) (by decide +kernel), ⟨by decide +kernel, by decide +kernel, by decide +kernel, by decide +kernel⟩, by decide⟩
set_option maxRecDepth 100000 in
theorem bv_X5_fresh : bb_cv RX5 yX5_fresh cX5_fresh 4 none 2 := ⟨bb_in 629 (by decide +kernel) (by decide +kernel), bb_in 1 (by decide +kernel) (by decide +kernel), bb_in 31 (by decide +kernel) (by decide +kernel), bb_in 630 (by decide +kernel) (by decide +kernel), ⟨by decide +kernel, by decide +kernel, by decide +kernel, by decide +kernel⟩, by decide⟩
set_option maxRecDepth 100000 in
theorem bv_X5_cells : bb_cv RX5 yX5_cells cX5_cells 1 (some .int) 0 := ⟨bb_in 697 (by decide +kernel) (by decide +kernel), bb_in 2 (by decide +kernel) (by decide +kernel), bb_in 31 (by decide +kernel) (by decide +kernel), bb_in 698 (by decide +kernel) (by decide +kernel), ⟨by decide +kernel, by decide +kernel, by decide +kernel, by decide +kernel⟩, by decide⟩
set_option maxRecDepth 100000 in
theorem bv_X5_isPerson : bb_cv RX5 yX5_isPerson cX5_isPerson 2 (some .boolean) 1 := ⟨bb_in 716 (by decide +kernel) (by decide +kernel), bb_in 4 (by decide +kernel) (by decide +kernel), bb_in 31 (by decide +kernel) (by decide +kernel), bb_in 717 (by decide +kernel) (by decide +kernel), ⟨by decide +kernel, by decide +kernel, by decide +kernel, by decide +kernel⟩, by decide⟩
set_option maxRecDepth 100000 in
theorem bv_X5_told : bb_cv RX5 yX5_told cX5_told 3 (some .int) 2 := ⟨bb_in 729 (by decide +kernel) (by decide +kernel), bb_in 7 (by decide +kernel) (by decide +kernel), bb_in 31 (by decide +kernel) (by decide +kernel), bb_in 730 (by decide +kernel) (by decide +kernel), ⟨by decide +kernel, by decide +kernel, by decide +kernel, by decide +kernel⟩, by decide⟩
set_option maxRecDepth 100000 in
theorem bv_X5_isFree : bb_cv RX5 yX5_isFree cX5_isFree 2 (some .boolean) 1 := ⟨bb_in 721 (by decide +kernel) (by decide +kernel), bb_in 5 (by decide +kernel) (by decide +kernel), bb_in 31 (by decide +kernel) (by decide +kernel), bb_in 722 (by decide +kernel) (by decide +kernel), ⟨by decide +kernel, by decide +kernel, by decide +kernel, by decide +kernel⟩, by decide⟩
set_option maxRecDepth 100000 in
theorem bv_X5_apart : bb_cS RX5 yX5_apart cX5_apart 2 (some .int) 2 := ⟨bb_in 732 (by decide +kernel) (by decide +kernel), bb_in 31 (by decide +kernel) (by decide +kernel), bb_in 733 (by decide +kernel) (by decide +kernel), ⟨by decide +kernel, by decide +kernel, by decide +kernel, by decide +kernel⟩, by decide⟩
set_option maxRecDepth 100000 in
theorem bv_X5_far : bb_cv RX5 yX5_far cX5_far 4 (some .int) 1 := ⟨bb_in 725 (by decide +kernel) (by decide +kernel), bb_in 6 (by decide +kernel) (by decide +kernel), bb_in 31 (by decide +kernel) (by decide +kernel), bb_in 726 (by decide +kernel) (by decide +kernel), ⟨by decide +kernel, by decide +kernel, by decide +kernel, by decide +kernel⟩, by decide⟩
set_option maxRecDepth 100000 in
theorem bv_X5_loud : bb_cv RX5 yX5_loud cX5_loud 4 (some .int) 1 := ⟨bb_in 736 (by decide +kernel) (by decide +kernel), bb_in 8 (by decide +kernel) (by decide +kernel), bb_in 31 (by decide +kernel) (by decide +kernel), bb_in 737 (by decide +kernel) (by decide +kernel), ⟨by decide +kernel, by decide +kernel, by decide +kernel, by decide +kernel⟩, by decide⟩
set_option maxRecDepth 100000 in
theorem bv_X5_many : bb_cS RX5 yX5_many cX5_many 3 (some .int) 1 := ⟨bb_in 743 (by decide +kernel) (by decide +kernel), bb_in 31 (by decide +kernel) (by decide +kernel), bb_in 744 (by decide +kernel) (by decide +kernel), ⟨by decide +kernel, by decide +kernel, by decide +kernel, by decide +kernel⟩, by decide⟩
set_option maxRecDepth 100000 in
theorem bv_X5_named : bb_cv RX5 yX5_named cX5_named 6 (some .int) 2 := ⟨bb_in 740 (by decide +kernel) (by decide +kernel), bb_in 9 (by decide +kernel) (by decide +kernel), bb_in 31 (by decide +kernel) (by decide +kernel), bb_in 741 (by decide +kernel) (by decide +kernel), ⟨by decide +kernel, by decide +kernel, by decide +kernel, by decide +kernel⟩, by decide⟩
set_option maxRecDepth 100000 in
theorem bv_X5_follows : bb_cv RX5 yX5_follows cX5_follows 6 (some .int) 1 := ⟨bb_in 756 (by decide +kernel) (by decide +kernel), bb_in 10 (by decide +kernel) (by decide +kernel), bb_in 31 (by decide +kernel) (by decide +kernel), bb_in 757 (by decide +kernel) (by decide +kernel), ⟨by decide +kernel, by decide +kernel, by decide +kernel, by decide +kernel⟩, by decide⟩
set_option maxRecDepth 100000 in
theorem bv_X5_nearer : bb_cS RX5 yX5_nearer cX5_nearer 2 (some .int) 2 := ⟨bb_in 807 (by decide +kernel) (by decide +kernel), bb_in 31 (by decide +kernel) (by decide +kernel), bb_in 808 (by decide +kernel) (by decide +kernel), ⟨by decide +kernel, by decide +kernel, by decide +kernel, by decide +kernel⟩, by decide⟩
set_option maxRecDepth 100000 in
theorem bv_X5_goesBy : bb_cv RX5 yX5_goesBy cX5_goesBy 5 (some .boolean) 0 := ⟨bb_in 804 (by decide +kernel) (by decide +kernel), bb_in 18 (by decide +kernel) (by decide +kernel), bb_in 31 (by decide +kernel) (by decide +kernel), bb_in 805 (by decide +kernel) (by decide +kernel), ⟨by decide +kernel, by decide +kernel, by decide +kernel, by decide +kernel⟩, by decide⟩
set_option maxRecDepth 100000 in
theorem bv_X5_streets : bb_cv RX5 yX5_streets cX5_streets 3 (some .int) 2 := ⟨bb_in 687 (by decide +kernel) (by decide +kernel), bb_in 688 (by decide +kernel) (by decide +kernel), bb_in 31 (by decide +kernel) (by decide +kernel), bb_in 689 (by decide +kernel) (by decide +kernel), ⟨by decide +kernel, by decide +kernel, by decide +kernel, by decide +kernel⟩, by decide⟩
set_option maxRecDepth 100000 in
theorem bv_X5_comes : bb_cv RX5 yX5_comes cX5_comes 6 none 4 := ⟨bb_in 708 (by decide +kernel) (by decide +kernel), bb_in 3 (by decide +kernel) (by decide +kernel), bb_in 31 (by decide +kernel) (by decide +kernel), bb_in 709 (by decide +kernel) (by decide +kernel), ⟨by decide +kernel, by decide +kernel, by decide +kernel, by decide +kernel⟩, by decide⟩
set_option maxRecDepth 100000 in
theorem bv_X5_person : bb_cv RX5 yX5_person cX5_person 5 (some .int) 4 := ⟨bb_in 700 (by decide +kernel) (by decide +kernel), bb_in 701 (by decide +kernel) (by decide +kernel), bb_in 31 (by decide +kernel) (by decide +kernel), bb_in 702 (by decide +kernel) (by decide +kernel), ⟨by decide +kernel, by decide +kernel, by decide +kernel, by decide +kernel⟩, by decide⟩
set_option maxRecDepth 100000 in
theorem bv_X5_of : bb_cv RX5 yX5_of cX5_of 3 (some .int) 2 := ⟨bb_in 711 (by decide +kernel) (by decide +kernel), bb_in 712 (by decide +kernel) (by decide +kernel), bb_in 31 (by decide +kernel) (by decide +kernel), bb_in 713 (by decide +kernel) (by decide +kernel), ⟨by decide +kernel, by decide +kernel, by decide +kernel, by decide +kernel⟩, by decide⟩
set_option maxRecDepth 100000 in
theorem bv_X5_rule : bb_cv RX5 yX5_rule cX5_rule 6 (some .int) 3 := ⟨bb_in 746 (by decide +kernel) (by decide +kernel), bb_in 747 (by decide +kernel) (by decide +kernel), bb_in 31 (by decide +kernel) (by decide +kernel), bb_in 748 (by decide +kernel) (by decide +kernel), ⟨by decide +kernel, by decide +kernel, by decide +kernel, by decide +kernel⟩, by decide⟩
set_option maxRecDepth 100000 in
theorem bv_X5_count : bb_cv RX5 yX5_count cX5_count 2 (some .int) 1 := ⟨bb_in 750 (by decide +kernel) (by decide +kernel), bb_in 751 (by decide +kernel) (by decide +kernel), bb_in 31 (by decide +kernel) (by decide +kernel), bb_in 752 (by decide +kernel) (by decide +kernel), ⟨by decide +kernel, by decide +kernel, by decide +kernel, by decide +kernel⟩, by decide⟩
set_option maxRecDepth 100000 in
theorem bv_X5_type : bb_cv RX5 yX5_type cX5_type 2 (some .int) 1 := ⟨bb_in 759 (by decide +kernel) (by decide +kernel), bb_in 760 (by decide +kernel) (by decide +kernel), bb_in 31 (by decide +kernel) (by decide +kernel), bb_in 761 (by decide +kernel) (by decide +kernel), ⟨by decide +kernel, by decide +kernel, by decide +kernel, by decide +kernel⟩, by decide⟩
set_option maxRecDepth 100000 in
theorem bv_X5_here : bb_cv RX5 yX5_here cX5_here 1 (some .int) 0 := ⟨bb_in 774 (by decide +kernel) (by decide +kernel), bb_in 12 (by decide +kernel) (by decide +kernel), bb_in 31 (by decide +kernel) (by decide +kernel), bb_in 775 (by decide +kernel) (by decide +kernel), ⟨by decide +kernel, by decide +kernel, by decide +kernel, by decide +kernel⟩, by decide⟩
set_option maxRecDepth 100000 in
theorem bv_X5_must : bb_cv RX5 yX5_must cX5_must 2 none 1 := ⟨bb_in 778 (by decide +kernel) (by decide +kernel), bb_in 13 (by decide +kernel) (by decide +kernel), bb_in 31 (by decide +kernel) (by decide +kernel), bb_in 779 (by decide +kernel) (by decide +kernel), ⟨by decide +kernel, by decide +kernel, by decide +kernel, by decide +kernel⟩, by decide⟩
set_option maxRecDepth 100000 in
theorem bv_X5_digit : bb_cv RX5 yX5_digit cX5_digit 4 (some .int) 2 := ⟨bb_in 770 (by decide +kernel) (by decide +kernel), bb_in 11 (by decide +kernel) (by decide +kernel), bb_in 31 (by decide +kernel) (by decide +kernel), bb_in 771 (by decide +kernel) (by decide +kernel), ⟨by decide +kernel, by decide +kernel, by decide +kernel, by decide +kernel⟩, by decide⟩
set_option maxRecDepth 100000 in
theorem bv_X5_sign : bb_cv RX5 yX5_sign cX5_sign 2 none 1 := ⟨bb_in 782 (by decide +kernel) (by decide +kernel), bb_in 14 (by decide +kernel) (by decide +kernel), bb_in 31 (by decide +kernel) (by decide +kernel), bb_in 783 (by decide +kernel) (by decide +kernel), ⟨by decide +kernel, by decide +kernel, by decide +kernel, by decide +kernel⟩, by decide⟩
set_option maxRecDepth 100000 in
theorem bv_X5_readFace : bb_cv RX5 yX5_readFace cX5_readFace 3 (some .int) 0 := ⟨bb_in 790 (by decide +kernel) (by decide +kernel), bb_in 16 (by decide +kernel) (by decide +kernel), bb_in 31 (by decide +kernel) (by decide +kernel), bb_in 791 (by decide +kernel) (by decide +kernel), ⟨by decide +kernel, by decide +kernel, by decide +kernel, by decide +kernel⟩, by decide⟩
set_option maxRecDepth 100000 in
theorem bv_X5_readPeople : bb_cv RX5 yX5_readPeople cX5_readPeople 10 (some .int) 2 := ⟨bb_in 786 (by decide +kernel) (by decide +kernel), bb_in 15 (by decide +kernel) (by decide +kernel), bb_in 31 (by decide +kernel) (by decide +kernel), bb_in 787 (by decide +kernel) (by decide +kernel), ⟨by decide +kernel, by decide +kernel, by decide +kernel, by decide +kernel⟩, by decide⟩
set_option maxRecDepth 100000 in
theorem bv_X5_city : bb_cv RX5 yX5_city cX5_city 7 (some .int) 0 := ⟨bb_in 765 (by decide +kernel) (by decide +kernel), bb_in 766 (by decide +kernel) (by decide +kernel), bb_in 31 (by decide +kernel) (by decide +kernel), bb_in 767 (by decide +kernel) (by decide +kernel), ⟨by decide +kernel, by decide +kernel, by decide +kernel, by decide +kernel⟩, by decide⟩
set_option maxRecDepth 100000 in
theorem bv_X5_notes : bb_cv RX5 yX5_notes cX5_notes 3 none 0 := ⟨bb_in 800 (by decide +kernel) (by decide +kernel), bb_in 17 (by decide +kernel) (by decide +kernel), bb_in 31 (by decide +kernel) (by decide +kernel), bb_in 801 (by decide +kernel) (by decide +kernel), ⟨by decide +kernel, by decide +kernel, by decide +kernel, by decide +kernel⟩, by decide⟩
set_option maxRecDepth 100000 in
theorem bv_X5_minutes : bb_cv RX5 yX5_minutes cX5_minutes 3 (some .int) 1 := ⟨bb_in 794 (by decide +kernel) (by decide +kernel), bb_in 795 (by decide +kernel) (by decide +kernel), bb_in 31 (by decide +kernel) (by decide +kernel), bb_in 796 (by decide +kernel) (by decide +kernel), ⟨by decide +kernel, by decide +kernel, by decide +kernel, by decide +kernel⟩, by decide⟩
set_option maxRecDepth 100000 in
theorem bv_X5_beside : bb_cv RX5 yX5_beside cX5_beside 6 (some .int) 2 := ⟨bb_in 816 (by decide +kernel) (by decide +kernel), bb_in 19 (by decide +kernel) (by decide +kernel), bb_in 31 (by decide +kernel) (by decide +kernel), bb_in 817 (by decide +kernel) (by decide +kernel), ⟨by decide +kernel, by decide +kernel, by decide +kernel, by decide +kernel⟩, by decide⟩
set_option maxRecDepth 100000 in
theorem bv_X5_walk : bb_cv RX5 yX5_walk cX5_walk 4 (some .int) 2 := ⟨bb_in 810 (by decide +kernel) (by decide +kernel), bb_in 811 (by decide +kernel) (by decide +kernel), bb_in 31 (by decide +kernel) (by decide +kernel), bb_in 812 (by decide +kernel) (by decide +kernel), ⟨by decide +kernel, by decide +kernel, by decide +kernel, by decide +kernel⟩, by decide⟩
set_option maxRecDepth 100000 in
theorem bv_X5_free : bb_cv RX5 yX5_free cX5_free 2 (some .int) 1 := ⟨bb_in 819 (by decide +kernel) (by decide +kernel), bb_in 820 (by decide +kernel) (by decide +kernel), bb_in 31 (by decide +kernel) (by decide +kernel), bb_in 821 (by decide +kernel) (by decide +kernel), ⟨by decide +kernel, by decide +kernel, by decide +kernel, by decide +kernel⟩, by decide⟩
set_option maxRecDepth 100000 in
theorem bv_X5_drift : bb_cv RX5 yX5_drift cX5_drift 5 (some .int) 1 := ⟨bb_in 823 (by decide +kernel) (by decide +kernel), bb_in 824 (by decide +kernel) (by decide +kernel), bb_in 31 (by decide +kernel) (by decide +kernel), bb_in 825 (by decide +kernel) (by decide +kernel), ⟨by decide +kernel, by decide +kernel, by decide +kernel, by decide +kernel⟩, by decide⟩
set_option maxRecDepth 100000 in
theorem bv_X5_undo : bb_cv RX5 yX5_undo cX5_undo 3 (some .int) 0 := ⟨bb_in 831 (by decide +kernel) (by decide +kernel), bb_in 832 (by decide +kernel) (by decide +kernel), bb_in 31 (by decide +kernel) (by decide +kernel), bb_in 833 (by decide +kernel) (by decide +kernel), ⟨by decide +kernel, by decide +kernel, by decide +kernel, by decide +kernel⟩, by decide⟩
set_option maxRecDepth 100000 in
theorem bv_X5_seed : bb_cv RX5 yX5_seed cX5_seed 3 (some .int) 1 := ⟨bb_in 835 (by decide +kernel) (by decide +kernel), bb_in 836 (by decide +kernel) (by decide +kernel), bb_in 31 (by decide +kernel) (by decide +kernel), bb_in 837 (by decide +kernel) (by decide +kernel), ⟨by decide +kernel, by decide +kernel, by decide +kernel, by decide +kernel⟩, by decide⟩
set_option maxRecDepth 100000 in
theorem bv_X5_asides : bb_cv RX5 yX5_asides cX5_asides 2 none 0 := ⟨bb_in 845 (by decide +kernel) (by decide +kernel), bb_in 20 (by decide +kernel) (by decide +kernel), bb_in 31 (by decide +kernel) (by decide +kernel), bb_in 846 (by decide +kernel) (by decide +kernel), ⟨by decide +kernel, by decide +kernel, by decide +kernel, by decide +kernel⟩, by decide⟩
set_option maxRecDepth 100000 in
theorem bv_X5_backs : bb_cv RX5 yX5_backs cX5_backs 2 none 0 := ⟨bb_in 849 (by decide +kernel) (by decide +kernel), bb_in 21 (by decide +kernel) (by decide +kernel), bb_in 31 (by decide +kernel) (by decide +kernel), bb_in 850 (by decide +kernel) (by decide +kernel), ⟨by decide +kernel, by decide +kernel, by decide +kernel, by decide +kernel⟩, by decide⟩
set_option maxRecDepth 100000 in
theorem bv_X5_ahead : bb_cv RX5 yX5_ahead cX5_ahead 4 (some .int) 2 := ⟨bb_in 839 (by decide +kernel) (by decide +kernel), bb_in 840 (by decide +kernel) (by decide +kernel), bb_in 31 (by decide +kernel) (by decide +kernel), bb_in 841 (by decide +kernel) (by decide +kernel), ⟨by decide +kernel, by decide +kernel, by decide +kernel, by decide +kernel⟩, by decide⟩
set_option maxRecDepth 100000 in
theorem bv_X5_nextBehind : bb_cv RX5 yX5_nextBehind cX5_nextBehind 3 (some .int) 0 := ⟨bb_in 857 (by decide +kernel) (by decide +kernel), bb_in 22 (by decide +kernel) (by decide +kernel), bb_in 31 (by decide +kernel) (by decide +kernel), bb_in 858 (by decide +kernel) (by decide +kernel), ⟨by decide +kernel, by decide +kernel, by decide +kernel, by decide +kernel⟩, by decide⟩
set_option maxRecDepth 100000 in
theorem bv_X5_next : bb_cv RX5 yX5_next cX5_next 3 (some .int) 1 := ⟨bb_in 852 (by decide +kernel) (by decide +kernel), bb_in 853 (by decide +kernel) (by decide +kernel), bb_in 31 (by decide +kernel) (by decide +kernel), bb_in 854 (by decide +kernel) (by decide +kernel), ⟨by decide +kernel, by decide +kernel, by decide +kernel, by decide +kernel⟩, by decide⟩
set_option maxRecDepth 100000 in
theorem bv_X5_caughtBehind : bb_cv RX5 yX5_caughtBehind cX5_caughtBehind 5 (some .int) 2 := ⟨bb_in 865 (by decide +kernel) (by decide +kernel), bb_in 23 (by decide +kernel) (by decide +kernel), bb_in 31 (by decide +kernel) (by decide +kernel), bb_in 866 (by decide +kernel) (by decide +kernel), ⟨by decide +kernel, by decide +kernel, by decide +kernel, by decide +kernel⟩, by decide⟩
set_option maxRecDepth 100000 in
theorem bv_X5_stand : bb_cv RX5 yX5_stand cX5_stand 7 (some .int) 2 := ⟨bb_in 860 (by decide +kernel) (by decide +kernel), bb_in 861 (by decide +kernel) (by decide +kernel), bb_in 31 (by decide +kernel) (by decide +kernel), bb_in 862 (by decide +kernel) (by decide +kernel), ⟨by decide +kernel, by decide +kernel, by decide +kernel, by decide +kernel⟩, by decide⟩
set_option maxRecDepth 100000 in
theorem bv_X5_hush : bb_cv RX5 yX5_hush cX5_hush 4 (some .int) 2 := ⟨bb_in 868 (by decide +kernel) (by decide +kernel), bb_in 869 (by decide +kernel) (by decide +kernel), bb_in 31 (by decide +kernel) (by decide +kernel), bb_in 870 (by decide +kernel) (by decide +kernel), ⟨by decide +kernel, by decide +kernel, by decide +kernel, by decide +kernel⟩, by decide⟩
set_option maxRecDepth 100000 in
theorem bv_X5_mask : bb_cv RX5 yX5_mask cX5_mask 6 (some .int) 2 := ⟨bb_in 872 (by decide +kernel) (by decide +kernel), bb_in 873 (by decide +kernel) (by decide +kernel), bb_in 31 (by decide +kernel) (by decide +kernel), bb_in 874 (by decide +kernel) (by decide +kernel), ⟨by decide +kernel, by decide +kernel, by decide +kernel, by decide +kernel⟩, by decide⟩
set_option maxRecDepth 100000 in
theorem bv_X5_alike : bb_cv RX5 yX5_alike cX5_alike 8 (some .int) 2 := ⟨bb_in 876 (by decide +kernel) (by decide +kernel), bb_in 877 (by decide +kernel) (by decide +kernel), bb_in 31 (by decide +kernel) (by decide +kernel), bb_in 878 (by decide +kernel) (by decide +kernel), ⟨by decide +kernel, by decide +kernel, by decide +kernel, by decide +kernel⟩, by decide⟩
set_option maxRecDepth 100000 in
theorem bv_X5_turned : bb_cv RX5 yX5_turned cX5_turned 7 (some .int) 2 := ⟨bb_in 880 (by decide +kernel) (by decide +kernel), bb_in 881 (by decide +kernel) (by decide +kernel), bb_in 31 (by decide +kernel) (by decide +kernel), bb_in 882 (by decide +kernel) (by decide +kernel), ⟨by decide +kernel, by decide +kernel, by decide +kernel, by decide +kernel⟩, by decide⟩
set_option maxRecDepth 100000 in
theorem bv_X5_luck : bb_cv RX5 yX5_luck cX5_luck 9 (some .int) 3 := ⟨bb_in 884 (by decide +kernel) (by decide +kernel), bb_in 885 (by decide +kernel) (by decide +kernel), bb_in 31 (by decide +kernel) (by decide +kernel), bb_in 886 (by decide +kernel) (by decide +kernel), ⟨by decide +kernel, by decide +kernel, by decide +kernel, by decide +kernel⟩, by decide⟩
set_option maxRecDepth 100000 in
theorem bv_X5_image : bb_cv RX5 yX5_image cX5_image 2 (some .int) 0 := ⟨bb_in 889 (by decide +kernel) (by decide +kernel), bb_in 890 (by decide +kernel) (by decide +kernel), bb_in 31 (by decide +kernel) (by decide +kernel), bb_in 891 (by decide +kernel) (by decide +kernel), ⟨by decide +kernel, by decide +kernel, by decide +kernel, by decide +kernel⟩, by decide⟩
set_option maxRecDepth 100000 in
theorem bv_X5_restore : bb_cv RX5 yX5_restore cX5_restore 2 (some .int) 0 := ⟨bb_in 893 (by decide +kernel) (by decide +kernel), bb_in 894 (by decide +kernel) (by decide +kernel), bb_in 31 (by decide +kernel) (by decide +kernel), bb_in 895 (by decide +kernel) (by decide +kernel), ⟨by decide +kernel, by decide +kernel, by decide +kernel, by decide +kernel⟩, by decide⟩
set_option maxRecDepth 100000 in
theorem bv_X5_isSheet : bb_cS RX5 yX5_isSheet cX5_isSheet 1 (some .boolean) 1 := ⟨bb_in 901 (by decide +kernel) (by decide +kernel), bb_in 31 (by decide +kernel) (by decide +kernel), bb_in 902 (by decide +kernel) (by decide +kernel), ⟨by decide +kernel, by decide +kernel, by decide +kernel, by decide +kernel⟩, by decide⟩
set_option maxRecDepth 100000 in
theorem bv_X5_isLane : bb_cS RX5 yX5_isLane cX5_isLane 1 (some .boolean) 1 := ⟨bb_in 904 (by decide +kernel) (by decide +kernel), bb_in 31 (by decide +kernel) (by decide +kernel), bb_in 905 (by decide +kernel) (by decide +kernel), ⟨by decide +kernel, by decide +kernel, by decide +kernel, by decide +kernel⟩, by decide⟩
set_option maxRecDepth 100000 in
theorem bv_X5_why : bb_cv RX5 yX5_why cX5_why 5 (some .int) 4 := ⟨bb_in 908 (by decide +kernel) (by decide +kernel), bb_in 24 (by decide +kernel) (by decide +kernel), bb_in 31 (by decide +kernel) (by decide +kernel), bb_in 909 (by decide +kernel) (by decide +kernel), ⟨by decide +kernel, by decide +kernel, by decide +kernel, by decide +kernel⟩, by decide⟩
set_option maxRecDepth 100000 in
theorem bv_X5_seen : bb_cv RX5 yX5_seen cX5_seen 12 (some .int) 5 := ⟨bb_in 897 (by decide +kernel) (by decide +kernel), bb_in 898 (by decide +kernel) (by decide +kernel), bb_in 31 (by decide +kernel) (by decide +kernel), bb_in 899 (by decide +kernel) (by decide +kernel), ⟨by decide +kernel, by decide +kernel, by decide +kernel, by decide +kernel⟩, by decide⟩
set_option maxRecDepth 100000 in
theorem bv_X5_film : bb_cv RX5 yX5_film cX5_film 7 (some .int) 4 := ⟨bb_in 911 (by decide +kernel) (by decide +kernel), bb_in 912 (by decide +kernel) (by decide +kernel), bb_in 31 (by decide +kernel) (by decide +kernel), bb_in 913 (by decide +kernel) (by decide +kernel), ⟨by decide +kernel, by decide +kernel, by decide +kernel, by decide +kernel⟩, by decide⟩
set_option maxRecDepth 100000 in
theorem bv_X5_sheet : bb_cv RX5 yX5_sheet cX5_sheet 5 (some .int) 3 := ⟨bb_in 916 (by decide +kernel) (by decide +kernel), bb_in 917 (by decide +kernel) (by decide +kernel), bb_in 31 (by decide +kernel) (by decide +kernel), bb_in 918 (by decide +kernel) (by decide +kernel), ⟨by decide +kernel, by decide +kernel, by decide +kernel, by decide +kernel⟩, by decide⟩
set_option maxRecDepth 100000 in
theorem bv_X5_drop : bb_cv RX5 yX5_drop cX5_drop 2 (some .int) 1 := ⟨bb_in 920 (by decide +kernel) (by decide +kernel), bb_in 921 (by decide +kernel) (by decide +kernel), bb_in 31 (by decide +kernel) (by decide +kernel), bb_in 922 (by decide +kernel) (by decide +kernel), ⟨by decide +kernel, by decide +kernel, by decide +kernel, by decide +kernel⟩, by decide⟩
set_option maxRecDepth 100000 in
theorem bv_X5_item : bb_cv RX5 yX5_item cX5_item 7 (some .int) 4 := ⟨bb_in 924 (by decide +kernel) (by decide +kernel), bb_in 925 (by decide +kernel) (by decide +kernel), bb_in 31 (by decide +kernel) (by decide +kernel), bb_in 926 (by decide +kernel) (by decide +kernel), ⟨by decide +kernel, by decide +kernel, by decide +kernel, by decide +kernel⟩, by decide⟩
set_option maxRecDepth 100000 in
theorem bv_X5_copy : bb_cv RX5 yX5_copy cX5_copy 8 (some .int) 5 := ⟨bb_in 928 (by decide +kernel) (by decide +kernel), bb_in 929 (by decide +kernel) (by decide +kernel), bb_in 31 (by decide +kernel) (by decide +kernel), bb_in 930 (by decide +kernel) (by decide +kernel), ⟨by decide +kernel, by decide +kernel, by decide +kernel, by decide +kernel⟩, by decide⟩
set_option maxRecDepth 100000 in
theorem bv_J6_compare_7cf53 : bb_cS RJ6 yJ6_compare_7cf53 cJ6_compare_7cf53 2 (some .int) 2 := ⟨bb_in 457 (by decide +kernel) (by decide +kernel), bb_in 33 (by decide +kernel) (by decide +kernel), bb_in 458 (by decide +kernel) (by decide +kernel), ⟨by decide +kernel, by decide +kernel, by decide +kernel, by decide +kernel⟩, by decide⟩
set_option maxRecDepth 100000 in
theorem bv_J6_bitCount_0f7a4 : bb_cS RJ6 yJ6_bitCount_0f7a4 cJ6_bitCount_0f7a4 1 (some .int) 1 := ⟨bb_in 278 (by decide +kernel) (by decide +kernel), bb_in 33 (by decide +kernel) (by decide +kernel), bb_in 279 (by decide +kernel) (by decide +kernel), ⟨by decide +kernel, by decide +kernel, by decide +kernel, by decide +kernel⟩, by decide⟩
