/-! the words by their places in the tables -/
theorem tb_in {w : Cond} (h : w ∈ tables_1) (hg : goodWord w = true) : w ∈ gw := gw_in (List.mem_append_right _ h) hg
theorem tb_nw {w : Cond} (h : w ∈ tables_1) (hg : is_N w = true) : w ∈ nw := nw_in (List.mem_append_right _ h) hg
theorem tb_sel {w : Cond} (h : w ∈ k2_sels lw_privs) (hg : goodWord w = true) : w ∈ gw := gw_in (List.mem_append_left _ h) hg
theorem km_X7_1 : Cond.methodLink RX7 1 objectInit ∈ gw := tb_in (List.mem_of_getElem? (i := 19) (by decide +kernel)) rfl
theorem kc_X7_7 : Cond.classLink RX7 7 RX6 ∈ gw := tb_in (List.mem_of_getElem? (i := 22) (by decide +kernel)) rfl
theorem km_X7_9 : Cond.methodLinkNest RX7 9 yX6_init "WordWheel" ∈ nw := tb_nw (List.mem_of_getElem? (i := 24) (by decide +kernel)) rfl
theorem kf_X7_10 : Cond.fieldLink RX7 10 "WordWheel" "words" "LWordWheel$Words;" ∈ gw := tb_in (List.mem_of_getElem? (i := 248) (by decide +kernel)) rfl
theorem kc_X7_16 : Cond.classLink RX7 16 RX3 ∈ gw := tb_in (List.mem_of_getElem? (i := 67) (by decide +kernel)) rfl
theorem km_X7_18 : Cond.methodLinkNest RX7 18 yX3_init "WordWheel" ∈ nw := tb_nw (List.mem_of_getElem? (i := 69) (by decide +kernel)) rfl
theorem kf_X7_21 : Cond.fieldLink RX7 21 "WordWheel" "counter" "LWordWheel$RingCounter;" ∈ gw := tb_in (List.mem_of_getElem? (i := 249) (by decide +kernel)) rfl
theorem kc_X7_25 : Cond.classLink RX7 25 RX2 ∈ gw := tb_in (List.mem_of_getElem? (i := 86) (by decide +kernel)) rfl
theorem km_X7_27 : Cond.methodLinkNest RX7 27 yX2_init "WordWheel" ∈ nw := tb_nw (List.mem_of_getElem? (i := 88) (by decide +kernel)) rfl
theorem kf_X7_28 : Cond.fieldLink RX7 28 "WordWheel" "register" "LWordWheel$Register;" ∈ gw := tb_in (List.mem_of_getElem? (i := 250) (by decide +kernel)) rfl
theorem kc_X7_32 : Cond.classLink RX7 32 RX4 ∈ gw := tb_in (List.mem_of_getElem? (i := 147) (by decide +kernel)) rfl
theorem km_X7_34 : Cond.methodLinkNest RX7 34 yX4_init "WordWheel" ∈ nw := tb_nw (List.mem_of_getElem? (i := 149) (by decide +kernel)) rfl
theorem kf_X7_35 : Cond.fieldLink RX7 35 "WordWheel" "theRound" "LWordWheel$Round;" ∈ gw := tb_in (List.mem_of_getElem? (i := 251) (by decide +kernel)) rfl
theorem kc_X7_39 : Cond.classLink RX7 39 RX5 ∈ gw := tb_in (List.mem_of_getElem? (i := 184) (by decide +kernel)) rfl
theorem kf_X7_41 : Cond.fieldLink RX7 41 "WordWheel" "tapes" "[LWordWheel$Tape;" ∈ gw := tb_in (List.mem_of_getElem? (i := 252) (by decide +kernel)) rfl
theorem km_X7_45 : Cond.methodLinkNest RX7 45 yX5_init "WordWheel" ∈ nw := tb_nw (List.mem_of_getElem? (i := 187) (by decide +kernel)) rfl
theorem kc_X7_46 : Cond.classLink RX7 46 RX0 ∈ gw := tb_in (List.mem_of_getElem? (i := 210) (by decide +kernel)) rfl
theorem km_X7_48 : Cond.methodLinkNest RX7 48 yX0_init "WordWheel" ∈ nw := tb_nw (List.mem_of_getElem? (i := 212) (by decide +kernel)) rfl
theorem kf_X7_49 : Cond.fieldLink RX7 49 "WordWheel" "parting" "LWordWheel$Parting;" ∈ gw := tb_in (List.mem_of_getElem? (i := 253) (by decide +kernel)) rfl
theorem kc_X7_53 : Cond.classLink RX7 53 RX1 ∈ gw := tb_in (List.mem_of_getElem? (i := 225) (by decide +kernel)) rfl
theorem km_X7_55 : Cond.methodLinkNest RX7 55 yX1_init "WordWheel" ∈ nw := tb_nw (List.mem_of_getElem? (i := 227) (by decide +kernel)) rfl
theorem kf_X7_56 : Cond.fieldLink RX7 56 "WordWheel" "recurring" "LWordWheel$Recurring;" ∈ gw := tb_in (List.mem_of_getElem? (i := 254) (by decide +kernel)) rfl
theorem kf_X7_60 : Cond.fieldLink RX7 60 "WordWheel" "firstFound" "I" ∈ gw := tb_in (List.mem_of_getElem? (i := 255) (by decide +kernel)) rfl
theorem kf_X7_64 : Cond.fieldLink RX7 64 "WordWheel" "latestFinding" "I" ∈ gw := tb_in (List.mem_of_getElem? (i := 256) (by decide +kernel)) rfl
theorem km_X7_67 : Cond.methodLinkNest RX7 67 yX6_howMany "WordWheel" ∈ nw := tb_nw (List.mem_of_getElem? (i := 280) (by decide +kernel)) rfl
theorem km_X7_71 : Cond.methodLinkNest RX7 71 yX6_become "WordWheel" ∈ nw := tb_nw (List.mem_of_getElem? (i := 283) (by decide +kernel)) rfl
theorem km_X7_75 : Cond.methodLinkNest RX7 75 yX2_becomeTurning "WordWheel" ∈ nw := tb_nw (List.mem_of_getElem? (i := 284) (by decide +kernel)) rfl
theorem km_X7_78 : Cond.methodLinkNest RX7 78 yX4_drop "WordWheel" ∈ nw := tb_nw (List.mem_of_getElem? (i := 285) (by decide +kernel)) rfl
theorem km_X7_81 : Cond.methodLinkNest RX7 81 yX6_has "WordWheel" ∈ nw := tb_nw (List.mem_of_getElem? (i := 293) (by decide +kernel)) rfl
theorem km_X7_85 : Cond.methodLinkNest RX7 85 yX6_turned "WordWheel" ∈ nw := tb_nw (List.mem_of_getElem? (i := 297) (by decide +kernel)) rfl
theorem km_X7_88 : Cond.methodLinkNest RX7 88 yX6_leastOf "WordWheel" ∈ nw := tb_nw (List.mem_of_getElem? (i := 305) (by decide +kernel)) rfl
theorem km_X7_92 : Cond.methodLinkNest RX7 92 yX6_stepsToLeast "WordWheel" ∈ nw := tb_nw (List.mem_of_getElem? (i := 320) (by decide +kernel)) rfl
theorem km_X7_95 : Cond.methodLinkNest RX7 95 yX6_ringSize "WordWheel" ∈ nw := tb_nw (List.mem_of_getElem? (i := 328) (by decide +kernel)) rfl
theorem km_X7_98 : Cond.methodLinkNest RX7 98 yX6_backward "WordWheel" ∈ nw := tb_nw (List.mem_of_getElem? (i := 336) (by decide +kernel)) rfl
theorem kf_X7_101 : Cond.fieldLinkNest RX7 101 "WordWheel$Words" "all" "I" "WordWheel" ∈ nw := tb_nw (List.mem_of_getElem? (i := 50) (by decide +kernel)) rfl
theorem km_X7_104 : Cond.methodLinkNest RX7 104 yX3_ringsUpTo "WordWheel" ∈ nw := tb_nw (List.mem_of_getElem? (i := 344) (by decide +kernel)) rfl
theorem km_X7_107 : Cond.methodLink RX7 107 yX7_rings ∈ gw := tb_in (List.mem_of_getElem? (i := 388) (by decide +kernel)) rfl
theorem km_X7_111 : Cond.methodLinkNest RX7 111 yX3_leastOfRing "WordWheel" ∈ nw := tb_nw (List.mem_of_getElem? (i := 389) (by decide +kernel)) rfl
theorem kf_X7_114 : Cond.fieldLinkNest RX7 114 "WordWheel$Words" "length" "I" "WordWheel" ∈ nw := tb_nw (List.mem_of_getElem? (i := 46) (by decide +kernel)) rfl
theorem km_X7_117 : Cond.methodLinkNest RX7 117 yX3_wordsUpTo "WordWheel" ∈ nw := tb_nw (List.mem_of_getElem? (i := 398) (by decide +kernel)) rfl
theorem km_X7_120 : Cond.methodLinkNest RX7 120 yX3_takeAmounts "WordWheel" ∈ nw := tb_nw (List.mem_of_getElem? (i := 403) (by decide +kernel)) rfl
theorem km_X7_124 : Cond.methodLinkNest RX7 124 yX3_ringsOfAmounts "WordWheel" ∈ nw := tb_nw (List.mem_of_getElem? (i := 411) (by decide +kernel)) rfl
theorem km_X7_127 : Cond.methodLinkNest RX7 127 yX6_isLetter "WordWheel" ∈ nw := tb_nw (List.mem_of_getElem? (i := 427) (by decide +kernel)) rfl
theorem km_X7_130 : Cond.methodLinkNest RX7 130 yX2_changeFactor "WordWheel" ∈ nw := tb_nw (List.mem_of_getElem? (i := 428) (by decide +kernel)) rfl
theorem km_X7_133 : Cond.methodLinkNest RX7 133 yX2_changeSum "WordWheel" ∈ nw := tb_nw (List.mem_of_getElem? (i := 436) (by decide +kernel)) rfl
theorem km_X7_136 : Cond.methodLinkNest RX7 136 yX2_leadOf "WordWheel" ∈ nw := tb_nw (List.mem_of_getElem? (i := 444) (by decide +kernel)) rfl
theorem km_X7_139 : Cond.methodLinkNest RX7 139 yX2_isRight "WordWheel" ∈ nw := tb_nw (List.mem_of_getElem? (i := 460) (by decide +kernel)) rfl
theorem km_X7_143 : Cond.methodLinkNest RX7 143 yX6_differInFirst "WordWheel" ∈ nw := tb_nw (List.mem_of_getElem? (i := 468) (by decide +kernel)) rfl
theorem km_X7_147 : Cond.methodLinkNest RX7 147 yX2_isFull "WordWheel" ∈ nw := tb_nw (List.mem_of_getElem? (i := 472) (by decide +kernel)) rfl
theorem km_X7_150 : Cond.methodLinkNest RX7 150 yX2_makeExchange "WordWheel" ∈ nw := tb_nw (List.mem_of_getElem? (i := 476) (by decide +kernel)) rfl
theorem kf_X7_153 : Cond.fieldLinkNest RX7 153 "WordWheel$Register" "exchanges" "I" "WordWheel" ∈ nw := tb_nw (List.mem_of_getElem? (i := 109) (by decide +kernel)) rfl
theorem km_X7_156 : Cond.methodLinkNest RX7 156 yX2_takeBack "WordWheel" ∈ nw := tb_nw (List.mem_of_getElem? (i := 513) (by decide +kernel)) rfl
theorem km_X7_159 : Cond.methodLinkNest RX7 159 yX2_howManyCycles "WordWheel" ∈ nw := tb_nw (List.mem_of_getElem? (i := 521) (by decide +kernel)) rfl
theorem km_X7_162 : Cond.methodLinkNest RX7 162 yX2_numberOfCycle "WordWheel" ∈ nw := tb_nw (List.mem_of_getElem? (i := 526) (by decide +kernel)) rfl
theorem km_X7_165 : Cond.methodLinkNest RX7 165 yX2_leastOfCycle "WordWheel" ∈ nw := tb_nw (List.mem_of_getElem? (i := 534) (by decide +kernel)) rfl
theorem km_X7_168 : Cond.methodLinkNest RX7 168 yX2_wordsOfCycle "WordWheel" ∈ nw := tb_nw (List.mem_of_getElem? (i := 538) (by decide +kernel)) rfl
theorem km_X7_171 : Cond.methodLinkNest RX7 171 yX2_joinCycles "WordWheel" ∈ nw := tb_nw (List.mem_of_getElem? (i := 546) (by decide +kernel)) rfl
theorem km_X7_174 : Cond.methodLinkNest RX7 174 yX4_becomeLeast "WordWheel" ∈ nw := tb_nw (List.mem_of_getElem? (i := 558) (by decide +kernel)) rfl
theorem km_X7_177 : Cond.methodLinkNest RX7 177 yX4_becomeGreedy "WordWheel" ∈ nw := tb_nw (List.mem_of_getElem? (i := 571) (by decide +kernel)) rfl
theorem km_X7_180 : Cond.methodLinkNest RX7 180 yX2_leads "WordWheel" ∈ nw := tb_nw (List.mem_of_getElem? (i := 583) (by decide +kernel)) rfl
theorem km_X7_184 : Cond.methodLinkNest RX7 184 yX4_becomeCycle "WordWheel" ∈ nw := tb_nw (List.mem_of_getElem? (i := 584) (by decide +kernel)) rfl
theorem km_X7_188 : Cond.methodLinkNest RX7 188 yX4_isPlace "WordWheel" ∈ nw := tb_nw (List.mem_of_getElem? (i := 592) (by decide +kernel)) rfl
theorem kf_X7_191 : Cond.fieldLinkNest RX7 191 "WordWheel$Round" "letters" "[B" "WordWheel" ∈ nw := tb_nw (List.mem_of_getElem? (i := 155) (by decide +kernel)) rfl
theorem km_X7_195 : Cond.methodLinkNest RX7 195 yX4_isThere "WordWheel" ∈ nw := tb_nw (List.mem_of_getElem? (i := 605) (by decide +kernel)) rfl
theorem kf_X7_198 : Cond.fieldLinkNest RX7 198 "WordWheel$Round" "places" "[I" "WordWheel" ∈ nw := tb_nw (List.mem_of_getElem? (i := 157) (by decide +kernel)) rfl
theorem km_X7_202 : Cond.methodLink RX7 202 yX7_isTape ∈ gw := tb_in (List.mem_of_getElem? (i := 614) (by decide +kernel)) rfl
theorem km_X7_205 : Cond.methodLink RX7 205 yX7_isForm ∈ gw := tb_in (List.mem_of_getElem? (i := 617) (by decide +kernel)) rfl
theorem km_X7_208 : Cond.methodLink RX7 208 yX7_finding ∈ gw := tb_in (List.mem_of_getElem? (i := 620) (by decide +kernel)) rfl
theorem km_X7_211 : Cond.methodLinkNest RX7 211 yX5_begin "WordWheel" ∈ nw := tb_nw (List.mem_of_getElem? (i := 624) (by decide +kernel)) rfl
theorem km_X7_214 : Cond.methodLinkNest RX7 214 yX5_isLost "WordWheel" ∈ nw := tb_nw (List.mem_of_getElem? (i := 633) (by decide +kernel)) rfl
theorem km_X7_217 : Cond.methodLinkNest RX7 217 yX5_drop "WordWheel" ∈ nw := tb_nw (List.mem_of_getElem? (i := 637) (by decide +kernel)) rfl
theorem km_X7_219 : Cond.methodLink RX7 219 yX7_faultOfItem ∈ gw := tb_in (List.mem_of_getElem? (i := 645) (by decide +kernel)) rfl
theorem kf_X7_223 : Cond.fieldLinkNest RX7 223 "WordWheel$Tape" "items" "[I" "WordWheel" ∈ nw := tb_nw (List.mem_of_getElem? (i := 193) (by decide +kernel)) rfl
theorem km_X7_226 : Cond.methodLinkNest RX7 226 yX5_fitted "WordWheel" ∈ nw := tb_nw (List.mem_of_getElem? (i := 652) (by decide +kernel)) rfl
theorem kk_X7_231 : Cond.constant RX7 231 (-2147483648) ∈ gw := tb_in (List.mem_of_getElem? (i := 660) (by decide +kernel)) rfl
theorem kf_X7_232 : Cond.fieldLinkNest RX7 232 "WordWheel$Tape" "form" "I" "WordWheel" ∈ nw := tb_nw (List.mem_of_getElem? (i := 195) (by decide +kernel)) rfl
theorem km_X7_235 : Cond.methodLinkNest RX7 235 yX5_hasItems "WordWheel" ∈ nw := tb_nw (List.mem_of_getElem? (i := 648) (by decide +kernel)) rfl
theorem km_X7_238 : Cond.methodLink RX7 238 arraycopyName ∈ gw := tb_in (List.mem_of_getElem? (i := 665) (by decide +kernel)) rfl
theorem km_X7_244 : Cond.methodLinkNest RX7 244 yX4_writeLetters "WordWheel" ∈ nw := tb_nw (List.mem_of_getElem? (i := 672) (by decide +kernel)) rfl
theorem km_X7_248 : Cond.methodLinkNest RX7 248 yX4_countMatches "WordWheel" ∈ nw := tb_nw (List.mem_of_getElem? (i := 680) (by decide +kernel)) rfl
theorem kf_X7_252 : Cond.fieldLinkNest RX7 252 "WordWheel$Round" "firstMatch" "I" "WordWheel" ∈ nw := tb_nw (List.mem_of_getElem? (i := 164) (by decide +kernel)) rfl
theorem kf_X7_255 : Cond.fieldLinkNest RX7 255 "WordWheel$Tape" "length" "I" "WordWheel" ∈ nw := tb_nw (List.mem_of_getElem? (i := 197) (by decide +kernel)) rfl
theorem km_X7_256 : Cond.methodLinkNest RX7 256 yX5_hasBlanks "WordWheel" ∈ nw := tb_nw (List.mem_of_getElem? (i := 710) (by decide +kernel)) rfl
theorem km_X7_259 : Cond.methodLinkNest RX7 259 yX5_firstRepeated "WordWheel" ∈ nw := tb_nw (List.mem_of_getElem? (i := 715) (by decide +kernel)) rfl
theorem km_X7_262 : Cond.methodLinkNest RX7 262 yX0_divide "WordWheel" ∈ nw := tb_nw (List.mem_of_getElem? (i := 727) (by decide +kernel)) rfl
theorem kf_X7_266 : Cond.fieldLinkNest RX7 266 "WordWheel$Parting" "told" "I" "WordWheel" ∈ nw := tb_nw (List.mem_of_getElem? (i := 219) (by decide +kernel)) rfl
theorem kf_X7_269 : Cond.fieldLinkNest RX7 269 "WordWheel$Parting" "begins" "[I" "WordWheel" ∈ nw := tb_nw (List.mem_of_getElem? (i := 217) (by decide +kernel)) rfl
theorem kf_X7_272 : Cond.fieldLinkNest RX7 272 "WordWheel$Words" "letters" "I" "WordWheel" ∈ nw := tb_nw (List.mem_of_getElem? (i := 40) (by decide +kernel)) rfl
theorem km_X7_274 : Cond.methodLinkNest RX7 274 yX1_learn "WordWheel" ∈ nw := tb_nw (List.mem_of_getElem? (i := 739) (by decide +kernel)) rfl
theorem kf_X7_278 : Cond.fieldLinkNest RX7 278 "WordWheel$Recurring" "length" "I" "WordWheel" ∈ nw := tb_nw (List.mem_of_getElem? (i := 235) (by decide +kernel)) rfl
theorem km_X7_279 : Cond.methodLinkNest RX7 279 yX1_coefficientAt "WordWheel" ∈ nw := tb_nw (List.mem_of_getElem? (i := 769) (by decide +kernel)) rfl
theorem kf_X7_282 : Cond.fieldLinkNest RX7 282 "WordWheel$Round" "kind" "I" "WordWheel" ∈ nw := tb_nw (List.mem_of_getElem? (i := 159) (by decide +kernel)) rfl
theorem kk_X7_285 : Cond.constantLong RX7 285 (17) ∈ gw := tb_in (List.mem_of_getElem? (i := 781) (by decide +kernel)) rfl
theorem kk_X7_287 : Cond.constantLong RX7 287 (31) ∈ gw := tb_in (List.mem_of_getElem? (i := 782) (by decide +kernel)) rfl
theorem km_X7_289 : Cond.methodLink RX7 289 yX7_count ∈ gw := tb_in (List.mem_of_getElem? (i := 783) (by decide +kernel)) rfl
theorem km_X0_3 : Cond.methodLink RX0 3 objectInit ∈ gw := tb_in (List.mem_of_getElem? (i := 215) (by decide +kernel)) rfl
theorem kf_X0_9 : Cond.fieldLink RX0 9 "WordWheel$Parting" "begins" "[I" ∈ gw := tb_in (List.mem_of_getElem? (i := 216) (by decide +kernel)) rfl
theorem kf_X0_15 : Cond.fieldLink RX0 15 "WordWheel$Parting" "told" "I" ∈ gw := tb_in (List.mem_of_getElem? (i := 218) (by decide +kernel)) rfl
theorem km_X1_3 : Cond.methodLink RX1 3 objectInit ∈ gw := tb_in (List.mem_of_getElem? (i := 230) (by decide +kernel)) rfl
theorem kf_X1_9 : Cond.fieldLink RX1 9 "WordWheel$Recurring" "now" "[I" ∈ gw := tb_in (List.mem_of_getElem? (i := 231) (by decide +kernel)) rfl
theorem kf_X1_15 : Cond.fieldLink RX1 15 "WordWheel$Recurring" "earlier" "[I" ∈ gw := tb_in (List.mem_of_getElem? (i := 232) (by decide +kernel)) rfl
theorem kf_X1_18 : Cond.fieldLink RX1 18 "WordWheel$Recurring" "spare" "[I" ∈ gw := tb_in (List.mem_of_getElem? (i := 233) (by decide +kernel)) rfl
theorem kf_X1_21 : Cond.fieldLink RX1 21 "WordWheel$Recurring" "modulus" "I" ∈ gw := tb_in (List.mem_of_getElem? (i := 236) (by decide +kernel)) rfl
theorem kf_X1_25 : Cond.fieldLink RX1 25 "WordWheel$Recurring" "length" "I" ∈ gw := tb_in (List.mem_of_getElem? (i := 234) (by decide +kernel)) rfl
theorem km_X1_28 : Cond.methodLink RX1 28 yJ7_fill_53178 ∈ gw := tb_in (List.mem_of_getElem? (i := 743) (by decide +kernel)) rfl
theorem km_X1_34 : Cond.methodLink RX1 34 yX1_gapAt ∈ gw := tb_in (List.mem_of_getElem? (i := 744) (by decide +kernel)) rfl
theorem km_X1_38 : Cond.methodLink RX1 38 yX1_inverse ∈ gw := tb_in (List.mem_of_getElem? (i := 748) (by decide +kernel)) rfl
theorem km_X1_42 : Cond.methodLink RX1 42 yX1_lengthen ∈ gw := tb_in (List.mem_of_getElem? (i := 752) (by decide +kernel)) rfl
theorem km_X1_46 : Cond.methodLink RX1 46 yX1_subtractEarlier ∈ gw := tb_in (List.mem_of_getElem? (i := 757) (by decide +kernel)) rfl
theorem km_X1_50 : Cond.methodLink RX1 50 yX1_lowerNumbers ∈ gw := tb_in (List.mem_of_getElem? (i := 761) (by decide +kernel)) rfl
theorem km_X1_53 : Cond.methodLink RX1 53 arraycopyName ∈ gw := tb_in (List.mem_of_getElem? (i := 756) (by decide +kernel)) rfl
theorem km_X2_3 : Cond.methodLink RX2 3 objectInit ∈ gw := tb_in (List.mem_of_getElem? (i := 91) (by decide +kernel)) rfl
theorem kf_X2_9 : Cond.fieldLink RX2 9 "WordWheel$Register" "factors" "[I" ∈ gw := tb_in (List.mem_of_getElem? (i := 104) (by decide +kernel)) rfl
theorem kf_X2_15 : Cond.fieldLink RX2 15 "WordWheel$Register" "ones" "[I" ∈ gw := tb_in (List.mem_of_getElem? (i := 106) (by decide +kernel)) rfl
theorem kf_X2_18 : Cond.fieldLink RX2 18 "WordWheel$Register" "others" "[I" ∈ gw := tb_in (List.mem_of_getElem? (i := 107) (by decide +kernel)) rfl
theorem kf_X2_21 : Cond.fieldLink RX2 21 "WordWheel$Register" "lead" "[I" ∈ gw := tb_in (List.mem_of_getElem? (i := 110) (by decide +kernel)) rfl
theorem kf_X2_24 : Cond.fieldLink RX2 24 "WordWheel$Register" "cycleNumber" "[I" ∈ gw := tb_in (List.mem_of_getElem? (i := 112) (by decide +kernel)) rfl
theorem kf_X2_27 : Cond.fieldLink RX2 27 "WordWheel$Register" "leastWord" "[I" ∈ gw := tb_in (List.mem_of_getElem? (i := 113) (by decide +kernel)) rfl
theorem kf_X2_30 : Cond.fieldLink RX2 30 "WordWheel$Register" "joined" "[I" ∈ gw := tb_in (List.mem_of_getElem? (i := 117) (by decide +kernel)) rfl
theorem kf_X2_33 : Cond.fieldLink RX2 33 "WordWheel$Register" "words" "LWordWheel$Words;" ∈ gw := tb_in (List.mem_of_getElem? (i := 103) (by decide +kernel)) rfl
theorem km_X2_37 : Cond.methodLink RX2 37 yX2_becomeTurning ∈ gw := tb_in (List.mem_of_getElem? (i := 92) (by decide +kernel)) rfl
theorem km_X2_40 : Cond.methodLink RX2 40 yJ7_fill_53178 ∈ gw := tb_in (List.mem_of_getElem? (i := 96) (by decide +kernel)) rfl
theorem kf_X2_46 : Cond.fieldLink RX2 46 "WordWheel$Register" "addend" "I" ∈ gw := tb_in (List.mem_of_getElem? (i := 105) (by decide +kernel)) rfl
theorem km_X2_50 : Cond.methodLink RX2 50 yX2_forgetExchanges ∈ gw := tb_in (List.mem_of_getElem? (i := 99) (by decide +kernel)) rfl
theorem kf_X2_53 : Cond.fieldLink RX2 53 "WordWheel$Register" "exchanges" "I" ∈ gw := tb_in (List.mem_of_getElem? (i := 108) (by decide +kernel)) rfl
theorem kf_X2_56 : Cond.fieldLink RX2 56 "WordWheel$Register" "leadsStand" "Z" ∈ gw := tb_in (List.mem_of_getElem? (i := 111) (by decide +kernel)) rfl
theorem kf_X2_60 : Cond.fieldLink RX2 60 "WordWheel$Register" "numbersStand" "Z" ∈ gw := tb_in (List.mem_of_getElem? (i := 114) (by decide +kernel)) rfl
theorem kf_X2_63 : Cond.fieldLink RX2 63 "WordWheel$Register" "countStands" "Z" ∈ gw := tb_in (List.mem_of_getElem? (i := 116) (by decide +kernel)) rfl
theorem kf_X2_66 : Cond.fieldLinkNest RX2 66 "WordWheel$Words" "letters" "I" "WordWheel" ∈ nw := tb_nw (List.mem_of_getElem? (i := 37) (by decide +kernel)) rfl
theorem km_X2_71 : Cond.methodLink RX2 71 yX2_leads ∈ gw := tb_in (List.mem_of_getElem? (i := 448) (by decide +kernel)) rfl
theorem km_X2_75 : Cond.methodLink RX2 75 yX2_fillComing ∈ gw := tb_in (List.mem_of_getElem? (i := 452) (by decide +kernel)) rfl
theorem kf_X2_78 : Cond.fieldLinkNest RX2 78 "WordWheel$Words" "all" "I" "WordWheel" ∈ nw := tb_nw (List.mem_of_getElem? (i := 51) (by decide +kernel)) rfl
theorem kf_X2_81 : Cond.fieldLinkNest RX2 81 "WordWheel$Words" "high" "I" "WordWheel" ∈ nw := tb_nw (List.mem_of_getElem? (i := 54) (by decide +kernel)) rfl
theorem kf_X2_84 : Cond.fieldLinkNest RX2 84 "WordWheel$Words" "length" "I" "WordWheel" ∈ nw := tb_nw (List.mem_of_getElem? (i := 45) (by decide +kernel)) rfl
theorem kf_X2_87 : Cond.fieldLinkNest RX2 87 "WordWheel$Words" "power" "[I" "WordWheel" ∈ nw := tb_nw (List.mem_of_getElem? (i := 34) (by decide +kernel)) rfl
theorem km_X2_90 : Cond.methodLink RX2 90 yJ7_fill_fda19 ∈ gw := tb_in (List.mem_of_getElem? (i := 492) (by decide +kernel)) rfl
theorem kf_X2_93 : Cond.fieldLink RX2 93 "WordWheel$Register" "cycleCount" "I" ∈ gw := tb_in (List.mem_of_getElem? (i := 115) (by decide +kernel)) rfl
theorem km_X2_96 : Cond.methodLink RX2 96 yX2_markCycle ∈ gw := tb_in (List.mem_of_getElem? (i := 493) (by decide +kernel)) rfl
theorem km_X2_100 : Cond.methodLink RX2 100 yX2_numberCycles ∈ gw := tb_in (List.mem_of_getElem? (i := 488) (by decide +kernel)) rfl
theorem km_X2_103 : Cond.methodLink RX2 103 yX2_countBehindExchange ∈ gw := tb_in (List.mem_of_getElem? (i := 480) (by decide +kernel)) rfl
theorem km_X2_107 : Cond.methodLink RX2 107 yX2_swapLeads ∈ gw := tb_in (List.mem_of_getElem? (i := 501) (by decide +kernel)) rfl
theorem km_X2_110 : Cond.methodLink RX2 110 yX2_noteExchange ∈ gw := tb_in (List.mem_of_getElem? (i := 505) (by decide +kernel)) rfl
theorem km_X2_113 : Cond.methodLink RX2 113 yX2_howManyCycles ∈ gw := tb_in (List.mem_of_getElem? (i := 484) (by decide +kernel)) rfl
theorem km_X2_117 : Cond.methodLink RX2 117 yX2_inOneCycle ∈ gw := tb_in (List.mem_of_getElem? (i := 497) (by decide +kernel)) rfl
theorem km_X2_121 : Cond.methodLink RX2 121 yX2_joinAt ∈ gw := tb_in (List.mem_of_getElem? (i := 550) (by decide +kernel)) rfl
theorem km_X3_3 : Cond.methodLink RX3 3 objectInit ∈ gw := tb_in (List.mem_of_getElem? (i := 72) (by decide +kernel)) rfl
theorem kf_X3_9 : Cond.fieldLink RX3 9 "WordWheel$RingCounter" "row" "[I" ∈ gw := tb_in (List.mem_of_getElem? (i := 74) (by decide +kernel)) rfl
theorem kf_X3_15 : Cond.fieldLink RX3 15 "WordWheel$RingCounter" "pathways" "[I" ∈ gw := tb_in (List.mem_of_getElem? (i := 75) (by decide +kernel)) rfl
theorem kf_X3_18 : Cond.fieldLink RX3 18 "WordWheel$RingCounter" "amounts" "[I" ∈ gw := tb_in (List.mem_of_getElem? (i := 76) (by decide +kernel)) rfl
theorem kf_X3_21 : Cond.fieldLink RX3 21 "WordWheel$RingCounter" "words" "LWordWheel$Words;" ∈ gw := tb_in (List.mem_of_getElem? (i := 73) (by decide +kernel)) rfl
theorem kf_X3_25 : Cond.fieldLinkNest RX3 25 "WordWheel$Words" "length" "I" "WordWheel" ∈ nw := tb_nw (List.mem_of_getElem? (i := 41) (by decide +kernel)) rfl
theorem kf_X3_31 : Cond.fieldLink RX3 31 "WordWheel$RingCounter" "TOTIENT" "[I" ∈ gw := tb_in (List.mem_of_getElem? (i := 348) (by decide +kernel)) rfl
theorem km_X3_34 : Cond.methodLink RX3 34 yX3_greatestRepeated ∈ gw := tb_in (List.mem_of_getElem? (i := 350) (by decide +kernel)) rfl
theorem km_X3_38 : Cond.methodLink RX3 38 yX3_wordsUpTo ∈ gw := tb_in (List.mem_of_getElem? (i := 354) (by decide +kernel)) rfl
theorem kf_X3_41 : Cond.fieldLinkNest RX3 41 "WordWheel$Words" "power" "[I" "WordWheel" ∈ nw := tb_nw (List.mem_of_getElem? (i := 33) (by decide +kernel)) rfl
theorem kf_X3_44 : Cond.fieldLinkNest RX3 44 "WordWheel$Words" "all" "I" "WordWheel" ∈ nw := tb_nw (List.mem_of_getElem? (i := 48) (by decide +kernel)) rfl
theorem km_X3_47 : Cond.methodLink RX3 47 yX3_ringsUpTo ∈ gw := tb_in (List.mem_of_getElem? (i := 393) (by decide +kernel)) rfl
theorem kf_X3_51 : Cond.fieldLinkNest RX3 51 "WordWheel$Words" "letters" "I" "WordWheel" ∈ nw := tb_nw (List.mem_of_getElem? (i := 36) (by decide +kernel)) rfl
theorem km_X3_54 : Cond.methodLink RX3 54 yX3_lowerToBeginning ∈ gw := tb_in (List.mem_of_getElem? (i := 358) (by decide +kernel)) rfl
theorem km_X3_58 : Cond.methodLink RX3 58 yX3_wordsAboveRow ∈ gw := tb_in (List.mem_of_getElem? (i := 372) (by decide +kernel)) rfl
theorem km_X3_61 : Cond.methodLink RX3 61 yX3_firstFault ∈ gw := tb_in (List.mem_of_getElem? (i := 362) (by decide +kernel)) rfl
theorem km_X3_64 : Cond.methodLink RX3 64 yJ7_fill_fda19 ∈ gw := tb_in (List.mem_of_getElem? (i := 366) (by decide +kernel)) rfl
theorem km_X3_70 : Cond.methodLink RX3 70 yX3_greaterThan ∈ gw := tb_in (List.mem_of_getElem? (i := 376) (by decide +kernel)) rfl
theorem km_X3_73 : Cond.methodLinkNest RX3 73 yX6_isLetter "WordWheel" ∈ nw := tb_nw (List.mem_of_getElem? (i := 407) (by decide +kernel)) rfl
theorem km_X3_77 : Cond.methodLink RX3 77 yX3_allDivisible ∈ gw := tb_in (List.mem_of_getElem? (i := 415) (by decide +kernel)) rfl
theorem km_X3_80 : Cond.methodLink RX3 80 yX3_arrangements ∈ gw := tb_in (List.mem_of_getElem? (i := 419) (by decide +kernel)) rfl
theorem km_X4_3 : Cond.methodLink RX4 3 objectInit ∈ gw := tb_in (List.mem_of_getElem? (i := 152) (by decide +kernel)) rfl
theorem kf_X4_9 : Cond.fieldLink RX4 9 "WordWheel$Round" "letters" "[B" ∈ gw := tb_in (List.mem_of_getElem? (i := 154) (by decide +kernel)) rfl
theorem kf_X4_15 : Cond.fieldLink RX4 15 "WordWheel$Round" "places" "[I" ∈ gw := tb_in (List.mem_of_getElem? (i := 156) (by decide +kernel)) rfl
theorem kf_X4_19 : Cond.fieldLink RX4 19 "WordWheel$Round" "kind" "I" ∈ gw := tb_in (List.mem_of_getElem? (i := 158) (by decide +kernel)) rfl
theorem kf_X4_23 : Cond.fieldLink RX4 23 "WordWheel$Round" "row" "[I" ∈ gw := tb_in (List.mem_of_getElem? (i := 160) (by decide +kernel)) rfl
theorem kf_X4_26 : Cond.fieldLink RX4 26 "WordWheel$Round" "slipsOf" "[J" ∈ gw := tb_in (List.mem_of_getElem? (i := 161) (by decide +kernel)) rfl
theorem kf_X4_30 : Cond.fieldLink RX4 30 "WordWheel$Round" "standsAt" "[J" ∈ gw := tb_in (List.mem_of_getElem? (i := 162) (by decide +kernel)) rfl
theorem kf_X4_33 : Cond.fieldLink RX4 33 "WordWheel$Round" "firstMatch" "I" ∈ gw := tb_in (List.mem_of_getElem? (i := 163) (by decide +kernel)) rfl
theorem kf_X4_36 : Cond.fieldLink RX4 36 "WordWheel$Round" "words" "LWordWheel$Words;" ∈ gw := tb_in (List.mem_of_getElem? (i := 153) (by decide +kernel)) rfl
theorem km_X4_40 : Cond.methodLink RX4 40 yX4_isThere ∈ gw := tb_in (List.mem_of_getElem? (i := 596) (by decide +kernel)) rfl
theorem km_X4_44 : Cond.methodLinkNest RX4 44 yX6_has "WordWheel" ∈ nw := tb_nw (List.mem_of_getElem? (i := 600) (by decide +kernel)) rfl
theorem kk_X4_50 : Cond.constant RX4 50 (40000) ∈ gw := tb_in (List.mem_of_getElem? (i := 562) (by decide +kernel)) rfl
theorem kf_X4_51 : Cond.fieldLinkNest RX4 51 "WordWheel$Words" "length" "I" "WordWheel" ∈ nw := tb_nw (List.mem_of_getElem? (i := 43) (by decide +kernel)) rfl
theorem kf_X4_54 : Cond.fieldLinkNest RX4 54 "WordWheel$Words" "all" "I" "WordWheel" ∈ nw := tb_nw (List.mem_of_getElem? (i := 49) (by decide +kernel)) rfl
theorem km_X4_57 : Cond.methodLink RX4 57 yX4_nextRow ∈ gw := tb_in (List.mem_of_getElem? (i := 563) (by decide +kernel)) rfl
theorem km_X4_61 : Cond.methodLink RX4 61 yX4_findPlaces ∈ gw := tb_in (List.mem_of_getElem? (i := 567) (by decide +kernel)) rfl
theorem kf_X4_64 : Cond.fieldLinkNest RX4 64 "WordWheel$Words" "letters" "I" "WordWheel" ∈ nw := tb_nw (List.mem_of_getElem? (i := 38) (by decide +kernel)) rfl
theorem kf_X4_66 : Cond.fieldLinkNest RX4 66 "WordWheel$Words" "high" "I" "WordWheel" ∈ nw := tb_nw (List.mem_of_getElem? (i := 53) (by decide +kernel)) rfl
theorem km_X4_69 : Cond.methodLink RX4 69 yJ7_fill_fda19 ∈ gw := tb_in (List.mem_of_getElem? (i := 575) (by decide +kernel)) rfl
theorem km_X4_75 : Cond.methodLink RX4 75 yJ7_fill_eb02e ∈ gw := tb_in (List.mem_of_getElem? (i := 576) (by decide +kernel)) rfl
theorem km_X4_78 : Cond.methodLink RX4 78 yX4_greatestNew ∈ gw := tb_in (List.mem_of_getElem? (i := 579) (by decide +kernel)) rfl
theorem km_X4_81 : Cond.methodLink RX4 81 yX4_noteSlips ∈ gw := tb_in (List.mem_of_getElem? (i := 684) (by decide +kernel)) rfl
theorem km_X4_85 : Cond.methodLink RX4 85 yX4_noteFirstPlaces ∈ gw := tb_in (List.mem_of_getElem? (i := 692) (by decide +kernel)) rfl
theorem km_X4_88 : Cond.methodLink RX4 88 yJ13_bitCount_95d88 ∈ gw := tb_in (List.mem_of_getElem? (i := 696) (by decide +kernel)) rfl
theorem km_X4_94 : Cond.methodLink RX4 94 yJ7_fill_d0a16 ∈ gw := tb_in (List.mem_of_getElem? (i := 688) (by decide +kernel)) rfl
theorem km_X4_97 : Cond.methodLinkNest RX4 97 yX6_isLetter "WordWheel" ∈ nw := tb_nw (List.mem_of_getElem? (i := 691) (by decide +kernel)) rfl
theorem km_X5_3 : Cond.methodLink RX5 3 objectInit ∈ gw := tb_in (List.mem_of_getElem? (i := 190) (by decide +kernel)) rfl
theorem kf_X5_9 : Cond.fieldLink RX5 9 "WordWheel$Tape" "items" "[I" ∈ gw := tb_in (List.mem_of_getElem? (i := 192) (by decide +kernel)) rfl
theorem kf_X5_15 : Cond.fieldLink RX5 15 "WordWheel$Tape" "form" "I" ∈ gw := tb_in (List.mem_of_getElem? (i := 194) (by decide +kernel)) rfl
theorem kf_X5_19 : Cond.fieldLink RX5 19 "WordWheel$Tape" "begun" "[I" ∈ gw := tb_in (List.mem_of_getElem? (i := 198) (by decide +kernel)) rfl
theorem kf_X5_22 : Cond.fieldLink RX5 22 "WordWheel$Tape" "words" "LWordWheel$Words;" ∈ gw := tb_in (List.mem_of_getElem? (i := 191) (by decide +kernel)) rfl
theorem kf_X5_26 : Cond.fieldLink RX5 26 "WordWheel$Tape" "length" "I" ∈ gw := tb_in (List.mem_of_getElem? (i := 196) (by decide +kernel)) rfl
theorem km_X5_29 : Cond.methodLink RX5 29 yJ7_fill_fda19 ∈ gw := tb_in (List.mem_of_getElem? (i := 628) (by decide +kernel)) rfl
theorem km_X5_35 : Cond.methodLinkNest RX5 35 yX6_isLetter "WordWheel" ∈ nw := tb_nw (List.mem_of_getElem? (i := 714) (by decide +kernel)) rfl
theorem km_X5_41 : Cond.methodLink RX5 41 yX5_wordAt ∈ gw := tb_in (List.mem_of_getElem? (i := 719) (by decide +kernel)) rfl
theorem kf_X5_45 : Cond.fieldLinkNest RX5 45 "WordWheel$Words" "length" "I" "WordWheel" ∈ nw := tb_nw (List.mem_of_getElem? (i := 44) (by decide +kernel)) rfl
theorem kf_X5_46 : Cond.fieldLinkNest RX5 46 "WordWheel$Words" "letters" "I" "WordWheel" ∈ nw := tb_nw (List.mem_of_getElem? (i := 39) (by decide +kernel)) rfl
theorem km_X6_3 : Cond.methodLink RX6 3 objectInit ∈ gw := tb_in (List.mem_of_getElem? (i := 27) (by decide +kernel)) rfl
theorem kf_X6_9 : Cond.fieldLink RX6 9 "WordWheel$Words" "power" "[I" ∈ gw := tb_in (List.mem_of_getElem? (i := 32) (by decide +kernel)) rfl
theorem km_X6_15 : Cond.methodLink RX6 15 yX6_become ∈ gw := tb_in (List.mem_of_getElem? (i := 28) (by decide +kernel)) rfl
theorem kf_X6_19 : Cond.fieldLink RX6 19 "WordWheel$Words" "letters" "I" ∈ gw := tb_in (List.mem_of_getElem? (i := 35) (by decide +kernel)) rfl
theorem kf_X6_23 : Cond.fieldLink RX6 23 "WordWheel$Words" "length" "I" ∈ gw := tb_in (List.mem_of_getElem? (i := 42) (by decide +kernel)) rfl
theorem kf_X6_26 : Cond.fieldLink RX6 26 "WordWheel$Words" "all" "I" ∈ gw := tb_in (List.mem_of_getElem? (i := 47) (by decide +kernel)) rfl
theorem kf_X6_29 : Cond.fieldLink RX6 29 "WordWheel$Words" "high" "I" ∈ gw := tb_in (List.mem_of_getElem? (i := 52) (by decide +kernel)) rfl
theorem km_X6_32 : Cond.methodLink RX6 32 yX6_turnedOnce ∈ gw := tb_in (List.mem_of_getElem? (i := 309) (by decide +kernel)) rfl
theorem km_X6_36 : Cond.methodLink RX6 36 yJ9_min_7cf53 ∈ gw := tb_in (List.mem_of_getElem? (i := 313) (by decide +kernel)) rfl
theorem kc_L_7 : Cond.classLink RL 7 RX7 ∈ gw := tb_in (List.mem_of_getElem? (i := 14) (by decide +kernel)) rfl
theorem km_L_9 : Cond.methodLink RL 9 yX7_init ∈ gw := tb_in (List.mem_of_getElem? (i := 16) (by decide +kernel)) rfl
theorem kc_L_10 : Cond.classLink RL 10 RX8 ∈ gw := tb_in (List.mem_of_getElem? (i := 784) (by decide +kernel)) rfl
theorem km_L_12 : Cond.methodLink RL 12 yX8_init ∈ gw := tb_in (List.mem_of_getElem? (i := 786) (by decide +kernel)) rfl
theorem km_L_13 : Cond.methodLink RL 13 yX7_wheel ∈ gw := tb_in (List.mem_of_getElem? (i := 276) (by decide +kernel)) rfl
theorem km_L_17 : Cond.methodLink RL 17 yX8_wheel ∈ gw := tb_in (List.mem_of_getElem? (i := 914) (by decide +kernel)) rfl
theorem km_L_18 : Cond.methodLink RL 18 yX7_turn ∈ gw := tb_in (List.mem_of_getElem? (i := 289) (by decide +kernel)) rfl
theorem km_L_21 : Cond.methodLink RL 21 yX8_turn ∈ gw := tb_in (List.mem_of_getElem? (i := 915) (by decide +kernel)) rfl
theorem km_L_22 : Cond.methodLink RL 22 yX7_least ∈ gw := tb_in (List.mem_of_getElem? (i := 301) (by decide +kernel)) rfl
theorem km_L_26 : Cond.methodLink RL 26 yX8_least ∈ gw := tb_in (List.mem_of_getElem? (i := 924) (by decide +kernel)) rfl
theorem km_L_27 : Cond.methodLink RL 27 yX7_steps ∈ gw := tb_in (List.mem_of_getElem? (i := 316) (by decide +kernel)) rfl
theorem km_L_30 : Cond.methodLink RL 30 yX8_steps ∈ gw := tb_in (List.mem_of_getElem? (i := 928) (by decide +kernel)) rfl
theorem km_L_31 : Cond.methodLink RL 31 yX7_size ∈ gw := tb_in (List.mem_of_getElem? (i := 324) (by decide +kernel)) rfl
theorem km_L_34 : Cond.methodLink RL 34 yX8_size ∈ gw := tb_in (List.mem_of_getElem? (i := 932) (by decide +kernel)) rfl
theorem km_L_35 : Cond.methodLink RL 35 yX7_even ∈ gw := tb_in (List.mem_of_getElem? (i := 332) (by decide +kernel)) rfl
theorem km_L_38 : Cond.methodLink RL 38 yX8_even ∈ gw := tb_in (List.mem_of_getElem? (i := 940) (by decide +kernel)) rfl
theorem km_L_39 : Cond.methodLink RL 39 yX7_rings ∈ gw := tb_in (List.mem_of_getElem? (i := 340) (by decide +kernel)) rfl
theorem km_L_43 : Cond.methodLink RL 43 yX8_rings ∈ gw := tb_in (List.mem_of_getElem? (i := 944) (by decide +kernel)) rfl
theorem km_L_44 : Cond.methodLink RL 44 yX7_ringOf ∈ gw := tb_in (List.mem_of_getElem? (i := 380) (by decide +kernel)) rfl
theorem km_L_47 : Cond.methodLink RL 47 yX8_ringOf ∈ gw := tb_in (List.mem_of_getElem? (i := 948) (by decide +kernel)) rfl
theorem km_L_48 : Cond.methodLink RL 48 yX7_ring ∈ gw := tb_in (List.mem_of_getElem? (i := 384) (by decide +kernel)) rfl
theorem km_L_51 : Cond.methodLink RL 51 yX8_ring ∈ gw := tb_in (List.mem_of_getElem? (i := 952) (by decide +kernel)) rfl
theorem km_L_52 : Cond.methodLink RL 52 yX7_below ∈ gw := tb_in (List.mem_of_getElem? (i := 394) (by decide +kernel)) rfl
theorem km_L_55 : Cond.methodLink RL 55 yX8_below ∈ gw := tb_in (List.mem_of_getElem? (i := 956) (by decide +kernel)) rfl
theorem km_L_56 : Cond.methodLink RL 56 yX7_content ∈ gw := tb_in (List.mem_of_getElem? (i := 399) (by decide +kernel)) rfl
theorem km_L_60 : Cond.methodLink RL 60 yX8_content ∈ gw := tb_in (List.mem_of_getElem? (i := 960) (by decide +kernel)) rfl
theorem km_L_61 : Cond.methodLink RL 61 yX7_factor ∈ gw := tb_in (List.mem_of_getElem? (i := 423) (by decide +kernel)) rfl
theorem km_L_64 : Cond.methodLink RL 64 yX8_factor ∈ gw := tb_in (List.mem_of_getElem? (i := 968) (by decide +kernel)) rfl
theorem km_L_65 : Cond.methodLink RL 65 yX7_sum ∈ gw := tb_in (List.mem_of_getElem? (i := 432) (by decide +kernel)) rfl
theorem km_L_68 : Cond.methodLink RL 68 yX8_sum ∈ gw := tb_in (List.mem_of_getElem? (i := 972) (by decide +kernel)) rfl
theorem km_L_69 : Cond.methodLink RL 69 yX7_go ∈ gw := tb_in (List.mem_of_getElem? (i := 440) (by decide +kernel)) rfl
theorem km_L_72 : Cond.methodLink RL 72 yX8_go ∈ gw := tb_in (List.mem_of_getElem? (i := 976) (by decide +kernel)) rfl
theorem km_L_73 : Cond.methodLink RL 73 yX7_right ∈ gw := tb_in (List.mem_of_getElem? (i := 456) (by decide +kernel)) rfl
theorem km_L_76 : Cond.methodLink RL 76 yX8_right ∈ gw := tb_in (List.mem_of_getElem? (i := 980) (by decide +kernel)) rfl
theorem km_L_77 : Cond.methodLink RL 77 yX7_exchange ∈ gw := tb_in (List.mem_of_getElem? (i := 464) (by decide +kernel)) rfl
theorem km_L_80 : Cond.methodLink RL 80 yX8_exchange ∈ gw := tb_in (List.mem_of_getElem? (i := 988) (by decide +kernel)) rfl
theorem km_L_81 : Cond.methodLink RL 81 yX7_back ∈ gw := tb_in (List.mem_of_getElem? (i := 509) (by decide +kernel)) rfl
theorem km_L_84 : Cond.methodLink RL 84 yX8_back ∈ gw := tb_in (List.mem_of_getElem? (i := 1000) (by decide +kernel)) rfl
theorem km_L_85 : Cond.methodLink RL 85 yX7_cycles ∈ gw := tb_in (List.mem_of_getElem? (i := 517) (by decide +kernel)) rfl
theorem km_L_88 : Cond.methodLink RL 88 yX8_cycles ∈ gw := tb_in (List.mem_of_getElem? (i := 1004) (by decide +kernel)) rfl
theorem km_L_89 : Cond.methodLink RL 89 yX7_cycleOf ∈ gw := tb_in (List.mem_of_getElem? (i := 522) (by decide +kernel)) rfl
theorem km_L_92 : Cond.methodLink RL 92 yX8_cycleOf ∈ gw := tb_in (List.mem_of_getElem? (i := 1008) (by decide +kernel)) rfl
theorem km_L_93 : Cond.methodLink RL 93 yX7_cycle ∈ gw := tb_in (List.mem_of_getElem? (i := 530) (by decide +kernel)) rfl
theorem km_L_96 : Cond.methodLink RL 96 yX8_cycle ∈ gw := tb_in (List.mem_of_getElem? (i := 1012) (by decide +kernel)) rfl
theorem km_L_97 : Cond.methodLink RL 97 yX7_join ∈ gw := tb_in (List.mem_of_getElem? (i := 542) (by decide +kernel)) rfl
theorem km_L_100 : Cond.methodLink RL 100 yX8_join ∈ gw := tb_in (List.mem_of_getElem? (i := 1016) (by decide +kernel)) rfl
theorem km_L_101 : Cond.methodLink RL 101 yX7_round ∈ gw := tb_in (List.mem_of_getElem? (i := 554) (by decide +kernel)) rfl
theorem km_L_104 : Cond.methodLink RL 104 yX8_round ∈ gw := tb_in (List.mem_of_getElem? (i := 1028) (by decide +kernel)) rfl
theorem km_L_105 : Cond.methodLink RL 105 yX7_letter ∈ gw := tb_in (List.mem_of_getElem? (i := 588) (by decide +kernel)) rfl
theorem km_L_108 : Cond.methodLink RL 108 yX8_letter ∈ gw := tb_in (List.mem_of_getElem? (i := 1040) (by decide +kernel)) rfl
theorem km_L_109 : Cond.methodLink RL 109 yX7_place ∈ gw := tb_in (List.mem_of_getElem? (i := 601) (by decide +kernel)) rfl
theorem km_L_112 : Cond.methodLink RL 112 yX8_place ∈ gw := tb_in (List.mem_of_getElem? (i := 1044) (by decide +kernel)) rfl
theorem km_L_113 : Cond.methodLink RL 113 yX7_way ∈ gw := tb_in (List.mem_of_getElem? (i := 606) (by decide +kernel)) rfl
theorem km_L_116 : Cond.methodLink RL 116 yX8_way ∈ gw := tb_in (List.mem_of_getElem? (i := 1048) (by decide +kernel)) rfl
theorem km_L_117 : Cond.methodLink RL 117 yX7_tape ∈ gw := tb_in (List.mem_of_getElem? (i := 610) (by decide +kernel)) rfl
theorem km_L_121 : Cond.methodLink RL 121 yX8_tape ∈ gw := tb_in (List.mem_of_getElem? (i := 1052) (by decide +kernel)) rfl
theorem km_L_122 : Cond.methodLink RL 122 yX7_lose ∈ gw := tb_in (List.mem_of_getElem? (i := 629) (by decide +kernel)) rfl
theorem km_L_125 : Cond.methodLink RL 125 yX8_lose ∈ gw := tb_in (List.mem_of_getElem? (i := 1064) (by decide +kernel)) rfl
theorem km_L_126 : Cond.methodLink RL 126 yX7_put ∈ gw := tb_in (List.mem_of_getElem? (i := 641) (by decide +kernel)) rfl
theorem km_L_130 : Cond.methodLink RL 130 yX8_put ∈ gw := tb_in (List.mem_of_getElem? (i := 1068) (by decide +kernel)) rfl
theorem km_L_131 : Cond.methodLink RL 131 yX7_get ∈ gw := tb_in (List.mem_of_getElem? (i := 656) (by decide +kernel)) rfl
theorem km_L_134 : Cond.methodLink RL 134 yX8_get ∈ gw := tb_in (List.mem_of_getElem? (i := 1077) (by decide +kernel)) rfl
theorem km_L_135 : Cond.methodLink RL 135 yX7_copy ∈ gw := tb_in (List.mem_of_getElem? (i := 661) (by decide +kernel)) rfl
theorem km_L_138 : Cond.methodLink RL 138 yX8_copy ∈ gw := tb_in (List.mem_of_getElem? (i := 1082) (by decide +kernel)) rfl
theorem km_L_139 : Cond.methodLink RL 139 yX7_print ∈ gw := tb_in (List.mem_of_getElem? (i := 668) (by decide +kernel)) rfl
theorem km_L_142 : Cond.methodLink RL 142 yX8_print ∈ gw := tb_in (List.mem_of_getElem? (i := 1090) (by decide +kernel)) rfl
theorem km_L_143 : Cond.methodLink RL 143 yX7_find ∈ gw := tb_in (List.mem_of_getElem? (i := 676) (by decide +kernel)) rfl
theorem km_L_146 : Cond.methodLink RL 146 yX8_find ∈ gw := tb_in (List.mem_of_getElem? (i := 1094) (by decide +kernel)) rfl
theorem km_L_147 : Cond.methodLink RL 147 yX7_found ∈ gw := tb_in (List.mem_of_getElem? (i := 702) (by decide +kernel)) rfl
theorem km_L_150 : Cond.methodLink RL 150 yX8_found ∈ gw := tb_in (List.mem_of_getElem? (i := 1099) (by decide +kernel)) rfl
theorem km_L_151 : Cond.methodLink RL 151 yX7_twice ∈ gw := tb_in (List.mem_of_getElem? (i := 706) (by decide +kernel)) rfl
theorem km_L_154 : Cond.methodLink RL 154 yX8_twice ∈ gw := tb_in (List.mem_of_getElem? (i := 1103) (by decide +kernel)) rfl
theorem km_L_155 : Cond.methodLink RL 155 yX7_parts ∈ gw := tb_in (List.mem_of_getElem? (i := 723) (by decide +kernel)) rfl
theorem km_L_158 : Cond.methodLink RL 158 yX8_parts ∈ gw := tb_in (List.mem_of_getElem? (i := 1111) (by decide +kernel)) rfl
theorem km_L_159 : Cond.methodLink RL 159 yX7_part ∈ gw := tb_in (List.mem_of_getElem? (i := 731) (by decide +kernel)) rfl
theorem km_L_162 : Cond.methodLink RL 162 yX8_part ∈ gw := tb_in (List.mem_of_getElem? (i := 1115) (by decide +kernel)) rfl
theorem km_L_163 : Cond.methodLink RL 163 yX7_recurrence ∈ gw := tb_in (List.mem_of_getElem? (i := 735) (by decide +kernel)) rfl
theorem km_L_166 : Cond.methodLink RL 166 yX8_recurrence ∈ gw := tb_in (List.mem_of_getElem? (i := 1119) (by decide +kernel)) rfl
theorem km_L_167 : Cond.methodLink RL 167 yX7_coefficient ∈ gw := tb_in (List.mem_of_getElem? (i := 765) (by decide +kernel)) rfl
theorem km_L_170 : Cond.methodLink RL 170 yX8_coefficient ∈ gw := tb_in (List.mem_of_getElem? (i := 1135) (by decide +kernel)) rfl
theorem km_L_171 : Cond.methodLink RL 171 yX7_count ∈ gw := tb_in (List.mem_of_getElem? (i := 773) (by decide +kernel)) rfl
theorem km_L_174 : Cond.methodLink RL 174 yX8_count ∈ gw := tb_in (List.mem_of_getElem? (i := 1139) (by decide +kernel)) rfl
theorem km_L_175 : Cond.methodLink RL 175 yX7_digest ∈ gw := tb_in (List.mem_of_getElem? (i := 777) (by decide +kernel)) rfl
theorem km_L_179 : Cond.methodLink RL 179 yX8_digest ∈ gw := tb_in (List.mem_of_getElem? (i := 1143) (by decide +kernel)) rfl
theorem km_X8_1 : Cond.methodLink RX8 1 objectInit ∈ gw := tb_in (List.mem_of_getElem? (i := 789) (by decide +kernel)) rfl
theorem kf_X8_7 : Cond.fieldLink RX8 7 "WordWheelModel" "leasts" "[I" ∈ gw := tb_in (List.mem_of_getElem? (i := 816) (by decide +kernel)) rfl
theorem kf_X8_13 : Cond.fieldLink RX8 13 "WordWheelModel" "wanted" "[I" ∈ gw := tb_in (List.mem_of_getElem? (i := 817) (by decide +kernel)) rfl
theorem kf_X8_16 : Cond.fieldLink RX8 16 "WordWheelModel" "had" "[I" ∈ gw := tb_in (List.mem_of_getElem? (i := 818) (by decide +kernel)) rfl
theorem kf_X8_19 : Cond.fieldLink RX8 19 "WordWheelModel" "factors" "[I" ∈ gw := tb_in (List.mem_of_getElem? (i := 819) (by decide +kernel)) rfl
theorem kf_X8_22 : Cond.fieldLink RX8 22 "WordWheelModel" "to" "[I" ∈ gw := tb_in (List.mem_of_getElem? (i := 821) (by decide +kernel)) rfl
theorem kf_X8_25 : Cond.fieldLink RX8 25 "WordWheelModel" "one" "[I" ∈ gw := tb_in (List.mem_of_getElem? (i := 823) (by decide +kernel)) rfl
theorem kf_X8_28 : Cond.fieldLink RX8 28 "WordWheelModel" "other" "[I" ∈ gw := tb_in (List.mem_of_getElem? (i := 824) (by decide +kernel)) rfl
theorem kf_X8_31 : Cond.fieldLink RX8 31 "WordWheelModel" "seen" "[Z" ∈ gw := tb_in (List.mem_of_getElem? (i := 825) (by decide +kernel)) rfl
theorem kf_X8_35 : Cond.fieldLink RX8 35 "WordWheelModel" "number" "[I" ∈ gw := tb_in (List.mem_of_getElem? (i := 826) (by decide +kernel)) rfl
theorem kf_X8_38 : Cond.fieldLink RX8 38 "WordWheelModel" "group" "[I" ∈ gw := tb_in (List.mem_of_getElem? (i := 828) (by decide +kernel)) rfl
theorem kf_X8_41 : Cond.fieldLink RX8 41 "WordWheelModel" "round" "[I" ∈ gw := tb_in (List.mem_of_getElem? (i := 830) (by decide +kernel)) rfl
theorem kf_X8_44 : Cond.fieldLink RX8 44 "WordWheelModel" "placeOf" "[I" ∈ gw := tb_in (List.mem_of_getElem? (i := 831) (by decide +kernel)) rfl
theorem kf_X8_47 : Cond.fieldLink RX8 47 "WordWheelModel" "forms" "[I" ∈ gw := tb_in (List.mem_of_getElem? (i := 832) (by decide +kernel)) rfl
theorem kf_X8_50 : Cond.fieldLink RX8 50 "WordWheelModel" "sizes" "[I" ∈ gw := tb_in (List.mem_of_getElem? (i := 833) (by decide +kernel)) rfl
theorem kf_X8_53 : Cond.fieldLink RX8 53 "WordWheelModel" "items" "[I" ∈ gw := tb_in (List.mem_of_getElem? (i := 834) (by decide +kernel)) rfl
theorem kf_X8_56 : Cond.fieldLink RX8 56 "WordWheelModel" "moved" "[I" ∈ gw := tb_in (List.mem_of_getElem? (i := 835) (by decide +kernel)) rfl
theorem kf_X8_59 : Cond.fieldLink RX8 59 "WordWheelModel" "partAt" "[I" ∈ gw := tb_in (List.mem_of_getElem? (i := 839) (by decide +kernel)) rfl
theorem kf_X8_62 : Cond.fieldLink RX8 62 "WordWheelModel" "told" "[I" ∈ gw := tb_in (List.mem_of_getElem? (i := 841) (by decide +kernel)) rfl
theorem kf_X8_65 : Cond.fieldLink RX8 65 "WordWheelModel" "now" "[I" ∈ gw := tb_in (List.mem_of_getElem? (i := 842) (by decide +kernel)) rfl
theorem kf_X8_68 : Cond.fieldLink RX8 68 "WordWheelModel" "before" "[I" ∈ gw := tb_in (List.mem_of_getElem? (i := 843) (by decide +kernel)) rfl
theorem kf_X8_71 : Cond.fieldLink RX8 71 "WordWheelModel" "kept" "[I" ∈ gw := tb_in (List.mem_of_getElem? (i := 844) (by decide +kernel)) rfl
theorem kk_X8_74 : Cond.constant RX8 74 (40602) ∈ gw := tb_in (List.mem_of_getElem? (i := 790) (by decide +kernel)) rfl
theorem kf_X8_75 : Cond.fieldLink RX8 75 "WordWheelModel" "matrix" "[I" ∈ gw := tb_in (List.mem_of_getElem? (i := 845) (by decide +kernel)) rfl
theorem km_X8_78 : Cond.methodLink RX8 78 yX8_wheel ∈ gw := tb_in (List.mem_of_getElem? (i := 791) (by decide +kernel)) rfl
theorem kk_X8_82 : Cond.constantLong RX8 82 (2) ∈ gw := tb_in (List.mem_of_getElem? (i := 795) (by decide +kernel)) rfl
theorem kk_X8_84 : Cond.constantLong RX8 84 (5) ∈ gw := tb_in (List.mem_of_getElem? (i := 796) (by decide +kernel)) rfl
theorem km_X8_86 : Cond.methodLink RX8 86 yX8_in ∈ gw := tb_in (List.mem_of_getElem? (i := 797) (by decide +kernel)) rfl
theorem kk_X8_90 : Cond.constantLong RX8 90 (14) ∈ gw := tb_in (List.mem_of_getElem? (i := 800) (by decide +kernel)) rfl
theorem kf_X8_92 : Cond.fieldLink RX8 92 "WordWheelModel" "k" "I" ∈ gw := tb_in (List.mem_of_getElem? (i := 813) (by decide +kernel)) rfl
theorem kf_X8_96 : Cond.fieldLink RX8 96 "WordWheelModel" "n" "I" ∈ gw := tb_in (List.mem_of_getElem? (i := 814) (by decide +kernel)) rfl
theorem kf_X8_99 : Cond.fieldLink RX8 99 "WordWheelModel" "all" "I" ∈ gw := tb_in (List.mem_of_getElem? (i := 815) (by decide +kernel)) rfl
theorem km_X8_102 : Cond.methodLink RX8 102 yX8_leastOf ∈ gw := tb_in (List.mem_of_getElem? (i := 801) (by decide +kernel)) rfl
theorem kf_X8_106 : Cond.fieldLink RX8 106 "WordWheelModel" "sum" "I" ∈ gw := tb_in (List.mem_of_getElem? (i := 820) (by decide +kernel)) rfl
theorem km_X8_109 : Cond.methodLink RX8 109 yX8_lead ∈ gw := tb_in (List.mem_of_getElem? (i := 809) (by decide +kernel)) rfl
theorem kf_X8_112 : Cond.fieldLink RX8 112 "WordWheelModel" "which" "I" ∈ gw := tb_in (List.mem_of_getElem? (i := 829) (by decide +kernel)) rfl
theorem kf_X8_115 : Cond.fieldLink RX8 115 "WordWheelModel" "firstFound" "I" ∈ gw := tb_in (List.mem_of_getElem? (i := 837) (by decide +kernel)) rfl
theorem km_X8_118 : Cond.methodLink RX8 118 yX8_next ∈ gw := tb_in (List.mem_of_getElem? (i := 805) (by decide +kernel)) rfl
theorem km_X8_121 : Cond.methodLink RX8 121 yX8_isWord ∈ gw := tb_in (List.mem_of_getElem? (i := 919) (by decide +kernel)) rfl
theorem kk_X8_125 : Cond.constantLong RX8 125 (1000) ∈ gw := tb_in (List.mem_of_getElem? (i := 923) (by decide +kernel)) rfl
theorem km_X8_127 : Cond.methodLink RX8 127 yX8_sizeOf ∈ gw := tb_in (List.mem_of_getElem? (i := 936) (by decide +kernel)) rfl
theorem km_X8_130 : Cond.methodLink RX8 130 yX8_hasWanted ∈ gw := tb_in (List.mem_of_getElem? (i := 964) (by decide +kernel)) rfl
theorem kf_X8_133 : Cond.fieldLink RX8 133 "WordWheelModel" "exchanges" "I" ∈ gw := tb_in (List.mem_of_getElem? (i := 822) (by decide +kernel)) rfl
theorem km_X8_136 : Cond.methodLink RX8 136 yX8_isRight ∈ gw := tb_in (List.mem_of_getElem? (i := 984) (by decide +kernel)) rfl
theorem kf_X8_140 : Cond.fieldLink RX8 140 "WordWheelModel" "cycleMany" "I" ∈ gw := tb_in (List.mem_of_getElem? (i := 827) (by decide +kernel)) rfl
theorem km_X8_143 : Cond.methodLink RX8 143 yX8_swap ∈ gw := tb_in (List.mem_of_getElem? (i := 992) (by decide +kernel)) rfl
theorem km_X8_147 : Cond.methodLink RX8 147 yX8_findCycles ∈ gw := tb_in (List.mem_of_getElem? (i := 996) (by decide +kernel)) rfl
theorem km_X8_150 : Cond.methodLink RX8 150 yX8_groupOf ∈ gw := tb_in (List.mem_of_getElem? (i := 1024) (by decide +kernel)) rfl
theorem km_X8_153 : Cond.methodLink RX8 153 yX8_joins ∈ gw := tb_in (List.mem_of_getElem? (i := 1020) (by decide +kernel)) rfl
theorem km_X8_157 : Cond.methodLink RX8 157 yX8_leastRound ∈ gw := tb_in (List.mem_of_getElem? (i := 1032) (by decide +kernel)) rfl
theorem km_X8_160 : Cond.methodLink RX8 160 yX8_greedyRound ∈ gw := tb_in (List.mem_of_getElem? (i := 1036) (by decide +kernel)) rfl
theorem kf_X8_163 : Cond.fieldLink RX8 163 "WordWheelModel" "latest" "I" ∈ gw := tb_in (List.mem_of_getElem? (i := 836) (by decide +kernel)) rfl
theorem kk_X8_166 : Cond.constantLong RX8 166 (3) ∈ gw := tb_in (List.mem_of_getElem? (i := 1059) (by decide +kernel)) rfl
theorem km_X8_168 : Cond.methodLink RX8 168 yX8_isTape ∈ gw := tb_in (List.mem_of_getElem? (i := 1056) (by decide +kernel)) rfl
theorem km_X8_171 : Cond.methodLink RX8 171 yX8_met ∈ gw := tb_in (List.mem_of_getElem? (i := 1060) (by decide +kernel)) rfl
theorem km_X8_174 : Cond.methodLink RX8 174 yX8_lacks ∈ gw := tb_in (List.mem_of_getElem? (i := 1072) (by decide +kernel)) rfl
theorem kk_X8_178 : Cond.constant RX8 178 (65535) ∈ gw := tb_in (List.mem_of_getElem? (i := 1076) (by decide +kernel)) rfl
theorem kk_X8_179 : Cond.constant RX8 179 (-2147483648) ∈ gw := tb_in (List.mem_of_getElem? (i := 1081) (by decide +kernel)) rfl
theorem km_X8_180 : Cond.methodLink RX8 180 yX8_isWithin ∈ gw := tb_in (List.mem_of_getElem? (i := 1086) (by decide +kernel)) rfl
theorem kk_X8_184 : Cond.constantLong RX8 184 (40) ∈ gw := tb_in (List.mem_of_getElem? (i := 1098) (by decide +kernel)) rfl
theorem km_X8_186 : Cond.methodLink RX8 186 yX8_noLetters ∈ gw := tb_in (List.mem_of_getElem? (i := 1107) (by decide +kernel)) rfl
theorem kf_X8_189 : Cond.fieldLink RX8 189 "WordWheelModel" "partMany" "I" ∈ gw := tb_in (List.mem_of_getElem? (i := 838) (by decide +kernel)) rfl
theorem km_X8_192 : Cond.methodLink RX8 192 yX8_inverse ∈ gw := tb_in (List.mem_of_getElem? (i := 1127) (by decide +kernel)) rfl
theorem km_X8_195 : Cond.methodLink RX8 195 yX8_leastLength ∈ gw := tb_in (List.mem_of_getElem? (i := 1123) (by decide +kernel)) rfl
theorem kf_X8_198 : Cond.fieldLink RX8 198 "WordWheelModel" "length" "I" ∈ gw := tb_in (List.mem_of_getElem? (i := 840) (by decide +kernel)) rfl
theorem km_X8_201 : Cond.methodLink RX8 201 yX8_solve ∈ gw := tb_in (List.mem_of_getElem? (i := 1131) (by decide +kernel)) rfl
theorem kk_X8_204 : Cond.constantLong RX8 204 (17) ∈ gw := tb_in (List.mem_of_getElem? (i := 1147) (by decide +kernel)) rfl
theorem kk_X8_206 : Cond.constantLong RX8 206 (31) ∈ gw := tb_in (List.mem_of_getElem? (i := 1148) (by decide +kernel)) rfl
theorem km_X8_208 : Cond.methodLink RX8 208 yX8_count ∈ gw := tb_in (List.mem_of_getElem? (i := 1149) (by decide +kernel)) rfl
theorem kk_J13_314 : Cond.constantLong RJ13 314 (6148914691236517205) ∈ gw := tb_in (List.mem_of_getElem? (i := 699) (by decide +kernel)) rfl
theorem kk_J13_316 : Cond.constantLong RJ13 316 (3689348814741910323) ∈ gw := tb_in (List.mem_of_getElem? (i := 700) (by decide +kernel)) rfl
theorem kk_J13_318 : Cond.constantLong RJ13 318 (1085102592571150095) ∈ gw := tb_in (List.mem_of_getElem? (i := 701) (by decide +kernel)) rfl
theorem km_J7_13 : Cond.methodLink RJ7 13 yJ7_rangeCheck_23922 ∈ gw := tb_in (List.mem_of_getElem? (i := 369) (by decide +kernel)) rfl
