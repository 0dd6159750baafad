/-! the tables' words by their places; the instructions -/
theorem us_0 : ∀ w ∈ u_ws RX0 TX0 12, w ∈ Gt := by
  have h : ∀ w ∈ u_ws RX0 TX0 12, w ∈ tables_1 := by decide +kernel
  have g : (u_ws RX0 TX0 12).all goodWord = true := by decide +kernel
  exact fun w hw => gt_of (List.mem_append_right _ (h w hw)) (List.all_eq_true.mp g w hw)
theorem us_1 : ∀ w ∈ u_ws RX1 TX1 1, w ∈ Gt := by
  have h : ∀ w ∈ u_ws RX1 TX1 1, w ∈ tables_1 := by decide +kernel
  have g : (u_ws RX1 TX1 1).all goodWord = true := by decide +kernel
  exact fun w hw => gt_of (List.mem_append_right _ (h w hw)) (List.all_eq_true.mp g w hw)
theorem us_2 : ∀ w ∈ u_ws RX2 TX2 3, w ∈ Gt := by
  have h : ∀ w ∈ u_ws RX2 TX2 3, w ∈ tables_1 := by decide +kernel
  have g : (u_ws RX2 TX2 3).all goodWord = true := by decide +kernel
  exact fun w hw => gt_of (List.mem_append_right _ (h w hw)) (List.all_eq_true.mp g w hw)
theorem us_3 : ∀ w ∈ u_ws RX3 TX3 1, w ∈ Gt := by
  have h : ∀ w ∈ u_ws RX3 TX3 1, w ∈ tables_1 := by decide +kernel
  have g : (u_ws RX3 TX3 1).all goodWord = true := by decide +kernel
  exact fun w hw => gt_of (List.mem_append_right _ (h w hw)) (List.all_eq_true.mp g w hw)
theorem us_4 : ∀ w ∈ u_ws RX4 TX4 1, w ∈ Gt := by
  have h : ∀ w ∈ u_ws RX4 TX4 1, w ∈ tables_1 := by decide +kernel
  have g : (u_ws RX4 TX4 1).all goodWord = true := by decide +kernel
  exact fun w hw => gt_of (List.mem_append_right _ (h w hw)) (List.all_eq_true.mp g w hw)
theorem us_5 : ∀ w ∈ u_ws RX5 TX5 2, w ∈ Gt := by
  have h : ∀ w ∈ u_ws RX5 TX5 2, w ∈ tables_1 := by decide +kernel
  have g : (u_ws RX5 TX5 2).all goodWord = true := by decide +kernel
  exact fun w hw => gt_of (List.mem_append_right _ (h w hw)) (List.all_eq_true.mp g w hw)
theorem us_6 : ∀ w ∈ u_ws RX6 TX6 8, w ∈ Gt := by
  have h : ∀ w ∈ u_ws RX6 TX6 8, w ∈ tables_1 := by decide +kernel
  have g : (u_ws RX6 TX6 8).all goodWord = true := by decide +kernel
  exact fun w hw => gt_of (List.mem_append_right _ (h w hw)) (List.all_eq_true.mp g w hw)
theorem us_7 : ∀ w ∈ u_ws RX7 TX7 21, w ∈ Gt := by
  have h : ∀ w ∈ u_ws RX7 TX7 21, w ∈ tables_1 := by decide +kernel
  have g : (u_ws RX7 TX7 21).all goodWord = true := by decide +kernel
  exact fun w hw => gt_of (List.mem_append_right _ (h w hw)) (List.all_eq_true.mp g w hw)
theorem fi_6_12 : FI RX6 12 6 RX6 TX6 8 0 := ⟨rfl, by decide, gt_at 139 (by decide +kernel) (by decide +kernel), us_6⟩
theorem fi_6_19 : FI RX6 19 6 RX6 TX6 8 1 := ⟨rfl, by decide, gt_at 140 (by decide +kernel) (by decide +kernel), us_6⟩
theorem fi_6_26 : FI RX6 26 6 RX6 TX6 8 2 := ⟨rfl, by decide, gt_at 141 (by decide +kernel) (by decide +kernel), us_6⟩
theorem fi_6_30 : FI RX6 30 6 RX6 TX6 8 3 := ⟨rfl, by decide, gt_at 142 (by decide +kernel) (by decide +kernel), us_6⟩
theorem fi_6_33 : FI RX6 33 6 RX6 TX6 8 4 := ⟨rfl, by decide, gt_at 143 (by decide +kernel) (by decide +kernel), us_6⟩
theorem fi_6_39 : FI RX6 39 6 RX6 TX6 8 5 := ⟨rfl, by decide, gt_at 144 (by decide +kernel) (by decide +kernel), us_6⟩
theorem fi_6_48 : FI RX6 48 6 RX6 TX6 8 6 := ⟨rfl, by decide, gt_at 145 (by decide +kernel) (by decide +kernel), us_6⟩
theorem fi_6_52 : FI RX6 52 6 RX6 TX6 8 7 := ⟨rfl, by decide, gt_at 146 (by decide +kernel) (by decide +kernel), us_6⟩
theorem fi_0_14 : FI RX0 14 0 RX0 TX0 12 0 := ⟨rfl, by decide, gt_at 88 (by decide +kernel) (by decide +kernel), us_0⟩
theorem fi_0_20 : FI RX0 20 0 RX0 TX0 12 1 := ⟨rfl, by decide, gt_at 89 (by decide +kernel) (by decide +kernel), us_0⟩
theorem fi_0_23 : FI RX0 23 0 RX0 TX0 12 2 := ⟨rfl, by decide, gt_at 90 (by decide +kernel) (by decide +kernel), us_0⟩
theorem fi_0_26 : FI RX0 26 0 RX0 TX0 12 3 := ⟨rfl, by decide, gt_at 91 (by decide +kernel) (by decide +kernel), us_0⟩
theorem fi_0_29 : FI RX0 29 0 RX0 TX0 12 4 := ⟨rfl, by decide, gt_at 92 (by decide +kernel) (by decide +kernel), us_0⟩
theorem fi_0_32 : FI RX0 32 0 RX0 TX0 12 5 := ⟨rfl, by decide, gt_at 93 (by decide +kernel) (by decide +kernel), us_0⟩
theorem fi_0_35 : FI RX0 35 0 RX0 TX0 12 6 := ⟨rfl, by decide, gt_at 94 (by decide +kernel) (by decide +kernel), us_0⟩
theorem fi_0_38 : FI RX0 38 0 RX0 TX0 12 7 := ⟨rfl, by decide, gt_at 95 (by decide +kernel) (by decide +kernel), us_0⟩
theorem fi_0_44 : FI RX0 44 0 RX0 TX0 12 8 := ⟨rfl, by decide, gt_at 96 (by decide +kernel) (by decide +kernel), us_0⟩
theorem fi_0_48 : FI RX0 48 0 RX0 TX0 12 9 := ⟨rfl, by decide, gt_at 97 (by decide +kernel) (by decide +kernel), us_0⟩
theorem fi_0_52 : FI RX0 52 0 RX0 TX0 12 10 := ⟨rfl, by decide, gt_at 98 (by decide +kernel) (by decide +kernel), us_0⟩
theorem fi_0_55 : FI RX0 55 0 RX0 TX0 12 11 := ⟨rfl, by decide, gt_at 99 (by decide +kernel) (by decide +kernel), us_0⟩
theorem fi_1_16 : FI RX1 16 1 RX1 TX1 1 0 := ⟨rfl, by decide, gt_at 133 (by decide +kernel) (by decide +kernel), us_1⟩
theorem fi_2_11 : FI RX2 11 2 RX2 TX2 3 0 := ⟨rfl, by decide, gt_at 44 (by decide +kernel) (by decide +kernel), us_2⟩
theorem fi_2_17 : FI RX2 17 2 RX2 TX2 3 1 := ⟨rfl, by decide, gt_at 45 (by decide +kernel) (by decide +kernel), us_2⟩
theorem fi_2_21 : FI RX2 21 2 RX2 TX2 3 2 := ⟨rfl, by decide, gt_at 46 (by decide +kernel) (by decide +kernel), us_2⟩
theorem fi_3_9 : FI RX3 9 3 RX3 TX3 1 0 := ⟨rfl, by decide, gt_at 30 (by decide +kernel) (by decide +kernel), us_3⟩
theorem fi_4_13 : FI RX4 13 4 RX4 TX4 1 0 := ⟨rfl, by decide, gt_at 69 (by decide +kernel) (by decide +kernel), us_4⟩
theorem fi_5_9 : FI RX5 9 5 RX5 TX5 2 0 := ⟨rfl, by decide, gt_at 81 (by decide +kernel) (by decide +kernel), us_5⟩
theorem fi_5_20 : FI RX5 20 5 RX5 TX5 2 1 := ⟨rfl, by decide, gt_at 82 (by decide +kernel) (by decide +kernel), us_5⟩
theorem fi_7_7 : FI RX7 7 7 RX7 TX7 21 0 := ⟨rfl, by decide, gt_at 671 (by decide +kernel) (by decide +kernel), us_7⟩
theorem fi_7_13 : FI RX7 13 7 RX7 TX7 21 1 := ⟨rfl, by decide, gt_at 672 (by decide +kernel) (by decide +kernel), us_7⟩
theorem fi_7_16 : FI RX7 16 7 RX7 TX7 21 4 := ⟨rfl, by decide, gt_at 675 (by decide +kernel) (by decide +kernel), us_7⟩
theorem fi_7_19 : FI RX7 19 7 RX7 TX7 21 5 := ⟨rfl, by decide, gt_at 676 (by decide +kernel) (by decide +kernel), us_7⟩
theorem fi_7_22 : FI RX7 22 7 RX7 TX7 21 6 := ⟨rfl, by decide, gt_at 677 (by decide +kernel) (by decide +kernel), us_7⟩
theorem fi_7_25 : FI RX7 25 7 RX7 TX7 21 7 := ⟨rfl, by decide, gt_at 678 (by decide +kernel) (by decide +kernel), us_7⟩
theorem fi_7_28 : FI RX7 28 7 RX7 TX7 21 8 := ⟨rfl, by decide, gt_at 679 (by decide +kernel) (by decide +kernel), us_7⟩
theorem fi_7_31 : FI RX7 31 7 RX7 TX7 21 9 := ⟨rfl, by decide, gt_at 680 (by decide +kernel) (by decide +kernel), us_7⟩
theorem fi_7_34 : FI RX7 34 7 RX7 TX7 21 10 := ⟨rfl, by decide, gt_at 681 (by decide +kernel) (by decide +kernel), us_7⟩
theorem fi_7_37 : FI RX7 37 7 RX7 TX7 21 11 := ⟨rfl, by decide, gt_at 682 (by decide +kernel) (by decide +kernel), us_7⟩
theorem fi_7_41 : FI RX7 41 7 RX7 TX7 21 12 := ⟨rfl, by decide, gt_at 683 (by decide +kernel) (by decide +kernel), us_7⟩
theorem fi_7_44 : FI RX7 44 7 RX7 TX7 21 13 := ⟨rfl, by decide, gt_at 684 (by decide +kernel) (by decide +kernel), us_7⟩
theorem fi_7_47 : FI RX7 47 7 RX7 TX7 21 15 := ⟨rfl, by decide, gt_at 686 (by decide +kernel) (by decide +kernel), us_7⟩
theorem fi_7_50 : FI RX7 50 7 RX7 TX7 21 16 := ⟨rfl, by decide, gt_at 687 (by decide +kernel) (by decide +kernel), us_7⟩
theorem fi_7_53 : FI RX7 53 7 RX7 TX7 21 17 := ⟨rfl, by decide, gt_at 688 (by decide +kernel) (by decide +kernel), us_7⟩
theorem fi_7_56 : FI RX7 56 7 RX7 TX7 21 18 := ⟨rfl, by decide, gt_at 689 (by decide +kernel) (by decide +kernel), us_7⟩
theorem fi_7_59 : FI RX7 59 7 RX7 TX7 21 19 := ⟨rfl, by decide, gt_at 690 (by decide +kernel) (by decide +kernel), us_7⟩
theorem fi_7_63 : FI RX7 63 7 RX7 TX7 21 20 := ⟨rfl, by decide, gt_at 691 (by decide +kernel) (by decide +kernel), us_7⟩
theorem fi_7_70 : FI RX7 70 7 RX7 TX7 21 3 := ⟨rfl, by decide, gt_at 674 (by decide +kernel) (by decide +kernel), us_7⟩
theorem fi_7_74 : FI RX7 74 7 RX7 TX7 21 2 := ⟨rfl, by decide, gt_at 673 (by decide +kernel) (by decide +kernel), us_7⟩
theorem fi_7_123 : FI RX7 123 7 RX7 TX7 21 14 := ⟨rfl, by decide, gt_at 685 (by decide +kernel) (by decide +kernel), us_7⟩
theorem ml_6_11 : Cond.methodLink RX6 11 yX3_init ∈ Gt := gt_at 22 (by decide +kernel) (by decide +kernel)
theorem ml_6_18 : Cond.methodLink RX6 18 yX2_init ∈ Gt := gt_at 37 (by decide +kernel) (by decide +kernel)
theorem ml_6_45 : Cond.methodLink RX6 45 yX4_init ∈ Gt := gt_at 138 (by decide +kernel) (by decide +kernel)
theorem ml_6_56 : Cond.methodLink RX6 56 yX6_isWithin ∈ Gt := gt_at 168 (by decide +kernel) (by decide +kernel)
theorem ml_6_60 : Cond.methodLink RX6 60 yX6_isKind ∈ Gt := gt_at 171 (by decide +kernel) (by decide +kernel)
theorem ml_6_64 : Cond.methodLink RX6 64 yX6_isGroupSet ∈ Gt := gt_at 174 (by decide +kernel) (by decide +kernel)
theorem ml_6_67 : Cond.methodLink RX6 67 yX3_people ∈ Gt := gt_at 177 (by decide +kernel) (by decide +kernel)
theorem ml_6_71 : Cond.methodLink RX6 71 yX6_beginAct ∈ Gt := gt_at 185 (by decide +kernel) (by decide +kernel)
theorem ml_6_74 : Cond.methodLink RX6 74 yX3_set ∈ Gt := gt_at 207 (by decide +kernel) (by decide +kernel)
theorem ml_6_78 : Cond.methodLink RX6 78 yX3_dismiss ∈ Gt := gt_at 208 (by decide +kernel) (by decide +kernel)
theorem ml_6_82 : Cond.methodLink RX6 82 yX6_changePerson ∈ Gt := gt_at 216 (by decide +kernel) (by decide +kernel)
theorem ml_6_86 : Cond.methodLink RX6 86 yX6_isPerson ∈ Gt := gt_at 220 (by decide +kernel) (by decide +kernel)
theorem ml_6_89 : Cond.methodLink RX6 89 yX3_get ∈ Gt := gt_at 228 (by decide +kernel) (by decide +kernel)
theorem ml_6_93 : Cond.methodLink RX6 93 yX3_countAhead ∈ Gt := gt_at 245 (by decide +kernel) (by decide +kernel)
theorem ml_6_97 : Cond.methodLink RX6 97 yX6_presentChoice ∈ Gt := gt_at 258 (by decide +kernel) (by decide +kernel)
theorem ml_6_101 : Cond.methodLink RX6 101 yX0_personAt ∈ Gt := gt_at 413 (by decide +kernel) (by decide +kernel)
theorem ml_6_104 : Cond.methodLink RX6 104 yX3_countWith ∈ Gt := gt_at 422 (by decide +kernel) (by decide +kernel)
theorem ml_6_107 : Cond.methodLink RX6 107 yX6_change ∈ Gt := gt_at 224 (by decide +kernel) (by decide +kernel)
theorem ml_6_111 : Cond.methodLink RX6 111 yX6_isGroup ∈ Gt := gt_at 434 (by decide +kernel) (by decide +kernel)
theorem ml_6_114 : Cond.methodLink RX6 114 yX6_isOrder ∈ Gt := gt_at 447 (by decide +kernel) (by decide +kernel)
theorem ml_6_118 : Cond.methodLink RX6 118 yX3_setOrder ∈ Gt := gt_at 450 (by decide +kernel) (by decide +kernel)
theorem ml_6_122 : Cond.methodLink RX6 122 yX0_seatOf ∈ Gt := gt_at 458 (by decide +kernel) (by decide +kernel)
theorem ml_6_125 : Cond.methodLink RX6 125 yX0_groupOf ∈ Gt := gt_at 466 (by decide +kernel) (by decide +kernel)
theorem ml_6_128 : Cond.methodLink RX6 128 yX0_handedTo ∈ Gt := gt_at 474 (by decide +kernel) (by decide +kernel)
theorem ml_6_131 : Cond.methodLink RX6 131 yX0_takenAt ∈ Gt := gt_at 482 (by decide +kernel) (by decide +kernel)
theorem ml_6_134 : Cond.methodLink RX6 134 yX0_freeReserved ∈ Gt := gt_at 490 (by decide +kernel) (by decide +kernel)
theorem ml_6_137 : Cond.methodLink RX6 137 yX0_countTo ∈ Gt := gt_at 491 (by decide +kernel) (by decide +kernel)
theorem ml_6_140 : Cond.methodLink RX6 140 yX0_freeSeats ∈ Gt := gt_at 496 (by decide +kernel) (by decide +kernel)
theorem ml_6_143 : Cond.methodLink RX6 143 yX0_countTaken ∈ Gt := gt_at 497 (by decide +kernel) (by decide +kernel)
theorem ml_6_146 : Cond.methodLink RX6 146 yX0_countCountedIn ∈ Gt := gt_at 498 (by decide +kernel) (by decide +kernel)
theorem ml_6_149 : Cond.methodLink RX6 149 yX0_countSeated ∈ Gt := gt_at 503 (by decide +kernel) (by decide +kernel)
theorem ml_6_152 : Cond.methodLink RX6 152 yX6_worstMark ∈ Gt := gt_at 508 (by decide +kernel) (by decide +kernel)
theorem ml_6_156 : Cond.methodLink RX6 156 yX0_fillOf ∈ Gt := gt_at 512 (by decide +kernel) (by decide +kernel)
theorem ml_6_160 : Cond.methodLink RX6 160 yX1_count ∈ Gt := gt_at 520 (by decide +kernel) (by decide +kernel)
theorem ml_6_166 : Cond.methodLink RX6 166 yX3_copyFrom ∈ Gt := gt_at 545 (by decide +kernel) (by decide +kernel)
theorem ml_6_170 : Cond.methodLink RX6 170 yX0_make ∈ Gt := gt_at 262 (by decide +kernel) (by decide +kernel)
theorem ml_6_173 : Cond.methodLink RX6 173 yX0_members ∈ Gt := gt_at 546 (by decide +kernel) (by decide +kernel)
theorem ml_6_176 : Cond.methodLink RX6 176 yJ6_bitCount_0f7a4 ∈ Gt := gt_at 550 (by decide +kernel) (by decide +kernel)
theorem ml_6_181 : Cond.methodLink RX6 181 yX6_sumOfMarks ∈ Gt := gt_at 556 (by decide +kernel) (by decide +kernel)
theorem ml_6_184 : Cond.methodLink RX6 184 yX0_assignGroups ∈ Gt := gt_at 398 (by decide +kernel) (by decide +kernel)
theorem ml_6_187 : Cond.methodLink RX6 187 yX0_countCounted ∈ Gt := gt_at 560 (by decide +kernel) (by decide +kernel)
theorem ml_6_191 : Cond.methodLink RX6 191 yX3_isActive ∈ Gt := gt_at 574 (by decide +kernel) (by decide +kernel)
theorem ml_6_194 : Cond.methodLink RX6 194 yX6_leastMark ∈ Gt := gt_at 575 (by decide +kernel) (by decide +kernel)
theorem ml_6_197 : Cond.methodLink RX6 197 yX6_leastGroups ∈ Gt := gt_at 584 (by decide +kernel) (by decide +kernel)
theorem ml_6_200 : Cond.methodLink RX6 200 yX0_has ∈ Gt := gt_at 579 (by decide +kernel) (by decide +kernel)
theorem ml_6_203 : Cond.methodLink RX6 203 yX3_isAhead ∈ Gt := gt_at 596 (by decide +kernel) (by decide +kernel)
theorem ml_6_206 : Cond.methodLink RX6 206 yX4_fill ∈ Gt := gt_at 604 (by decide +kernel) (by decide +kernel)
theorem ml_6_209 : Cond.methodLink RX6 209 yX4_set ∈ Gt := gt_at 605 (by decide +kernel) (by decide +kernel)
theorem ml_6_211 : Cond.methodLink RX6 211 yX6_placeOfGap ∈ Gt := gt_at 606 (by decide +kernel) (by decide +kernel)
theorem ml_6_214 : Cond.methodLink RX6 214 yX0_countEnvy ∈ Gt := gt_at 615 (by decide +kernel) (by decide +kernel)
theorem ml_6_217 : Cond.methodLink RX6 217 yX6_settle ∈ Gt := gt_at 628 (by decide +kernel) (by decide +kernel)
theorem ml_6_220 : Cond.methodLink RX6 220 yX2_size ∈ Gt := gt_at 648 (by decide +kernel) (by decide +kernel)
theorem ml_6_223 : Cond.methodLink RX6 223 yX2_restore ∈ Gt := gt_at 652 (by decide +kernel) (by decide +kernel)
theorem ml_6_226 : Cond.methodLink RX6 226 yX3_countActive ∈ Gt := gt_at 660 (by decide +kernel) (by decide +kernel)
theorem ml_6_229 : Cond.methodLink RX6 229 yX2_keep ∈ Gt := gt_at 189 (by decide +kernel) (by decide +kernel)
theorem ml_6_232 : Cond.methodLink RX6 232 yX4_get ∈ Gt := gt_at 610 (by decide +kernel) (by decide +kernel)
theorem ml_0_11 : Cond.methodLink RX0 11 yX4_init ∈ Gt := gt_at 62 (by decide +kernel) (by decide +kernel)
theorem ml_0_58 : Cond.methodLink RX0 58 yX3_people ∈ Gt := gt_at 266 (by decide +kernel) (by decide +kernel)
theorem ml_0_63 : Cond.methodLink RX0 63 yX0_rankAll ∈ Gt := gt_at 267 (by decide +kernel) (by decide +kernel)
theorem ml_0_67 : Cond.methodLink RX0 67 yX0_findFree ∈ Gt := gt_at 280 (by decide +kernel) (by decide +kernel)
theorem ml_0_70 : Cond.methodLink RX0 70 yX0_findCandidates ∈ Gt := gt_at 293 (by decide +kernel) (by decide +kernel)
theorem ml_0_73 : Cond.methodLink RX0 73 yX4_fill ∈ Gt := gt_at 297 (by decide +kernel) (by decide +kernel)
theorem ml_0_76 : Cond.methodLink RX0 76 yX3_get ∈ Gt := gt_at 284 (by decide +kernel) (by decide +kernel)
theorem ml_0_80 : Cond.methodLink RX0 80 yX0_takeIn ∈ Gt := gt_at 305 (by decide +kernel) (by decide +kernel)
theorem ml_0_84 : Cond.methodLink RX0 84 yX0_passOn ∈ Gt := gt_at 377 (by decide +kernel) (by decide +kernel)
theorem ml_0_87 : Cond.methodLink RX0 87 yX0_tallyTaken ∈ Gt := gt_at 402 (by decide +kernel) (by decide +kernel)
theorem ml_0_90 : Cond.methodLink RX0 90 yX0_personAt ∈ Gt := gt_at 317 (by decide +kernel) (by decide +kernel)
theorem ml_0_94 : Cond.methodLink RX0 94 yX0_isTaken ∈ Gt := gt_at 385 (by decide +kernel) (by decide +kernel)
theorem ml_0_98 : Cond.methodLink RX0 98 yX5_assign ∈ Gt := gt_at 406 (by decide +kernel) (by decide +kernel)
theorem ml_0_101 : Cond.methodLink RX0 101 yX4_set ∈ Gt := gt_at 276 (by decide +kernel) (by decide +kernel)
theorem ml_0_105 : Cond.methodLink RX0 105 yX4_get ∈ Gt := gt_at 272 (by decide +kernel) (by decide +kernel)
theorem ml_0_107 : Cond.methodLink RX0 107 yX0_seatOf ∈ Gt := gt_at 507 (by decide +kernel) (by decide +kernel)
theorem ml_0_110 : Cond.methodLink RX0 110 yX0_groupOf ∈ Gt := gt_at 495 (by decide +kernel) (by decide +kernel)
theorem ml_0_113 : Cond.methodLink RX0 113 yX0_countTo ∈ Gt := gt_at 502 (by decide +kernel) (by decide +kernel)
theorem ml_0_116 : Cond.methodLink RX0 116 yX0_countCountedIn ∈ Gt := gt_at 564 (by decide +kernel) (by decide +kernel)
theorem ml_0_119 : Cond.methodLink RX0 119 yX5_fill ∈ Gt := gt_at 351 (by decide +kernel) (by decide +kernel)
theorem ml_0_121 : Cond.methodLink RX0 121 yX5_add ∈ Gt := gt_at 347 (by decide +kernel) (by decide +kernel)
theorem ml_0_124 : Cond.methodLink RX0 124 yX0_countEnvious ∈ Gt := gt_at 619 (by decide +kernel) (by decide +kernel)
theorem ml_0_128 : Cond.methodLink RX0 128 yX0_withoutSeat ∈ Gt := gt_at 313 (by decide +kernel) (by decide +kernel)
theorem ml_0_131 : Cond.methodLink RX0 131 yX3_isAhead ∈ Gt := gt_at 623 (by decide +kernel) (by decide +kernel)
theorem ml_0_134 : Cond.methodLink RX0 134 yX5_begin ∈ Gt := gt_at 330 (by decide +kernel) (by decide +kernel)
theorem ml_0_138 : Cond.methodLink RX0 138 yX3_rankKey ∈ Gt := gt_at 271 (by decide +kernel) (by decide +kernel)
theorem ml_0_141 : Cond.methodLink RX0 141 yX0_occupy ∈ Gt := gt_at 285 (by decide +kernel) (by decide +kernel)
theorem ml_0_144 : Cond.methodLink RX0 144 yJ9_max_7cf53 ∈ Gt := gt_at 289 (by decide +kernel) (by decide +kernel)
theorem ml_0_153 : Cond.methodLink RX0 153 yX3_isActive ∈ Gt := gt_at 301 (by decide +kernel) (by decide +kernel)
theorem ml_0_156 : Cond.methodLink RX0 156 yX0_lineUp ∈ Gt := gt_at 309 (by decide +kernel) (by decide +kernel)
theorem ml_0_159 : Cond.methodLink RX0 159 yX0_freeSeats ∈ Gt := gt_at 321 (by decide +kernel) (by decide +kernel)
theorem ml_0_161 : Cond.methodLink RX0 161 yJ9_min_7cf53 ∈ Gt := gt_at 325 (by decide +kernel) (by decide +kernel)
theorem ml_0_164 : Cond.methodLink RX0 164 yX0_takeFullest ∈ Gt := gt_at 326 (by decide +kernel) (by decide +kernel)
theorem ml_0_168 : Cond.methodLink RX0 168 yX0_takeByGroups ∈ Gt := gt_at 360 (by decide +kernel) (by decide +kernel)
theorem ml_0_171 : Cond.methodLink RX0 171 yX0_takeBest ∈ Gt := gt_at 373 (by decide +kernel) (by decide +kernel)
theorem ml_0_174 : Cond.methodLink RX0 174 yX0_take ∈ Gt := gt_at 356 (by decide +kernel) (by decide +kernel)
theorem ml_0_178 : Cond.methodLink RX0 178 yX0_freeReserved ∈ Gt := gt_at 364 (by decide +kernel) (by decide +kernel)
theorem ml_0_180 : Cond.methodLink RX0 180 yX0_takeForGroup ∈ Gt := gt_at 365 (by decide +kernel) (by decide +kernel)
theorem ml_0_183 : Cond.methodLink RX0 183 yX0_has ∈ Gt := gt_at 369 (by decide +kernel) (by decide +kernel)
theorem ml_0_186 : Cond.methodLink RX0 186 yX0_countTaken ∈ Gt := gt_at 381 (by decide +kernel) (by decide +kernel)
theorem ml_0_189 : Cond.methodLink RX0 189 yX0_findReceiver ∈ Gt := gt_at 389 (by decide +kernel) (by decide +kernel)
theorem ml_0_196 : Cond.methodLink RX0 196 yX0_bestWithoutSeat ∈ Gt := gt_at 394 (by decide +kernel) (by decide +kernel)
theorem ml_1_13 : Cond.methodLink RX1 13 yX4_init ∈ Gt := gt_at 132 (by decide +kernel) (by decide +kernel)
theorem ml_1_20 : Cond.methodLink RX1 20 yX4_fill ∈ Gt := gt_at 524 (by decide +kernel) (by decide +kernel)
theorem ml_1_23 : Cond.methodLink RX1 23 yX4_set ∈ Gt := gt_at 525 (by decide +kernel) (by decide +kernel)
theorem ml_1_27 : Cond.methodLink RX1 27 yX3_people ∈ Gt := gt_at 526 (by decide +kernel) (by decide +kernel)
theorem ml_1_33 : Cond.methodLink RX1 33 yX0_isTaken ∈ Gt := gt_at 527 (by decide +kernel) (by decide +kernel)
theorem ml_1_39 : Cond.methodLink RX1 39 yX3_get ∈ Gt := gt_at 528 (by decide +kernel) (by decide +kernel)
theorem ml_1_43 : Cond.methodLink RX1 43 yX1_include ∈ Gt := gt_at 529 (by decide +kernel) (by decide +kernel)
theorem ml_1_47 : Cond.methodLink RX1 47 yX0_fillOf ∈ Gt := gt_at 536 (by decide +kernel) (by decide +kernel)
theorem ml_1_51 : Cond.methodLink RX1 51 yX1_sumOfDigits ∈ Gt := gt_at 537 (by decide +kernel) (by decide +kernel)
theorem ml_1_55 : Cond.methodLink RX1 55 yX4_get ∈ Gt := gt_at 534 (by decide +kernel) (by decide +kernel)
theorem ml_1_57 : Cond.methodLink RX1 57 yX0_freeReserved ∈ Gt := gt_at 533 (by decide +kernel) (by decide +kernel)
theorem ml_1_60 : Cond.methodLink RX1 60 yX4_add ∈ Gt := gt_at 535 (by decide +kernel) (by decide +kernel)
theorem ml_2_24 : Cond.methodLink RX2 24 yX3_init ∈ Gt := gt_at 43 (by decide +kernel) (by decide +kernel)
theorem ml_2_25 : Cond.methodLink RX2 25 yX2_pageAt ∈ Gt := gt_at 193 (by decide +kernel) (by decide +kernel)
theorem ml_2_29 : Cond.methodLink RX2 29 yX3_copyFrom ∈ Gt := gt_at 197 (by decide +kernel) (by decide +kernel)
theorem ml_2_33 : Cond.methodLink RX2 33 yJ9_min_7cf53 ∈ Gt := gt_at 204 (by decide +kernel) (by decide +kernel)
theorem ml_3_15 : Cond.methodLink RX3 15 yX3_set ∈ Gt := gt_at 26 (by decide +kernel) (by decide +kernel)
theorem ml_3_25 : Cond.methodLink RX3 25 yX3_get ∈ Gt := gt_at 181 (by decide +kernel) (by decide +kernel)
theorem ml_3_29 : Cond.methodLink RX3 29 yX3_rankKey ∈ Gt := gt_at 249 (by decide +kernel) (by decide +kernel)
theorem ml_3_33 : Cond.methodLink RX3 33 yX3_people ∈ Gt := gt_at 253 (by decide +kernel) (by decide +kernel)
theorem ml_3_37 : Cond.methodLink RX3 37 yX3_isActive ∈ Gt := gt_at 664 (by decide +kernel) (by decide +kernel)
theorem ml_4_7 : Cond.methodLink RX4 7 yJ9_max_7cf53 ∈ Gt := gt_at 66 (by decide +kernel) (by decide +kernel)
theorem ml_5_17 : Cond.methodLink RX5 17 yX4_init ∈ Gt := gt_at 80 (by decide +kernel) (by decide +kernel)
theorem ml_5_24 : Cond.methodLink RX5 24 yX4_fill ∈ Gt := gt_at 334 (by decide +kernel) (by decide +kernel)
theorem ml_5_27 : Cond.methodLink RX5 27 yX0_freeReserved ∈ Gt := gt_at 335 (by decide +kernel) (by decide +kernel)
theorem ml_5_33 : Cond.methodLink RX5 33 yX5_changeLeft ∈ Gt := gt_at 339 (by decide +kernel) (by decide +kernel)
theorem ml_5_37 : Cond.methodLink RX5 37 yJ9_min_7cf53 ∈ Gt := gt_at 355 (by decide +kernel) (by decide +kernel)
theorem ml_5_42 : Cond.methodLink RX5 42 yX5_fill ∈ Gt := gt_at 410 (by decide +kernel) (by decide +kernel)
theorem ml_5_45 : Cond.methodLink RX5 45 yX5_add ∈ Gt := gt_at 411 (by decide +kernel) (by decide +kernel)
theorem ml_5_48 : Cond.methodLink RX5 48 yX4_get ∈ Gt := gt_at 412 (by decide +kernel) (by decide +kernel)
theorem ml_5_52 : Cond.methodLink RX5 52 yX4_add ∈ Gt := gt_at 343 (by decide +kernel) (by decide +kernel)
theorem ml_L_9 : Cond.methodLink RL 9 yX6_init ∈ Gt := gt_at 14 (by decide +kernel) (by decide +kernel)
theorem ml_L_12 : Cond.methodLink RL 12 yX7_init ∈ Gt := gt_at 667 (by decide +kernel) (by decide +kernel)
theorem ml_L_13 : Cond.methodLink RL 13 yX6_enter ∈ Gt := gt_at 164 (by decide +kernel) (by decide +kernel)
theorem ml_L_17 : Cond.methodLink RL 17 yX7_enter ∈ Gt := gt_at 744 (by decide +kernel) (by decide +kernel)
theorem ml_L_18 : Cond.methodLink RL 18 yX6_mark ∈ Gt := gt_at 212 (by decide +kernel) (by decide +kernel)
theorem ml_L_22 : Cond.methodLink RL 22 yX7_mark ∈ Gt := gt_at 763 (by decide +kernel) (by decide +kernel)
theorem ml_L_23 : Cond.methodLink RL 23 yX6_ticket ∈ Gt := gt_at 229 (by decide +kernel) (by decide +kernel)
theorem ml_L_26 : Cond.methodLink RL 26 yX7_ticket ∈ Gt := gt_at 779 (by decide +kernel) (by decide +kernel)
theorem ml_L_27 : Cond.methodLink RL 27 yX6_kind ∈ Gt := gt_at 233 (by decide +kernel) (by decide +kernel)
theorem ml_L_30 : Cond.methodLink RL 30 yX7_kind ∈ Gt := gt_at 783 (by decide +kernel) (by decide +kernel)
theorem ml_L_31 : Cond.methodLink RL 31 yX6_groups ∈ Gt := gt_at 237 (by decide +kernel) (by decide +kernel)
theorem ml_L_34 : Cond.methodLink RL 34 yX7_groups ∈ Gt := gt_at 787 (by decide +kernel) (by decide +kernel)
theorem ml_L_35 : Cond.methodLink RL 35 yX6_ofPerson ∈ Gt := gt_at 241 (by decide +kernel) (by decide +kernel)
theorem ml_L_38 : Cond.methodLink RL 38 yX7_ofPerson ∈ Gt := gt_at 791 (by decide +kernel) (by decide +kernel)
theorem ml_L_39 : Cond.methodLink RL 39 yX6_ranked ∈ Gt := gt_at 254 (by decide +kernel) (by decide +kernel)
theorem ml_L_43 : Cond.methodLink RL 43 yX7_ranked ∈ Gt := gt_at 807 (by decide +kernel) (by decide +kernel)
theorem ml_L_44 : Cond.methodLink RL 44 yX6_above ∈ Gt := gt_at 414 (by decide +kernel) (by decide +kernel)
theorem ml_L_47 : Cond.methodLink RL 47 yX7_above ∈ Gt := gt_at 811 (by decide +kernel) (by decide +kernel)
theorem ml_L_48 : Cond.methodLink RL 48 yX6_alike ∈ Gt := gt_at 418 (by decide +kernel) (by decide +kernel)
theorem ml_L_51 : Cond.methodLink RL 51 yX7_alike ∈ Gt := gt_at 815 (by decide +kernel) (by decide +kernel)
theorem ml_L_52 : Cond.methodLink RL 52 yX6_seats ∈ Gt := gt_at 426 (by decide +kernel) (by decide +kernel)
theorem ml_L_55 : Cond.methodLink RL 55 yX7_seats ∈ Gt := gt_at 819 (by decide +kernel) (by decide +kernel)
theorem ml_L_56 : Cond.methodLink RL 56 yX6_reserve ∈ Gt := gt_at 430 (by decide +kernel) (by decide +kernel)
theorem ml_L_60 : Cond.methodLink RL 60 yX7_reserve ∈ Gt := gt_at 823 (by decide +kernel) (by decide +kernel)
theorem ml_L_61 : Cond.methodLink RL 61 yX6_heir ∈ Gt := gt_at 435 (by decide +kernel) (by decide +kernel)
theorem ml_L_64 : Cond.methodLink RL 64 yX7_heir ∈ Gt := gt_at 827 (by decide +kernel) (by decide +kernel)
theorem ml_L_65 : Cond.methodLink RL 65 yX6_manner ∈ Gt := gt_at 439 (by decide +kernel) (by decide +kernel)
theorem ml_L_68 : Cond.methodLink RL 68 yX7_manner ∈ Gt := gt_at 831 (by decide +kernel) (by decide +kernel)
theorem ml_L_69 : Cond.methodLink RL 69 yX6_order ∈ Gt := gt_at 443 (by decide +kernel) (by decide +kernel)
theorem ml_L_72 : Cond.methodLink RL 72 yX7_order ∈ Gt := gt_at 835 (by decide +kernel) (by decide +kernel)
theorem ml_L_73 : Cond.methodLink RL 73 yX6_seat ∈ Gt := gt_at 454 (by decide +kernel) (by decide +kernel)
theorem ml_L_76 : Cond.methodLink RL 76 yX7_seat ∈ Gt := gt_at 839 (by decide +kernel) (by decide +kernel)
theorem ml_L_77 : Cond.methodLink RL 77 yX6_counted ∈ Gt := gt_at 462 (by decide +kernel) (by decide +kernel)
theorem ml_L_80 : Cond.methodLink RL 80 yX7_counted ∈ Gt := gt_at 925 (by decide +kernel) (by decide +kernel)
theorem ml_L_81 : Cond.methodLink RL 81 yX6_handed ∈ Gt := gt_at 470 (by decide +kernel) (by decide +kernel)
theorem ml_L_84 : Cond.methodLink RL 84 yX7_handed ∈ Gt := gt_at 945 (by decide +kernel) (by decide +kernel)
theorem ml_L_85 : Cond.methodLink RL 85 yX6_taken ∈ Gt := gt_at 478 (by decide +kernel) (by decide +kernel)
theorem ml_L_88 : Cond.methodLink RL 88 yX7_taken ∈ Gt := gt_at 949 (by decide +kernel) (by decide +kernel)
theorem ml_L_89 : Cond.methodLink RL 89 yX6_ofKind ∈ Gt := gt_at 486 (by decide +kernel) (by decide +kernel)
theorem ml_L_92 : Cond.methodLink RL 92 yX7_ofKind ∈ Gt := gt_at 953 (by decide +kernel) (by decide +kernel)
theorem ml_L_93 : Cond.methodLink RL 93 yX6_ways ∈ Gt := gt_at 516 (by decide +kernel) (by decide +kernel)
theorem ml_L_97 : Cond.methodLink RL 97 yX7_ways ∈ Gt := gt_at 969 (by decide +kernel) (by decide +kernel)
theorem ml_L_98 : Cond.methodLink RL 98 yX6_by ∈ Gt := gt_at 541 (by decide +kernel) (by decide +kernel)
theorem ml_L_101 : Cond.methodLink RL 101 yX7_by ∈ Gt := gt_at 984 (by decide +kernel) (by decide +kernel)
theorem ml_L_102 : Cond.methodLink RL 102 yX6_sure ∈ Gt := gt_at 565 (by decide +kernel) (by decide +kernel)
theorem ml_L_105 : Cond.methodLink RL 105 yX7_sure ∈ Gt := gt_at 1003 (by decide +kernel) (by decide +kernel)
theorem ml_L_106 : Cond.methodLink RL 106 yX6_threshold ∈ Gt := gt_at 570 (by decide +kernel) (by decide +kernel)
theorem ml_L_109 : Cond.methodLink RL 109 yX7_threshold ∈ Gt := gt_at 1011 (by decide +kernel) (by decide +kernel)
theorem ml_L_110 : Cond.methodLink RL 110 yX6_claim ∈ Gt := gt_at 580 (by decide +kernel) (by decide +kernel)
theorem ml_L_113 : Cond.methodLink RL 113 yX7_claim ∈ Gt := gt_at 1023 (by decide +kernel) (by decide +kernel)
theorem ml_L_114 : Cond.methodLink RL 114 yX6_successor ∈ Gt := gt_at 588 (by decide +kernel) (by decide +kernel)
theorem ml_L_117 : Cond.methodLink RL 117 yX7_successor ∈ Gt := gt_at 1027 (by decide +kernel) (by decide +kernel)
theorem ml_L_118 : Cond.methodLink RL 118 yX6_passed ∈ Gt := gt_at 592 (by decide +kernel) (by decide +kernel)
theorem ml_L_121 : Cond.methodLink RL 121 yX7_passed ∈ Gt := gt_at 1031 (by decide +kernel) (by decide +kernel)
theorem ml_L_122 : Cond.methodLink RL 122 yX6_nearest ∈ Gt := gt_at 600 (by decide +kernel) (by decide +kernel)
theorem ml_L_125 : Cond.methodLink RL 125 yX7_nearest ∈ Gt := gt_at 1035 (by decide +kernel) (by decide +kernel)
theorem ml_L_126 : Cond.methodLink RL 126 yX6_envy ∈ Gt := gt_at 611 (by decide +kernel) (by decide +kernel)
theorem ml_L_130 : Cond.methodLink RL 130 yX7_envy ∈ Gt := gt_at 1043 (by decide +kernel) (by decide +kernel)
theorem ml_L_131 : Cond.methodLink RL 131 yX6_round ∈ Gt := gt_at 624 (by decide +kernel) (by decide +kernel)
theorem ml_L_134 : Cond.methodLink RL 134 yX7_round ∈ Gt := gt_at 1051 (by decide +kernel) (by decide +kernel)
theorem ml_L_135 : Cond.methodLink RL 135 yX6_answer ∈ Gt := gt_at 632 (by decide +kernel) (by decide +kernel)
theorem ml_L_138 : Cond.methodLink RL 138 yX7_answer ∈ Gt := gt_at 1059 (by decide +kernel) (by decide +kernel)
theorem ml_L_139 : Cond.methodLink RL 139 yX6_again ∈ Gt := gt_at 636 (by decide +kernel) (by decide +kernel)
theorem ml_L_142 : Cond.methodLink RL 142 yX7_again ∈ Gt := gt_at 1063 (by decide +kernel) (by decide +kernel)
theorem ml_L_143 : Cond.methodLink RL 143 yX6_note ∈ Gt := gt_at 640 (by decide +kernel) (by decide +kernel)
theorem ml_L_146 : Cond.methodLink RL 146 yX7_note ∈ Gt := gt_at 1067 (by decide +kernel) (by decide +kernel)
theorem ml_L_147 : Cond.methodLink RL 147 yX6_back ∈ Gt := gt_at 644 (by decide +kernel) (by decide +kernel)
theorem ml_L_150 : Cond.methodLink RL 150 yX7_back ∈ Gt := gt_at 737 (by decide +kernel) (by decide +kernel)
theorem ml_L_151 : Cond.methodLink RL 151 yX6_many ∈ Gt := gt_at 656 (by decide +kernel) (by decide +kernel)
theorem ml_L_154 : Cond.methodLink RL 154 yX7_many ∈ Gt := gt_at 1071 (by decide +kernel) (by decide +kernel)
theorem ml_7_66 : Cond.methodLink RX7 66 yX7_within ∈ Gt := gt_at 741 (by decide +kernel) (by decide +kernel)
theorem ml_7_77 : Cond.methodLink RX7 77 yX7_keep ∈ Gt := gt_at 751 (by decide +kernel) (by decide +kernel)
theorem ml_7_80 : Cond.methodLink RX7 80 yX7_isKind ∈ Gt := gt_at 748 (by decide +kernel) (by decide +kernel)
theorem ml_7_84 : Cond.methodLink RX7 84 yX7_become ∈ Gt := gt_at 755 (by decide +kernel) (by decide +kernel)
theorem ml_7_88 : Cond.methodLink RX7 88 yX7_forgets ∈ Gt := gt_at 759 (by decide +kernel) (by decide +kernel)
theorem ml_7_92 : Cond.methodLink RX7 92 yX7_isPerson ∈ Gt := gt_at 771 (by decide +kernel) (by decide +kernel)
theorem ml_7_95 : Cond.methodLink RX7 95 yX7_changes ∈ Gt := gt_at 775 (by decide +kernel) (by decide +kernel)
theorem ml_7_99 : Cond.methodLink RX7 99 yX7_personal ∈ Gt := gt_at 767 (by decide +kernel) (by decide +kernel)
theorem ml_7_103 : Cond.methodLink RX7 103 yX7_of ∈ Gt := gt_at 803 (by decide +kernel) (by decide +kernel)
theorem ml_7_106 : Cond.methodLink RX7 106 yX7_isAhead ∈ Gt := gt_at 799 (by decide +kernel) (by decide +kernel)
theorem ml_7_110 : Cond.methodLink RX7 110 yX7_aheadOf ∈ Gt := gt_at 795 (by decide +kernel) (by decide +kernel)
theorem ml_7_114 : Cond.methodLink RX7 114 yX7_noted ∈ Gt := gt_at 851 (by decide +kernel) (by decide +kernel)
theorem ml_7_117 : Cond.methodLink RX7 117 yX7_atLeastNone ∈ Gt := gt_at 855 (by decide +kernel) (by decide +kernel)
theorem ml_7_120 : Cond.methodLink RX7 120 yX7_isIn ∈ Gt := gt_at 886 (by decide +kernel) (by decide +kernel)
theorem ml_7_126 : Cond.methodLink RX7 126 yX7_takesPart ∈ Gt := gt_at 866 (by decide +kernel) (by decide +kernel)
theorem ml_7_129 : Cond.methodLink RX7 129 yX7_isCandidate ∈ Gt := gt_at 870 (by decide +kernel) (by decide +kernel)
theorem ml_7_132 : Cond.methodLink RX7 132 yX7_leaveAll ∈ Gt := gt_at 878 (by decide +kernel) (by decide +kernel)
theorem ml_7_135 : Cond.methodLink RX7 135 yX7_sumHave ∈ Gt := gt_at 882 (by decide +kernel) (by decide +kernel)
theorem ml_7_138 : Cond.methodLink RX7 138 yX7_noOthers ∈ Gt := gt_at 889 (by decide +kernel) (by decide +kernel)
theorem ml_7_141 : Cond.methodLink RX7 141 yX7_findBehind ∈ Gt := gt_at 893 (by decide +kernel) (by decide +kernel)
theorem ml_7_144 : Cond.methodLink RX7 144 yX7_leastCut ∈ Gt := gt_at 897 (by decide +kernel) (by decide +kernel)
theorem ml_7_147 : Cond.methodLink RX7 147 yX7_addOther ∈ Gt := gt_at 901 (by decide +kernel) (by decide +kernel)
theorem ml_7_151 : Cond.methodLink RX7 151 yX7_takeBest ∈ Gt := gt_at 909 (by decide +kernel) (by decide +kernel)
theorem ml_7_154 : Cond.methodLink RX7 154 yX7_findCandidates ∈ Gt := gt_at 862 (by decide +kernel) (by decide +kernel)
theorem ml_7_157 : Cond.methodLink RX7 157 yX7_takeFilling ∈ Gt := gt_at 874 (by decide +kernel) (by decide +kernel)
theorem ml_7_160 : Cond.methodLink RX7 160 yX7_takeByGroups ∈ Gt := gt_at 905 (by decide +kernel) (by decide +kernel)
theorem ml_7_163 : Cond.methodLink RX7 163 yX7_isTakenIn ∈ Gt := gt_at 937 (by decide +kernel) (by decide +kernel)
theorem ml_7_166 : Cond.methodLink RX7 166 yX7_firstGroup ∈ Gt := gt_at 941 (by decide +kernel) (by decide +kernel)
theorem ml_7_169 : Cond.methodLink RX7 169 yX7_bestOf ∈ Gt := gt_at 921 (by decide +kernel) (by decide +kernel)
theorem ml_7_172 : Cond.methodLink RX7 172 yX7_heirOf ∈ Gt := gt_at 917 (by decide +kernel) (by decide +kernel)
theorem ml_7_175 : Cond.methodLink RX7 175 yX7_findFree ∈ Gt := gt_at 847 (by decide +kernel) (by decide +kernel)
theorem ml_7_178 : Cond.methodLink RX7 178 yX7_takeIn ∈ Gt := gt_at 858 (by decide +kernel) (by decide +kernel)
theorem ml_7_181 : Cond.methodLink RX7 181 yX7_handOn ∈ Gt := gt_at 913 (by decide +kernel) (by decide +kernel)
theorem ml_7_184 : Cond.methodLink RX7 184 yX7_choose ∈ Gt := gt_at 843 (by decide +kernel) (by decide +kernel)
theorem ml_7_187 : Cond.methodLink RX7 187 yX7_countIn ∈ Gt := gt_at 933 (by decide +kernel) (by decide +kernel)
theorem ml_7_190 : Cond.methodLink RX7 190 yX7_chooseAll ∈ Gt := gt_at 929 (by decide +kernel) (by decide +kernel)
theorem ml_7_193 : Cond.methodLink RX7 193 yX7_countedIn ∈ Gt := gt_at 957 (by decide +kernel) (by decide +kernel)
theorem ml_7_196 : Cond.methodLink RX7 196 yX7_worstMark ∈ Gt := gt_at 961 (by decide +kernel) (by decide +kernel)
theorem ml_7_199 : Cond.methodLink RX7 199 yX7_fillOf ∈ Gt := gt_at 965 (by decide +kernel) (by decide +kernel)
theorem ml_7_202 : Cond.methodLink RX7 202 yX7_usedOf ∈ Gt := gt_at 978 (by decide +kernel) (by decide +kernel)
theorem ml_7_205 : Cond.methodLink RX7 205 yX7_sixes ∈ Gt := gt_at 981 (by decide +kernel) (by decide +kernel)
theorem ml_7_210 : Cond.methodLink RX7 210 yX7_addWays ∈ Gt := gt_at 974 (by decide +kernel) (by decide +kernel)
theorem ml_7_213 : Cond.methodLink RX7 213 yX7_chosen ∈ Gt := gt_at 988 (by decide +kernel) (by decide +kernel)
theorem ml_7_217 : Cond.methodLink RX7 217 yX7_sizeOf ∈ Gt := gt_at 992 (by decide +kernel) (by decide +kernel)
theorem ml_7_220 : Cond.methodLink RX7 220 yX7_marksOf ∈ Gt := gt_at 995 (by decide +kernel) (by decide +kernel)
theorem ml_7_223 : Cond.methodLink RX7 223 yX7_countedInAll ∈ Gt := gt_at 999 (by decide +kernel) (by decide +kernel)
theorem ml_7_226 : Cond.methodLink RX7 226 yX7_sets ∈ Gt := gt_at 1007 (by decide +kernel) (by decide +kernel)
theorem ml_7_229 : Cond.methodLink RX7 229 yX7_isChosen ∈ Gt := gt_at 1019 (by decide +kernel) (by decide +kernel)
theorem ml_7_232 : Cond.methodLink RX7 232 yX7_thresholdOf ∈ Gt := gt_at 1015 (by decide +kernel) (by decide +kernel)
theorem ml_7_235 : Cond.methodLink RX7 235 yX7_whoMisses ∈ Gt := gt_at 1039 (by decide +kernel) (by decide +kernel)
theorem ml_7_238 : Cond.methodLink RX7 238 yX7_isAsGood ∈ Gt := gt_at 1047 (by decide +kernel) (by decide +kernel)
theorem ml_7_241 : Cond.methodLink RX7 241 yX7_notes ∈ Gt := gt_at 1055 (by decide +kernel) (by decide +kernel)
theorem ml_7_244 : Cond.methodLink RX7 244 yX7_standing ∈ Gt := gt_at 1075 (by decide +kernel) (by decide +kernel)
set_option maxRecDepth 100000 in
theorem mi_X3_set : MI yX3_set cX3_set 5 none 3 := ⟨gt_at 29 rfl (by decide +kernel), gt_at 27 (by decide +kernel) (by decide +kernel), gt_at 28 (by decide +kernel) (by decide +kernel), gt_at 2 (by decide +kernel) (by decide +kernel), by decide, by decide, by decide +kernel⟩
set_option maxRecDepth 100000 in
theorem mi_J9_max_7cf53 : MS yJ9_max_7cf53 cJ9_max_7cf53 2 (some .int) 2 := ⟨gt_at 68 rfl (by decide +kernel), gt_at 67 (by decide +kernel) (by decide +kernel), gt_at 6 (by decide +kernel) (by decide +kernel), by decide, by decide, by decide +kernel⟩
set_option maxRecDepth 100000 in
theorem mi_X6_enter : MI yX6_enter cX6_enter 6 (some .int) 4 := ⟨gt_at 167 rfl (by decide +kernel), gt_at 165 (by decide +kernel) (by decide +kernel), gt_at 166 (by decide +kernel) (by decide +kernel), gt_at 1 (by decide +kernel) (by decide +kernel), by decide, by decide, by decide +kernel⟩
set_option maxRecDepth 100000 in
theorem mi_X6_isWithin : MS yX6_isWithin cX6_isWithin 2 (some .boolean) 2 := ⟨gt_at 170 rfl (by decide +kernel), gt_at 169 (by decide +kernel) (by decide +kernel), gt_at 1 (by decide +kernel) (by decide +kernel), by decide, by decide, by decide +kernel⟩
set_option maxRecDepth 100000 in
theorem mi_X6_isKind : MS yX6_isKind cX6_isKind 1 (some .boolean) 1 := ⟨gt_at 173 rfl (by decide +kernel), gt_at 172 (by decide +kernel) (by decide +kernel), gt_at 1 (by decide +kernel) (by decide +kernel), by decide, by decide, by decide +kernel⟩
set_option maxRecDepth 100000 in
theorem mi_X6_isGroupSet : MS yX6_isGroupSet cX6_isGroupSet 1 (some .boolean) 1 := ⟨gt_at 176 rfl (by decide +kernel), gt_at 175 (by decide +kernel) (by decide +kernel), gt_at 1 (by decide +kernel) (by decide +kernel), by decide, by decide, by decide +kernel⟩
set_option maxRecDepth 100000 in
theorem mi_X3_people : MI yX3_people cX3_people 1 (some .int) 0 := ⟨gt_at 180 rfl (by decide +kernel), gt_at 178 (by decide +kernel) (by decide +kernel), gt_at 179 (by decide +kernel) (by decide +kernel), gt_at 2 (by decide +kernel) (by decide +kernel), by decide, by decide, by decide +kernel⟩
set_option maxRecDepth 100000 in
theorem mi_X3_get : MI yX3_get cX3_get 4 (some .int) 2 := ⟨gt_at 184 rfl (by decide +kernel), gt_at 182 (by decide +kernel) (by decide +kernel), gt_at 183 (by decide +kernel) (by decide +kernel), gt_at 2 (by decide +kernel) (by decide +kernel), by decide, by decide, by decide +kernel⟩
set_option maxRecDepth 100000 in
theorem mi_X6_beginAct : MI yX6_beginAct cX6_beginAct 1 none 0 := ⟨gt_at 188 rfl (by decide +kernel), gt_at 187 (by decide +kernel) (by decide +kernel), gt_pr 0 (by decide +kernel) (by decide +kernel), gt_at 1 (by decide +kernel) (by decide +kernel), by decide, by decide, by decide +kernel⟩
set_option maxRecDepth 100000 in
theorem mi_X2_keep : MI yX2_keep cX2_keep 3 none 1 := ⟨gt_at 192 rfl (by decide +kernel), gt_at 190 (by decide +kernel) (by decide +kernel), gt_at 191 (by decide +kernel) (by decide +kernel), gt_at 3 (by decide +kernel) (by decide +kernel), by decide, by decide, by decide +kernel⟩
set_option maxRecDepth 100000 in
theorem mi_X2_pageAt : MI yX2_pageAt cX2_pageAt 2 (some (.object "KeptSeats$Office")) 1 := ⟨gt_at 196 rfl (by decide +kernel), gt_at 195 (by decide +kernel) (by decide +kernel), gt_pr 1 (by decide +kernel) (by decide +kernel), gt_at 3 (by decide +kernel) (by decide +kernel), by decide, by decide, by decide +kernel⟩
set_option maxRecDepth 100000 in
theorem mi_X3_copyFrom : MI yX3_copyFrom cX3_copyFrom 2 none 1 := ⟨gt_at 200 rfl (by decide +kernel), gt_at 198 (by decide +kernel) (by decide +kernel), gt_at 199 (by decide +kernel) (by decide +kernel), gt_at 2 (by decide +kernel) (by decide +kernel), by decide, by decide, by decide +kernel⟩
set_option maxRecDepth 100000 in
theorem mi_J9_min_7cf53 : MS yJ9_min_7cf53 cJ9_min_7cf53 2 (some .int) 2 := ⟨gt_at 206 rfl (by decide +kernel), gt_at 205 (by decide +kernel) (by decide +kernel), gt_at 6 (by decide +kernel) (by decide +kernel), by decide, by decide, by decide +kernel⟩
set_option maxRecDepth 100000 in
theorem mi_X3_dismiss : MI yX3_dismiss cX3_dismiss 3 none 2 := ⟨gt_at 211 rfl (by decide +kernel), gt_at 209 (by decide +kernel) (by decide +kernel), gt_at 210 (by decide +kernel) (by decide +kernel), gt_at 2 (by decide +kernel) (by decide +kernel), by decide, by decide, by decide +kernel⟩
set_option maxRecDepth 100000 in
theorem mi_X6_mark : MI yX6_mark cX6_mark 3 (some .int) 2 := ⟨gt_at 215 rfl (by decide +kernel), gt_at 213 (by decide +kernel) (by decide +kernel), gt_at 214 (by decide +kernel) (by decide +kernel), gt_at 1 (by decide +kernel) (by decide +kernel), by decide, by decide, by decide +kernel⟩
set_option maxRecDepth 100000 in
theorem mi_X6_changePerson : MI yX6_changePerson cX6_changePerson 5 (some .int) 4 := ⟨gt_at 219 rfl (by decide +kernel), gt_at 218 (by decide +kernel) (by decide +kernel), gt_pr 2 (by decide +kernel) (by decide +kernel), gt_at 1 (by decide +kernel) (by decide +kernel), by decide, by decide, by decide +kernel⟩
set_option maxRecDepth 100000 in
theorem mi_X6_isPerson : MI yX6_isPerson cX6_isPerson 2 (some .boolean) 1 := ⟨gt_at 223 rfl (by decide +kernel), gt_at 222 (by decide +kernel) (by decide +kernel), gt_pr 3 (by decide +kernel) (by decide +kernel), gt_at 1 (by decide +kernel) (by decide +kernel), by decide, by decide, by decide +kernel⟩
set_option maxRecDepth 100000 in
theorem mi_X6_change : MI yX6_change cX6_change 5 (some .int) 3 := ⟨gt_at 227 rfl (by decide +kernel), gt_at 226 (by decide +kernel) (by decide +kernel), gt_pr 4 (by decide +kernel) (by decide +kernel), gt_at 1 (by decide +kernel) (by decide +kernel), by decide, by decide, by decide +kernel⟩
set_option maxRecDepth 100000 in
theorem mi_X6_ticket : MI yX6_ticket cX6_ticket 3 (some .int) 2 := ⟨gt_at 232 rfl (by decide +kernel), gt_at 230 (by decide +kernel) (by decide +kernel), gt_at 231 (by decide +kernel) (by decide +kernel), gt_at 1 (by decide +kernel) (by decide +kernel), by decide, by decide, by decide +kernel⟩
set_option maxRecDepth 100000 in
theorem mi_X6_kind : MI yX6_kind cX6_kind 3 (some .int) 2 := ⟨gt_at 236 rfl (by decide +kernel), gt_at 234 (by decide +kernel) (by decide +kernel), gt_at 235 (by decide +kernel) (by decide +kernel), gt_at 1 (by decide +kernel) (by decide +kernel), by decide, by decide, by decide +kernel⟩
set_option maxRecDepth 100000 in
theorem mi_X6_groups : MI yX6_groups cX6_groups 3 (some .int) 2 := ⟨gt_at 240 rfl (by decide +kernel), gt_at 238 (by decide +kernel) (by decide +kernel), gt_at 239 (by decide +kernel) (by decide +kernel), gt_at 1 (by decide +kernel) (by decide +kernel), by decide, by decide, by decide +kernel⟩
set_option maxRecDepth 100000 in
theorem mi_X6_ofPerson : MI yX6_ofPerson cX6_ofPerson 3 (some .int) 2 := ⟨gt_at 244 rfl (by decide +kernel), gt_at 242 (by decide +kernel) (by decide +kernel), gt_at 243 (by decide +kernel) (by decide +kernel), gt_at 1 (by decide +kernel) (by decide +kernel), by decide, by decide, by decide +kernel⟩
set_option maxRecDepth 100000 in
theorem mi_X3_countAhead : MI yX3_countAhead cX3_countAhead 5 (some .int) 1 := ⟨gt_at 248 rfl (by decide +kernel), gt_at 246 (by decide +kernel) (by decide +kernel), gt_at 247 (by decide +kernel) (by decide +kernel), gt_at 2 (by decide +kernel) (by decide +kernel), by decide, by decide, by decide +kernel⟩
set_option maxRecDepth 100000 in
theorem mi_X3_rankKey : MI yX3_rankKey cX3_rankKey 3 (some .int) 1 := ⟨gt_at 252 rfl (by decide +kernel), gt_at 250 (by decide +kernel) (by decide +kernel), gt_at 251 (by decide +kernel) (by decide +kernel), gt_at 2 (by decide +kernel) (by decide +kernel), by decide, by decide, by decide +kernel⟩
set_option maxRecDepth 100000 in
theorem mi_X6_ranked : MI yX6_ranked cX6_ranked 2 (some .int) 1 := ⟨gt_at 257 rfl (by decide +kernel), gt_at 255 (by decide +kernel) (by decide +kernel), gt_at 256 (by decide +kernel) (by decide +kernel), gt_at 1 (by decide +kernel) (by decide +kernel), by decide, by decide, by decide +kernel⟩
set_option maxRecDepth 100000 in
theorem mi_X6_presentChoice : MI yX6_presentChoice cX6_presentChoice 1 (some (.object "KeptSeats$Choice")) 0 := ⟨gt_at 261 rfl (by decide +kernel), gt_at 260 (by decide +kernel) (by decide +kernel), gt_pr 5 (by decide +kernel) (by decide +kernel), gt_at 1 (by decide +kernel) (by decide +kernel), by decide, by decide, by decide +kernel⟩
set_option maxRecDepth 100000 in
theorem mi_X0_make : MI yX0_make cX0_make 3 none 1 := ⟨gt_at 265 rfl (by decide +kernel), gt_at 263 (by decide +kernel) (by decide +kernel), gt_at 264 (by decide +kernel) (by decide +kernel), gt_at 4 (by decide +kernel) (by decide +kernel), by decide, by decide, by decide +kernel⟩
set_option maxRecDepth 100000 in
theorem mi_X0_rankAll : MI yX0_rankAll cX0_rankAll 5 none 1 := ⟨gt_at 270 rfl (by decide +kernel), gt_at 269 (by decide +kernel) (by decide +kernel), gt_pr 6 (by decide +kernel) (by decide +kernel), gt_at 4 (by decide +kernel) (by decide +kernel), by decide, by decide, by decide +kernel⟩
set_option maxRecDepth 100000 in
theorem mi_X4_get : MI yX4_get cX4_get 2 (some .int) 1 := ⟨gt_at 275 rfl (by decide +kernel), gt_at 273 (by decide +kernel) (by decide +kernel), gt_at 274 (by decide +kernel) (by decide +kernel), gt_at 5 (by decide +kernel) (by decide +kernel), by decide, by decide, by decide +kernel⟩
set_option maxRecDepth 100000 in
theorem mi_X4_set : MI yX4_set cX4_set 3 none 2 := ⟨gt_at 279 rfl (by decide +kernel), gt_at 277 (by decide +kernel) (by decide +kernel), gt_at 278 (by decide +kernel) (by decide +kernel), gt_at 5 (by decide +kernel) (by decide +kernel), by decide, by decide, by decide +kernel⟩
set_option maxRecDepth 100000 in
theorem mi_X0_findFree : MI yX0_findFree cX0_findFree 3 none 1 := ⟨gt_at 283 rfl (by decide +kernel), gt_at 282 (by decide +kernel) (by decide +kernel), gt_pr 7 (by decide +kernel) (by decide +kernel), gt_at 4 (by decide +kernel) (by decide +kernel), by decide, by decide, by decide +kernel⟩
set_option maxRecDepth 100000 in
theorem mi_X0_occupy : MI yX0_occupy cX0_occupy 4 none 2 := ⟨gt_at 288 rfl (by decide +kernel), gt_at 287 (by decide +kernel) (by decide +kernel), gt_pr 8 (by decide +kernel) (by decide +kernel), gt_at 4 (by decide +kernel) (by decide +kernel), by decide, by decide, by decide +kernel⟩
set_option maxRecDepth 100000 in
theorem mi_X6_isGroup : MS yX6_isGroup cX6_isGroup 1 (some .boolean) 1 := ⟨gt_at 292 rfl (by decide +kernel), gt_at 291 (by decide +kernel) (by decide +kernel), gt_at 1 (by decide +kernel) (by decide +kernel), by decide, by decide, by decide +kernel⟩
set_option maxRecDepth 100000 in
theorem mi_X0_findCandidates : MI yX0_findCandidates cX0_findCandidates 5 none 1 := ⟨gt_at 296 rfl (by decide +kernel), gt_at 295 (by decide +kernel) (by decide +kernel), gt_pr 9 (by decide +kernel) (by decide +kernel), gt_at 4 (by decide +kernel) (by decide +kernel), by decide, by decide, by decide +kernel⟩
set_option maxRecDepth 100000 in
theorem mi_X4_fill : MI yX4_fill cX4_fill 3 none 1 := ⟨gt_at 300 rfl (by decide +kernel), gt_at 298 (by decide +kernel) (by decide +kernel), gt_at 299 (by decide +kernel) (by decide +kernel), gt_at 5 (by decide +kernel) (by decide +kernel), by decide, by decide, by decide +kernel⟩
set_option maxRecDepth 100000 in
theorem mi_X3_isActive : MI yX3_isActive cX3_isActive 2 (some .boolean) 1 := ⟨gt_at 304 rfl (by decide +kernel), gt_at 302 (by decide +kernel) (by decide +kernel), gt_at 303 (by decide +kernel) (by decide +kernel), gt_at 2 (by decide +kernel) (by decide +kernel), by decide, by decide, by decide +kernel⟩
set_option maxRecDepth 100000 in
theorem mi_X0_takeIn : MI yX0_takeIn cX0_takeIn 5 none 2 := ⟨gt_at 308 rfl (by decide +kernel), gt_at 307 (by decide +kernel) (by decide +kernel), gt_pr 10 (by decide +kernel) (by decide +kernel), gt_at 4 (by decide +kernel) (by decide +kernel), by decide, by decide, by decide +kernel⟩
set_option maxRecDepth 100000 in
theorem mi_X0_lineUp : MI yX0_lineUp cX0_lineUp 5 none 1 := ⟨gt_at 312 rfl (by decide +kernel), gt_at 311 (by decide +kernel) (by decide +kernel), gt_pr 11 (by decide +kernel) (by decide +kernel), gt_at 4 (by decide +kernel) (by decide +kernel), by decide, by decide, by decide +kernel⟩
set_option maxRecDepth 100000 in
theorem mi_X0_withoutSeat : MI yX0_withoutSeat cX0_withoutSeat 2 (some .int) 1 := ⟨gt_at 316 rfl (by decide +kernel), gt_at 315 (by decide +kernel) (by decide +kernel), gt_pr 12 (by decide +kernel) (by decide +kernel), gt_at 4 (by decide +kernel) (by decide +kernel), by decide, by decide, by decide +kernel⟩
set_option maxRecDepth 100000 in
theorem mi_X0_personAt : MI yX0_personAt cX0_personAt 2 (some .int) 1 := ⟨gt_at 320 rfl (by decide +kernel), gt_at 318 (by decide +kernel) (by decide +kernel), gt_at 319 (by decide +kernel) (by decide +kernel), gt_at 4 (by decide +kernel) (by decide +kernel), by decide, by decide, by decide +kernel⟩
set_option maxRecDepth 100000 in
theorem mi_X0_freeSeats : MI yX0_freeSeats cX0_freeSeats 2 (some .int) 1 := ⟨gt_at 324 rfl (by decide +kernel), gt_at 322 (by decide +kernel) (by decide +kernel), gt_at 323 (by decide +kernel) (by decide +kernel), gt_at 4 (by decide +kernel) (by decide +kernel), by decide, by decide, by decide +kernel⟩
set_option maxRecDepth 100000 in
theorem mi_X0_takeFullest : MI yX0_takeFullest cX0_takeFullest 8 none 3 := ⟨gt_at 329 rfl (by decide +kernel), gt_at 328 (by decide +kernel) (by decide +kernel), gt_pr 13 (by decide +kernel) (by decide +kernel), gt_at 4 (by decide +kernel) (by decide +kernel), by decide, by decide, by decide +kernel⟩
set_option maxRecDepth 100000 in
theorem mi_X5_begin : MI yX5_begin cX5_begin 4 none 2 := ⟨gt_at 333 rfl (by decide +kernel), gt_at 331 (by decide +kernel) (by decide +kernel), gt_at 332 (by decide +kernel) (by decide +kernel), gt_at 7 (by decide +kernel) (by decide +kernel), by decide, by decide, by decide +kernel⟩
set_option maxRecDepth 100000 in
theorem mi_X0_freeReserved : MI yX0_freeReserved cX0_freeReserved 3 (some .int) 2 := ⟨gt_at 338 rfl (by decide +kernel), gt_at 336 (by decide +kernel) (by decide +kernel), gt_at 337 (by decide +kernel) (by decide +kernel), gt_at 4 (by decide +kernel) (by decide +kernel), by decide, by decide, by decide +kernel⟩
set_option maxRecDepth 100000 in
theorem mi_X5_changeLeft : MI yX5_changeLeft cX5_changeLeft 4 none 2 := ⟨gt_at 342 rfl (by decide +kernel), gt_at 341 (by decide +kernel) (by decide +kernel), gt_pr 14 (by decide +kernel) (by decide +kernel), gt_at 7 (by decide +kernel) (by decide +kernel), by decide, by decide, by decide +kernel⟩
set_option maxRecDepth 100000 in
theorem mi_X4_add : MI yX4_add cX4_add 3 none 2 := ⟨gt_at 346 rfl (by decide +kernel), gt_at 344 (by decide +kernel) (by decide +kernel), gt_at 345 (by decide +kernel) (by decide +kernel), gt_at 5 (by decide +kernel) (by decide +kernel), by decide, by decide, by decide +kernel⟩
set_option maxRecDepth 100000 in
theorem mi_X5_add : MI yX5_add cX5_add 4 none 2 := ⟨gt_at 350 rfl (by decide +kernel), gt_at 348 (by decide +kernel) (by decide +kernel), gt_at 349 (by decide +kernel) (by decide +kernel), gt_at 7 (by decide +kernel) (by decide +kernel), by decide, by decide, by decide +kernel⟩
set_option maxRecDepth 100000 in
theorem mi_X5_fill : MI yX5_fill cX5_fill 3 (some .int) 0 := ⟨gt_at 354 rfl (by decide +kernel), gt_at 352 (by decide +kernel) (by decide +kernel), gt_at 353 (by decide +kernel) (by decide +kernel), gt_at 7 (by decide +kernel) (by decide +kernel), by decide, by decide, by decide +kernel⟩
set_option maxRecDepth 100000 in
theorem mi_X0_take : MI yX0_take cX0_take 4 none 3 := ⟨gt_at 359 rfl (by decide +kernel), gt_at 358 (by decide +kernel) (by decide +kernel), gt_pr 15 (by decide +kernel) (by decide +kernel), gt_at 4 (by decide +kernel) (by decide +kernel), by decide, by decide, by decide +kernel⟩
set_option maxRecDepth 100000 in
theorem mi_X0_takeByGroups : MI yX0_takeByGroups cX0_takeByGroups 7 none 3 := ⟨gt_at 363 rfl (by decide +kernel), gt_at 362 (by decide +kernel) (by decide +kernel), gt_pr 16 (by decide +kernel) (by decide +kernel), gt_at 4 (by decide +kernel) (by decide +kernel), by decide, by decide, by decide +kernel⟩
set_option maxRecDepth 100000 in
theorem mi_X0_takeForGroup : MI yX0_takeForGroup cX0_takeForGroup 8 (some .int) 4 := ⟨gt_at 368 rfl (by decide +kernel), gt_at 367 (by decide +kernel) (by decide +kernel), gt_pr 17 (by decide +kernel) (by decide +kernel), gt_at 4 (by decide +kernel) (by decide +kernel), by decide, by decide, by decide +kernel⟩
set_option maxRecDepth 100000 in
theorem mi_X0_has : MI yX0_has cX0_has 2 (some .boolean) 1 := ⟨gt_at 372 rfl (by decide +kernel), gt_at 370 (by decide +kernel) (by decide +kernel), gt_at 371 (by decide +kernel) (by decide +kernel), gt_at 4 (by decide +kernel) (by decide +kernel), by decide, by decide, by decide +kernel⟩
set_option maxRecDepth 100000 in
theorem mi_X0_takeBest : MI yX0_takeBest cX0_takeBest 6 none 2 := ⟨gt_at 376 rfl (by decide +kernel), gt_at 375 (by decide +kernel) (by decide +kernel), gt_pr 18 (by decide +kernel) (by decide +kernel), gt_at 4 (by decide +kernel) (by decide +kernel), by decide, by decide, by decide +kernel⟩
set_option maxRecDepth 100000 in
theorem mi_X0_passOn : MI yX0_passOn cX0_passOn 6 none 2 := ⟨gt_at 380 rfl (by decide +kernel), gt_at 379 (by decide +kernel) (by decide +kernel), gt_pr 19 (by decide +kernel) (by decide +kernel), gt_at 4 (by decide +kernel) (by decide +kernel), by decide, by decide, by decide +kernel⟩
set_option maxRecDepth 100000 in
theorem mi_X0_countTaken : MI yX0_countTaken cX0_countTaken 4 (some .int) 1 := ⟨gt_at 384 rfl (by decide +kernel), gt_at 382 (by decide +kernel) (by decide +kernel), gt_at 383 (by decide +kernel) (by decide +kernel), gt_at 4 (by decide +kernel) (by decide +kernel), by decide, by decide, by decide +kernel⟩
set_option maxRecDepth 100000 in
theorem mi_X0_isTaken : MI yX0_isTaken cX0_isTaken 3 (some .boolean) 2 := ⟨gt_at 388 rfl (by decide +kernel), gt_at 386 (by decide +kernel) (by decide +kernel), gt_at 387 (by decide +kernel) (by decide +kernel), gt_at 4 (by decide +kernel) (by decide +kernel), by decide, by decide, by decide +kernel⟩
set_option maxRecDepth 100000 in
theorem mi_X0_findReceiver : MI yX0_findReceiver cX0_findReceiver 7 (some .int) 2 := ⟨gt_at 392 rfl (by decide +kernel), gt_at 391 (by decide +kernel) (by decide +kernel), gt_pr 20 (by decide +kernel) (by decide +kernel), gt_at 4 (by decide +kernel) (by decide +kernel), by decide, by decide, by decide +kernel⟩
set_option maxRecDepth 100000 in
theorem mi_X0_bestWithoutSeat : MI yX0_bestWithoutSeat cX0_bestWithoutSeat 5 (some .int) 1 := ⟨gt_at 397 rfl (by decide +kernel), gt_at 396 (by decide +kernel) (by decide +kernel), gt_pr 21 (by decide +kernel) (by decide +kernel), gt_at 4 (by decide +kernel) (by decide +kernel), by decide, by decide, by decide +kernel⟩
set_option maxRecDepth 100000 in
theorem mi_X0_assignGroups : MI yX0_assignGroups cX0_assignGroups 5 none 1 := ⟨gt_at 401 rfl (by decide +kernel), gt_at 399 (by decide +kernel) (by decide +kernel), gt_at 400 (by decide +kernel) (by decide +kernel), gt_at 4 (by decide +kernel) (by decide +kernel), by decide, by decide, by decide +kernel⟩
set_option maxRecDepth 100000 in
theorem mi_X0_tallyTaken : MI yX0_tallyTaken cX0_tallyTaken 4 none 2 := ⟨gt_at 405 rfl (by decide +kernel), gt_at 404 (by decide +kernel) (by decide +kernel), gt_pr 22 (by decide +kernel) (by decide +kernel), gt_at 4 (by decide +kernel) (by decide +kernel), by decide, by decide, by decide +kernel⟩
set_option maxRecDepth 100000 in
theorem mi_X5_assign : MI yX5_assign cX5_assign 4 (some .int) 1 := ⟨gt_at 409 rfl (by decide +kernel), gt_at 407 (by decide +kernel) (by decide +kernel), gt_at 408 (by decide +kernel) (by decide +kernel), gt_at 7 (by decide +kernel) (by decide +kernel), by decide, by decide, by decide +kernel⟩
set_option maxRecDepth 100000 in
theorem mi_X6_above : MI yX6_above cX6_above 5 (some .int) 1 := ⟨gt_at 417 rfl (by decide +kernel), gt_at 415 (by decide +kernel) (by decide +kernel), gt_at 416 (by decide +kernel) (by decide +kernel), gt_at 1 (by decide +kernel) (by decide +kernel), by decide, by decide, by decide +kernel⟩
set_option maxRecDepth 100000 in
theorem mi_X6_alike : MI yX6_alike cX6_alike 2 (some .int) 1 := ⟨gt_at 421 rfl (by decide +kernel), gt_at 419 (by decide +kernel) (by decide +kernel), gt_at 420 (by decide +kernel) (by decide +kernel), gt_at 1 (by decide +kernel) (by decide +kernel), by decide, by decide, by decide +kernel⟩
set_option maxRecDepth 100000 in
theorem mi_X3_countWith : MI yX3_countWith cX3_countWith 5 (some .int) 2 := ⟨gt_at 425 rfl (by decide +kernel), gt_at 423 (by decide +kernel) (by decide +kernel), gt_at 424 (by decide +kernel) (by decide +kernel), gt_at 2 (by decide +kernel) (by decide +kernel), by decide, by decide, by decide +kernel⟩
set_option maxRecDepth 100000 in
theorem mi_X6_seats : MI yX6_seats cX6_seats 3 (some .int) 2 := ⟨gt_at 429 rfl (by decide +kernel), gt_at 427 (by decide +kernel) (by decide +kernel), gt_at 428 (by decide +kernel) (by decide +kernel), gt_at 1 (by decide +kernel) (by decide +kernel), by decide, by decide, by decide +kernel⟩
set_option maxRecDepth 100000 in
theorem mi_X6_reserve : MI yX6_reserve cX6_reserve 4 (some .int) 3 := ⟨gt_at 433 rfl (by decide +kernel), gt_at 431 (by decide +kernel) (by decide +kernel), gt_at 432 (by decide +kernel) (by decide +kernel), gt_at 1 (by decide +kernel) (by decide +kernel), by decide, by decide, by decide +kernel⟩
set_option maxRecDepth 100000 in
theorem mi_X6_heir : MI yX6_heir cX6_heir 3 (some .int) 2 := ⟨gt_at 438 rfl (by decide +kernel), gt_at 436 (by decide +kernel) (by decide +kernel), gt_at 437 (by decide +kernel) (by decide +kernel), gt_at 1 (by decide +kernel) (by decide +kernel), by decide, by decide, by decide +kernel⟩
set_option maxRecDepth 100000 in
theorem mi_X6_manner : MI yX6_manner cX6_manner 2 (some .int) 1 := ⟨gt_at 442 rfl (by decide +kernel), gt_at 440 (by decide +kernel) (by decide +kernel), gt_at 441 (by decide +kernel) (by decide +kernel), gt_at 1 (by decide +kernel) (by decide +kernel), by decide, by decide, by decide +kernel⟩
set_option maxRecDepth 100000 in
theorem mi_X6_order : MI yX6_order cX6_order 5 (some .int) 4 := ⟨gt_at 446 rfl (by decide +kernel), gt_at 444 (by decide +kernel) (by decide +kernel), gt_at 445 (by decide +kernel) (by decide +kernel), gt_at 1 (by decide +kernel) (by decide +kernel), by decide, by decide, by decide +kernel⟩
set_option maxRecDepth 100000 in
theorem mi_X6_isOrder : MS yX6_isOrder cX6_isOrder 5 (some .boolean) 4 := ⟨gt_at 449 rfl (by decide +kernel), gt_at 448 (by decide +kernel) (by decide +kernel), gt_at 1 (by decide +kernel) (by decide +kernel), by decide, by decide, by decide +kernel⟩
set_option maxRecDepth 100000 in
theorem mi_X3_setOrder : MI yX3_setOrder cX3_setOrder 5 none 4 := ⟨gt_at 453 rfl (by decide +kernel), gt_at 451 (by decide +kernel) (by decide +kernel), gt_at 452 (by decide +kernel) (by decide +kernel), gt_at 2 (by decide +kernel) (by decide +kernel), by decide, by decide, by decide +kernel⟩
set_option maxRecDepth 100000 in
theorem mi_X6_seat : MI yX6_seat cX6_seat 2 (some .int) 1 := ⟨gt_at 457 rfl (by decide +kernel), gt_at 455 (by decide +kernel) (by decide +kernel), gt_at 456 (by decide +kernel) (by decide +kernel), gt_at 1 (by decide +kernel) (by decide +kernel), by decide, by decide, by decide +kernel⟩
set_option maxRecDepth 100000 in
theorem mi_X0_seatOf : MI yX0_seatOf cX0_seatOf 2 (some .int) 1 := ⟨gt_at 461 rfl (by decide +kernel), gt_at 459 (by decide +kernel) (by decide +kernel), gt_at 460 (by decide +kernel) (by decide +kernel), gt_at 4 (by decide +kernel) (by decide +kernel), by decide, by decide, by decide +kernel⟩
set_option maxRecDepth 100000 in
theorem mi_X6_counted : MI yX6_counted cX6_counted 2 (some .int) 1 := ⟨gt_at 465 rfl (by decide +kernel), gt_at 463 (by decide +kernel) (by decide +kernel), gt_at 464 (by decide +kernel) (by decide +kernel), gt_at 1 (by decide +kernel) (by decide +kernel), by decide, by decide, by decide +kernel⟩
set_option maxRecDepth 100000 in
theorem mi_X0_groupOf : MI yX0_groupOf cX0_groupOf 2 (some .int) 1 := ⟨gt_at 469 rfl (by decide +kernel), gt_at 467 (by decide +kernel) (by decide +kernel), gt_at 468 (by decide +kernel) (by decide +kernel), gt_at 4 (by decide +kernel) (by decide +kernel), by decide, by decide, by decide +kernel⟩
set_option maxRecDepth 100000 in
theorem mi_X6_handed : MI yX6_handed cX6_handed 2 (some .int) 1 := ⟨gt_at 473 rfl (by decide +kernel), gt_at 471 (by decide +kernel) (by decide +kernel), gt_at 472 (by decide +kernel) (by decide +kernel), gt_at 1 (by decide +kernel) (by decide +kernel), by decide, by decide, by decide +kernel⟩
set_option maxRecDepth 100000 in
theorem mi_X0_handedTo : MI yX0_handedTo cX0_handedTo 2 (some .int) 1 := ⟨gt_at 477 rfl (by decide +kernel), gt_at 475 (by decide +kernel) (by decide +kernel), gt_at 476 (by decide +kernel) (by decide +kernel), gt_at 4 (by decide +kernel) (by decide +kernel), by decide, by decide, by decide +kernel⟩
set_option maxRecDepth 100000 in
theorem mi_X6_taken : MI yX6_taken cX6_taken 3 (some .int) 2 := ⟨gt_at 481 rfl (by decide +kernel), gt_at 479 (by decide +kernel) (by decide +kernel), gt_at 480 (by decide +kernel) (by decide +kernel), gt_at 1 (by decide +kernel) (by decide +kernel), by decide, by decide, by decide +kernel⟩
set_option maxRecDepth 100000 in
theorem mi_X0_takenAt : MI yX0_takenAt cX0_takenAt 6 (some .int) 2 := ⟨gt_at 485 rfl (by decide +kernel), gt_at 483 (by decide +kernel) (by decide +kernel), gt_at 484 (by decide +kernel) (by decide +kernel), gt_at 4 (by decide +kernel) (by decide +kernel), by decide, by decide, by decide +kernel⟩
set_option maxRecDepth 100000 in
theorem mi_X6_ofKind : MI yX6_ofKind cX6_ofKind 4 (some .int) 2 := ⟨gt_at 489 rfl (by decide +kernel), gt_at 487 (by decide +kernel) (by decide +kernel), gt_at 488 (by decide +kernel) (by decide +kernel), gt_at 1 (by decide +kernel) (by decide +kernel), by decide, by decide, by decide +kernel⟩
set_option maxRecDepth 100000 in
theorem mi_X0_countTo : MI yX0_countTo cX0_countTo 5 (some .int) 2 := ⟨gt_at 494 rfl (by decide +kernel), gt_at 492 (by decide +kernel) (by decide +kernel), gt_at 493 (by decide +kernel) (by decide +kernel), gt_at 4 (by decide +kernel) (by decide +kernel), by decide, by decide, by decide +kernel⟩
set_option maxRecDepth 100000 in
theorem mi_X0_countCountedIn : MI yX0_countCountedIn cX0_countCountedIn 4 (some .int) 1 := ⟨gt_at 501 rfl (by decide +kernel), gt_at 499 (by decide +kernel) (by decide +kernel), gt_at 500 (by decide +kernel) (by decide +kernel), gt_at 4 (by decide +kernel) (by decide +kernel), by decide, by decide, by decide +kernel⟩
set_option maxRecDepth 100000 in
theorem mi_X0_countSeated : MI yX0_countSeated cX0_countSeated 4 (some .int) 1 := ⟨gt_at 506 rfl (by decide +kernel), gt_at 504 (by decide +kernel) (by decide +kernel), gt_at 505 (by decide +kernel) (by decide +kernel), gt_at 4 (by decide +kernel) (by decide +kernel), by decide, by decide, by decide +kernel⟩
set_option maxRecDepth 100000 in
theorem mi_X6_worstMark : MI yX6_worstMark cX6_worstMark 4 (some .int) 2 := ⟨gt_at 511 rfl (by decide +kernel), gt_at 510 (by decide +kernel) (by decide +kernel), gt_pr 23 (by decide +kernel) (by decide +kernel), gt_at 1 (by decide +kernel) (by decide +kernel), by decide, by decide, by decide +kernel⟩
set_option maxRecDepth 100000 in
theorem mi_X0_fillOf : MI yX0_fillOf cX0_fillOf 3 (some .int) 2 := ⟨gt_at 515 rfl (by decide +kernel), gt_at 513 (by decide +kernel) (by decide +kernel), gt_at 514 (by decide +kernel) (by decide +kernel), gt_at 4 (by decide +kernel) (by decide +kernel), by decide, by decide, by decide +kernel⟩
set_option maxRecDepth 100000 in
theorem mi_X6_ways : MI yX6_ways cX6_ways 2 (some .long) 1 := ⟨gt_at 519 rfl (by decide +kernel), gt_at 517 (by decide +kernel) (by decide +kernel), gt_at 518 (by decide +kernel) (by decide +kernel), gt_at 1 (by decide +kernel) (by decide +kernel), by decide, by decide, by decide +kernel⟩
set_option maxRecDepth 100000 in
theorem mi_X1_count : MI yX1_count cX1_count 8 (some .long) 3 := ⟨gt_at 523 rfl (by decide +kernel), gt_at 521 (by decide +kernel) (by decide +kernel), gt_at 522 (by decide +kernel) (by decide +kernel), gt_at 8 (by decide +kernel) (by decide +kernel), by decide, by decide, by decide +kernel⟩
set_option maxRecDepth 100000 in
theorem mi_X1_include : MI yX1_include cX1_include 9 none 3 := ⟨gt_at 532 rfl (by decide +kernel), gt_at 531 (by decide +kernel) (by decide +kernel), gt_pr 24 (by decide +kernel) (by decide +kernel), gt_at 8 (by decide +kernel) (by decide +kernel), by decide, by decide, by decide +kernel⟩
set_option maxRecDepth 100000 in
theorem mi_X1_sumOfDigits : MS yX1_sumOfDigits cX1_sumOfDigits 4 (some .int) 1 := ⟨gt_at 539 rfl (by decide +kernel), gt_at 538 (by decide +kernel) (by decide +kernel), gt_at 8 (by decide +kernel) (by decide +kernel), by decide, by decide, by decide +kernel⟩
set_option maxRecDepth 100000 in
theorem mi_X6_by : MI yX6_by cX6_by 3 (some .int) 2 := ⟨gt_at 544 rfl (by decide +kernel), gt_at 542 (by decide +kernel) (by decide +kernel), gt_at 543 (by decide +kernel) (by decide +kernel), gt_at 1 (by decide +kernel) (by decide +kernel), by decide, by decide, by decide +kernel⟩
set_option maxRecDepth 100000 in
theorem mi_X0_members : MI yX0_members cX0_members 1 (some .int) 0 := ⟨gt_at 549 rfl (by decide +kernel), gt_at 547 (by decide +kernel) (by decide +kernel), gt_at 548 (by decide +kernel) (by decide +kernel), gt_at 4 (by decide +kernel) (by decide +kernel), by decide, by decide, by decide +kernel⟩
set_option maxRecDepth 100000 in
theorem mi_J6_bitCount_0f7a4 : MS yJ6_bitCount_0f7a4 cJ6_bitCount_0f7a4 1 (some .int) 1 := ⟨gt_at 552 rfl (by decide +kernel), gt_at 551 (by decide +kernel) (by decide +kernel), gt_at 11 (by decide +kernel) (by decide +kernel), by decide, by decide, by decide +kernel⟩
set_option maxRecDepth 100000 in
theorem mi_X6_sumOfMarks : MI yX6_sumOfMarks cX6_sumOfMarks 4 (some .int) 1 := ⟨gt_at 559 rfl (by decide +kernel), gt_at 558 (by decide +kernel) (by decide +kernel), gt_pr 25 (by decide +kernel) (by decide +kernel), gt_at 1 (by decide +kernel) (by decide +kernel), by decide, by decide, by decide +kernel⟩
set_option maxRecDepth 100000 in
theorem mi_X0_countCounted : MI yX0_countCounted cX0_countCounted 3 (some .int) 0 := ⟨gt_at 563 rfl (by decide +kernel), gt_at 561 (by decide +kernel) (by decide +kernel), gt_at 562 (by decide +kernel) (by decide +kernel), gt_at 4 (by decide +kernel) (by decide +kernel), by decide, by decide, by decide +kernel⟩
set_option maxRecDepth 100000 in
theorem mi_X6_sure : MI yX6_sure cX6_sure 9 (some .int) 1 := ⟨gt_at 568 rfl (by decide +kernel), gt_at 566 (by decide +kernel) (by decide +kernel), gt_at 567 (by decide +kernel) (by decide +kernel), gt_at 1 (by decide +kernel) (by decide +kernel), by decide, by decide, by decide +kernel⟩
set_option maxRecDepth 100000 in
theorem mi_X6_threshold : MI yX6_threshold cX6_threshold 2 (some .int) 1 := ⟨gt_at 573 rfl (by decide +kernel), gt_at 571 (by decide +kernel) (by decide +kernel), gt_at 572 (by decide +kernel) (by decide +kernel), gt_at 1 (by decide +kernel) (by decide +kernel), by decide, by decide, by decide +kernel⟩
set_option maxRecDepth 100000 in
theorem mi_X6_leastMark : MI yX6_leastMark cX6_leastMark 5 (some .int) 1 := ⟨gt_at 578 rfl (by decide +kernel), gt_at 577 (by decide +kernel) (by decide +kernel), gt_pr 26 (by decide +kernel) (by decide +kernel), gt_at 1 (by decide +kernel) (by decide +kernel), by decide, by decide, by decide +kernel⟩
set_option maxRecDepth 100000 in
theorem mi_X6_claim : MI yX6_claim cX6_claim 2 (some .int) 1 := ⟨gt_at 583 rfl (by decide +kernel), gt_at 581 (by decide +kernel) (by decide +kernel), gt_at 582 (by decide +kernel) (by decide +kernel), gt_at 1 (by decide +kernel) (by decide +kernel), by decide, by decide, by decide +kernel⟩
set_option maxRecDepth 100000 in
theorem mi_X6_leastGroups : MI yX6_leastGroups cX6_leastGroups 5 (some .int) 1 := ⟨gt_at 587 rfl (by decide +kernel), gt_at 586 (by decide +kernel) (by decide +kernel), gt_pr 27 (by decide +kernel) (by decide +kernel), gt_at 1 (by decide +kernel) (by decide +kernel), by decide, by decide, by decide +kernel⟩
set_option maxRecDepth 100000 in
theorem mi_X6_successor : MI yX6_successor cX6_successor 5 (some .int) 1 := ⟨gt_at 591 rfl (by decide +kernel), gt_at 589 (by decide +kernel) (by decide +kernel), gt_at 590 (by decide +kernel) (by decide +kernel), gt_at 1 (by decide +kernel) (by decide +kernel), by decide, by decide, by decide +kernel⟩
set_option maxRecDepth 100000 in
theorem mi_X6_passed : MI yX6_passed cX6_passed 5 (some .int) 1 := ⟨gt_at 595 rfl (by decide +kernel), gt_at 593 (by decide +kernel) (by decide +kernel), gt_at 594 (by decide +kernel) (by decide +kernel), gt_at 1 (by decide +kernel) (by decide +kernel), by decide, by decide, by decide +kernel⟩
set_option maxRecDepth 100000 in
theorem mi_X3_isAhead : MI yX3_isAhead cX3_isAhead 3 (some .boolean) 2 := ⟨gt_at 599 rfl (by decide +kernel), gt_at 597 (by decide +kernel) (by decide +kernel), gt_at 598 (by decide +kernel) (by decide +kernel), gt_at 2 (by decide +kernel) (by decide +kernel), by decide, by decide, by decide +kernel⟩
set_option maxRecDepth 100000 in
theorem mi_X6_nearest : MI yX6_nearest cX6_nearest 6 (some .int) 1 := ⟨gt_at 603 rfl (by decide +kernel), gt_at 601 (by decide +kernel) (by decide +kernel), gt_at 602 (by decide +kernel) (by decide +kernel), gt_at 1 (by decide +kernel) (by decide +kernel), by decide, by decide, by decide +kernel⟩
set_option maxRecDepth 100000 in
theorem mi_X6_placeOfGap : MI yX6_placeOfGap cX6_placeOfGap 7 (some .int) 1 := ⟨gt_at 609 rfl (by decide +kernel), gt_at 608 (by decide +kernel) (by decide +kernel), gt_pr 28 (by decide +kernel) (by decide +kernel), gt_at 1 (by decide +kernel) (by decide +kernel), by decide, by decide, by decide +kernel⟩
set_option maxRecDepth 100000 in
theorem mi_X6_envy : MI yX6_envy cX6_envy 4 (some .int) 0 := ⟨gt_at 614 rfl (by decide +kernel), gt_at 612 (by decide +kernel) (by decide +kernel), gt_at 613 (by decide +kernel) (by decide +kernel), gt_at 1 (by decide +kernel) (by decide +kernel), by decide, by decide, by decide +kernel⟩
set_option maxRecDepth 100000 in
theorem mi_X0_countEnvy : MI yX0_countEnvy cX0_countEnvy 6 (some .int) 2 := ⟨gt_at 618 rfl (by decide +kernel), gt_at 616 (by decide +kernel) (by decide +kernel), gt_at 617 (by decide +kernel) (by decide +kernel), gt_at 4 (by decide +kernel) (by decide +kernel), by decide, by decide, by decide +kernel⟩
set_option maxRecDepth 100000 in
theorem mi_X0_countEnvious : MI yX0_countEnvious cX0_countEnvious 8 (some .int) 4 := ⟨gt_at 622 rfl (by decide +kernel), gt_at 621 (by decide +kernel) (by decide +kernel), gt_pr 29 (by decide +kernel) (by decide +kernel), gt_at 4 (by decide +kernel) (by decide +kernel), by decide, by decide, by decide +kernel⟩
set_option maxRecDepth 100000 in
theorem mi_X6_round : MI yX6_round cX6_round 3 (some .int) 0 := ⟨gt_at 627 rfl (by decide +kernel), gt_at 625 (by decide +kernel) (by decide +kernel), gt_at 626 (by decide +kernel) (by decide +kernel), gt_at 1 (by decide +kernel) (by decide +kernel), by decide, by decide, by decide +kernel⟩
set_option maxRecDepth 100000 in
theorem mi_X6_settle : MI yX6_settle cX6_settle 3 (some .int) 1 := ⟨gt_at 631 rfl (by decide +kernel), gt_at 630 (by decide +kernel) (by decide +kernel), gt_pr 30 (by decide +kernel) (by decide +kernel), gt_at 1 (by decide +kernel) (by decide +kernel), by decide, by decide, by decide +kernel⟩
set_option maxRecDepth 100000 in
theorem mi_X6_answer : MI yX6_answer cX6_answer 4 (some .int) 2 := ⟨gt_at 635 rfl (by decide +kernel), gt_at 633 (by decide +kernel) (by decide +kernel), gt_at 634 (by decide +kernel) (by decide +kernel), gt_at 1 (by decide +kernel) (by decide +kernel), by decide, by decide, by decide +kernel⟩
set_option maxRecDepth 100000 in
theorem mi_X6_again : MI yX6_again cX6_again 2 (some .int) 1 := ⟨gt_at 639 rfl (by decide +kernel), gt_at 637 (by decide +kernel) (by decide +kernel), gt_at 638 (by decide +kernel) (by decide +kernel), gt_at 1 (by decide +kernel) (by decide +kernel), by decide, by decide, by decide +kernel⟩
set_option maxRecDepth 100000 in
theorem mi_X6_note : MI yX6_note cX6_note 3 (some .int) 2 := ⟨gt_at 643 rfl (by decide +kernel), gt_at 641 (by decide +kernel) (by decide +kernel), gt_at 642 (by decide +kernel) (by decide +kernel), gt_at 1 (by decide +kernel) (by decide +kernel), by decide, by decide, by decide +kernel⟩
set_option maxRecDepth 100000 in
theorem mi_X6_back : MI yX6_back cX6_back 3 (some .int) 1 := ⟨gt_at 647 rfl (by decide +kernel), gt_at 645 (by decide +kernel) (by decide +kernel), gt_at 646 (by decide +kernel) (by decide +kernel), gt_at 1 (by decide +kernel) (by decide +kernel), by decide, by decide, by decide +kernel⟩
set_option maxRecDepth 100000 in
theorem mi_X2_size : MI yX2_size cX2_size 1 (some .int) 0 := ⟨gt_at 651 rfl (by decide +kernel), gt_at 649 (by decide +kernel) (by decide +kernel), gt_at 650 (by decide +kernel) (by decide +kernel), gt_at 3 (by decide +kernel) (by decide +kernel), by decide, by decide, by decide +kernel⟩
set_option maxRecDepth 100000 in
theorem mi_X2_restore : MI yX2_restore cX2_restore 4 none 1 := ⟨gt_at 655 rfl (by decide +kernel), gt_at 653 (by decide +kernel) (by decide +kernel), gt_at 654 (by decide +kernel) (by decide +kernel), gt_at 3 (by decide +kernel) (by decide +kernel), by decide, by decide, by decide +kernel⟩
set_option maxRecDepth 100000 in
theorem mi_X6_many : MI yX6_many cX6_many 2 (some .int) 1 := ⟨gt_at 659 rfl (by decide +kernel), gt_at 657 (by decide +kernel) (by decide +kernel), gt_at 658 (by decide +kernel) (by decide +kernel), gt_at 1 (by decide +kernel) (by decide +kernel), by decide, by decide, by decide +kernel⟩
set_option maxRecDepth 100000 in
theorem mi_X3_countActive : MI yX3_countActive cX3_countActive 3 (some .int) 0 := ⟨gt_at 663 rfl (by decide +kernel), gt_at 661 (by decide +kernel) (by decide +kernel), gt_at 662 (by decide +kernel) (by decide +kernel), gt_at 2 (by decide +kernel) (by decide +kernel), by decide, by decide, by decide +kernel⟩
set_option maxRecDepth 100000 in
theorem mi_X7_back : MI yX7_back cX7_back 3 (some .int) 1 := ⟨gt_at 740 rfl (by decide +kernel), gt_at 738 (by decide +kernel) (by decide +kernel), gt_at 739 (by decide +kernel) (by decide +kernel), gt_at 9 (by decide +kernel) (by decide +kernel), by decide, by decide, by decide +kernel⟩
set_option maxRecDepth 100000 in
theorem mi_X7_within : MS yX7_within cX7_within 3 (some .boolean) 3 := ⟨gt_at 743 rfl (by decide +kernel), gt_at 742 (by decide +kernel) (by decide +kernel), gt_at 9 (by decide +kernel) (by decide +kernel), by decide, by decide, by decide +kernel⟩
set_option maxRecDepth 100000 in
theorem mi_X7_enter : MI yX7_enter cX7_enter 6 (some .int) 4 := ⟨gt_at 747 rfl (by decide +kernel), gt_at 745 (by decide +kernel) (by decide +kernel), gt_at 746 (by decide +kernel) (by decide +kernel), gt_at 9 (by decide +kernel) (by decide +kernel), by decide, by decide, by decide +kernel⟩
set_option maxRecDepth 100000 in
theorem mi_X7_isKind : MS yX7_isKind cX7_isKind 1 (some .boolean) 1 := ⟨gt_at 750 rfl (by decide +kernel), gt_at 749 (by decide +kernel) (by decide +kernel), gt_at 9 (by decide +kernel) (by decide +kernel), by decide, by decide, by decide +kernel⟩
set_option maxRecDepth 100000 in
theorem mi_X7_keep : MI yX7_keep cX7_keep 2 none 0 := ⟨gt_at 754 rfl (by decide +kernel), gt_at 753 (by decide +kernel) (by decide +kernel), gt_pr 31 (by decide +kernel) (by decide +kernel), gt_at 9 (by decide +kernel) (by decide +kernel), by decide, by decide, by decide +kernel⟩
set_option maxRecDepth 100000 in
theorem mi_X7_become : MI yX7_become cX7_become 4 none 3 := ⟨gt_at 758 rfl (by decide +kernel), gt_at 757 (by decide +kernel) (by decide +kernel), gt_pr 32 (by decide +kernel) (by decide +kernel), gt_at 9 (by decide +kernel) (by decide +kernel), by decide, by decide, by decide +kernel⟩
set_option maxRecDepth 100000 in
theorem mi_X7_forgets : MI yX7_forgets cX7_forgets 2 none 1 := ⟨gt_at 762 rfl (by decide +kernel), gt_at 761 (by decide +kernel) (by decide +kernel), gt_pr 33 (by decide +kernel) (by decide +kernel), gt_at 9 (by decide +kernel) (by decide +kernel), by decide, by decide, by decide +kernel⟩
set_option maxRecDepth 100000 in
theorem mi_X7_mark : MI yX7_mark cX7_mark 3 (some .int) 2 := ⟨gt_at 766 rfl (by decide +kernel), gt_at 764 (by decide +kernel) (by decide +kernel), gt_at 765 (by decide +kernel) (by decide +kernel), gt_at 9 (by decide +kernel) (by decide +kernel), by decide, by decide, by decide +kernel⟩
set_option maxRecDepth 100000 in
theorem mi_X7_personal : MI yX7_personal cX7_personal 5 (some .int) 4 := ⟨gt_at 770 rfl (by decide +kernel), gt_at 769 (by decide +kernel) (by decide +kernel), gt_pr 34 (by decide +kernel) (by decide +kernel), gt_at 9 (by decide +kernel) (by decide +kernel), by decide, by decide, by decide +kernel⟩
set_option maxRecDepth 100000 in
theorem mi_X7_isPerson : MI yX7_isPerson cX7_isPerson 2 (some .boolean) 1 := ⟨gt_at 774 rfl (by decide +kernel), gt_at 773 (by decide +kernel) (by decide +kernel), gt_pr 35 (by decide +kernel) (by decide +kernel), gt_at 9 (by decide +kernel) (by decide +kernel), by decide, by decide, by decide +kernel⟩
set_option maxRecDepth 100000 in
theorem mi_X7_changes : MI yX7_changes cX7_changes 4 (some .int) 2 := ⟨gt_at 778 rfl (by decide +kernel), gt_at 777 (by decide +kernel) (by decide +kernel), gt_pr 36 (by decide +kernel) (by decide +kernel), gt_at 9 (by decide +kernel) (by decide +kernel), by decide, by decide, by decide +kernel⟩
set_option maxRecDepth 100000 in
theorem mi_X7_ticket : MI yX7_ticket cX7_ticket 3 (some .int) 2 := ⟨gt_at 782 rfl (by decide +kernel), gt_at 780 (by decide +kernel) (by decide +kernel), gt_at 781 (by decide +kernel) (by decide +kernel), gt_at 9 (by decide +kernel) (by decide +kernel), by decide, by decide, by decide +kernel⟩
set_option maxRecDepth 100000 in
theorem mi_X7_kind : MI yX7_kind cX7_kind 3 (some .int) 2 := ⟨gt_at 786 rfl (by decide +kernel), gt_at 784 (by decide +kernel) (by decide +kernel), gt_at 785 (by decide +kernel) (by decide +kernel), gt_at 9 (by decide +kernel) (by decide +kernel), by decide, by decide, by decide +kernel⟩
set_option maxRecDepth 100000 in
theorem mi_X7_groups : MI yX7_groups cX7_groups 3 (some .int) 2 := ⟨gt_at 790 rfl (by decide +kernel), gt_at 788 (by decide +kernel) (by decide +kernel), gt_at 789 (by decide +kernel) (by decide +kernel), gt_at 9 (by decide +kernel) (by decide +kernel), by decide, by decide, by decide +kernel⟩
set_option maxRecDepth 100000 in
theorem mi_X7_ofPerson : MI yX7_ofPerson cX7_ofPerson 3 (some .int) 2 := ⟨gt_at 794 rfl (by decide +kernel), gt_at 792 (by decide +kernel) (by decide +kernel), gt_at 793 (by decide +kernel) (by decide +kernel), gt_at 9 (by decide +kernel) (by decide +kernel), by decide, by decide, by decide +kernel⟩
set_option maxRecDepth 100000 in
theorem mi_X7_aheadOf : MI yX7_aheadOf cX7_aheadOf 4 (some .int) 1 := ⟨gt_at 798 rfl (by decide +kernel), gt_at 797 (by decide +kernel) (by decide +kernel), gt_pr 37 (by decide +kernel) (by decide +kernel), gt_at 9 (by decide +kernel) (by decide +kernel), by decide, by decide, by decide +kernel⟩
set_option maxRecDepth 100000 in
theorem mi_X7_isAhead : MI yX7_isAhead cX7_isAhead 3 (some .boolean) 2 := ⟨gt_at 802 rfl (by decide +kernel), gt_at 801 (by decide +kernel) (by decide +kernel), gt_pr 38 (by decide +kernel) (by decide +kernel), gt_at 9 (by decide +kernel) (by decide +kernel), by decide, by decide, by decide +kernel⟩
set_option maxRecDepth 100000 in
theorem mi_X7_of : MI yX7_of cX7_of 3 (some .int) 2 := ⟨gt_at 806 rfl (by decide +kernel), gt_at 805 (by decide +kernel) (by decide +kernel), gt_pr 39 (by decide +kernel) (by decide +kernel), gt_at 9 (by decide +kernel) (by decide +kernel), by decide, by decide, by decide +kernel⟩
set_option maxRecDepth 100000 in
theorem mi_X7_ranked : MI yX7_ranked cX7_ranked 3 (some .int) 1 := ⟨gt_at 810 rfl (by decide +kernel), gt_at 808 (by decide +kernel) (by decide +kernel), gt_at 809 (by decide +kernel) (by decide +kernel), gt_at 9 (by decide +kernel) (by decide +kernel), by decide, by decide, by decide +kernel⟩
set_option maxRecDepth 100000 in
theorem mi_X7_above : MI yX7_above cX7_above 5 (some .int) 1 := ⟨gt_at 814 rfl (by decide +kernel), gt_at 812 (by decide +kernel) (by decide +kernel), gt_at 813 (by decide +kernel) (by decide +kernel), gt_at 9 (by decide +kernel) (by decide +kernel), by decide, by decide, by decide +kernel⟩
set_option maxRecDepth 100000 in
theorem mi_X7_alike : MI yX7_alike cX7_alike 4 (some .int) 1 := ⟨gt_at 818 rfl (by decide +kernel), gt_at 816 (by decide +kernel) (by decide +kernel), gt_at 817 (by decide +kernel) (by decide +kernel), gt_at 9 (by decide +kernel) (by decide +kernel), by decide, by decide, by decide +kernel⟩
set_option maxRecDepth 100000 in
theorem mi_X7_seats : MI yX7_seats cX7_seats 3 (some .int) 2 := ⟨gt_at 822 rfl (by decide +kernel), gt_at 820 (by decide +kernel) (by decide +kernel), gt_at 821 (by decide +kernel) (by decide +kernel), gt_at 9 (by decide +kernel) (by decide +kernel), by decide, by decide, by decide +kernel⟩
set_option maxRecDepth 100000 in
theorem mi_X7_reserve : MI yX7_reserve cX7_reserve 4 (some .int) 3 := ⟨gt_at 826 rfl (by decide +kernel), gt_at 824 (by decide +kernel) (by decide +kernel), gt_at 825 (by decide +kernel) (by decide +kernel), gt_at 9 (by decide +kernel) (by decide +kernel), by decide, by decide, by decide +kernel⟩
set_option maxRecDepth 100000 in
theorem mi_X7_heir : MI yX7_heir cX7_heir 3 (some .int) 2 := ⟨gt_at 830 rfl (by decide +kernel), gt_at 828 (by decide +kernel) (by decide +kernel), gt_at 829 (by decide +kernel) (by decide +kernel), gt_at 9 (by decide +kernel) (by decide +kernel), by decide, by decide, by decide +kernel⟩
set_option maxRecDepth 100000 in
theorem mi_X7_manner : MI yX7_manner cX7_manner 2 (some .int) 1 := ⟨gt_at 834 rfl (by decide +kernel), gt_at 832 (by decide +kernel) (by decide +kernel), gt_at 833 (by decide +kernel) (by decide +kernel), gt_at 9 (by decide +kernel) (by decide +kernel), by decide, by decide, by decide +kernel⟩
set_option maxRecDepth 100000 in
theorem mi_X7_order : MI yX7_order cX7_order 5 (some .int) 4 := ⟨gt_at 838 rfl (by decide +kernel), gt_at 836 (by decide +kernel) (by decide +kernel), gt_at 837 (by decide +kernel) (by decide +kernel), gt_at 9 (by decide +kernel) (by decide +kernel), by decide, by decide, by decide +kernel⟩
set_option maxRecDepth 100000 in
theorem mi_X7_seat : MI yX7_seat cX7_seat 2 (some .int) 1 := ⟨gt_at 842 rfl (by decide +kernel), gt_at 840 (by decide +kernel) (by decide +kernel), gt_at 841 (by decide +kernel) (by decide +kernel), gt_at 9 (by decide +kernel) (by decide +kernel), by decide, by decide, by decide +kernel⟩
set_option maxRecDepth 100000 in
theorem mi_X7_choose : MI yX7_choose cX7_choose 3 none 0 := ⟨gt_at 846 rfl (by decide +kernel), gt_at 845 (by decide +kernel) (by decide +kernel), gt_pr 40 (by decide +kernel) (by decide +kernel), gt_at 9 (by decide +kernel) (by decide +kernel), by decide, by decide, by decide +kernel⟩
set_option maxRecDepth 100000 in
theorem mi_X7_findFree : MI yX7_findFree cX7_findFree 3 none 0 := ⟨gt_at 850 rfl (by decide +kernel), gt_at 849 (by decide +kernel) (by decide +kernel), gt_pr 41 (by decide +kernel) (by decide +kernel), gt_at 9 (by decide +kernel) (by decide +kernel), by decide, by decide, by decide +kernel⟩
set_option maxRecDepth 100000 in
theorem mi_X7_noted : MI yX7_noted cX7_noted 6 (some .int) 2 := ⟨gt_at 854 rfl (by decide +kernel), gt_at 853 (by decide +kernel) (by decide +kernel), gt_pr 42 (by decide +kernel) (by decide +kernel), gt_at 9 (by decide +kernel) (by decide +kernel), by decide, by decide, by decide +kernel⟩
set_option maxRecDepth 100000 in
theorem mi_X7_atLeastNone : MS yX7_atLeastNone cX7_atLeastNone 1 (some .int) 1 := ⟨gt_at 857 rfl (by decide +kernel), gt_at 856 (by decide +kernel) (by decide +kernel), gt_at 9 (by decide +kernel) (by decide +kernel), by decide, by decide, by decide +kernel⟩
set_option maxRecDepth 100000 in
theorem mi_X7_takeIn : MI yX7_takeIn cX7_takeIn 4 none 1 := ⟨gt_at 861 rfl (by decide +kernel), gt_at 860 (by decide +kernel) (by decide +kernel), gt_pr 43 (by decide +kernel) (by decide +kernel), gt_at 9 (by decide +kernel) (by decide +kernel), by decide, by decide, by decide +kernel⟩
set_option maxRecDepth 100000 in
theorem mi_X7_findCandidates : MI yX7_findCandidates cX7_findCandidates 4 none 1 := ⟨gt_at 865 rfl (by decide +kernel), gt_at 864 (by decide +kernel) (by decide +kernel), gt_pr 44 (by decide +kernel) (by decide +kernel), gt_at 9 (by decide +kernel) (by decide +kernel), by decide, by decide, by decide +kernel⟩
set_option maxRecDepth 100000 in
theorem mi_X7_takesPart : MI yX7_takesPart cX7_takesPart 2 (some .boolean) 1 := ⟨gt_at 869 rfl (by decide +kernel), gt_at 868 (by decide +kernel) (by decide +kernel), gt_pr 45 (by decide +kernel) (by decide +kernel), gt_at 9 (by decide +kernel) (by decide +kernel), by decide, by decide, by decide +kernel⟩
set_option maxRecDepth 100000 in
theorem mi_X7_isCandidate : MI yX7_isCandidate cX7_isCandidate 3 (some .boolean) 2 := ⟨gt_at 873 rfl (by decide +kernel), gt_at 872 (by decide +kernel) (by decide +kernel), gt_pr 46 (by decide +kernel) (by decide +kernel), gt_at 9 (by decide +kernel) (by decide +kernel), by decide, by decide, by decide +kernel⟩
set_option maxRecDepth 100000 in
theorem mi_X7_takeFilling : MI yX7_takeFilling cX7_takeFilling 7 none 2 := ⟨gt_at 877 rfl (by decide +kernel), gt_at 876 (by decide +kernel) (by decide +kernel), gt_pr 47 (by decide +kernel) (by decide +kernel), gt_at 9 (by decide +kernel) (by decide +kernel), by decide, by decide, by decide +kernel⟩
set_option maxRecDepth 100000 in
theorem mi_X7_leaveAll : MI yX7_leaveAll cX7_leaveAll 3 none 1 := ⟨gt_at 881 rfl (by decide +kernel), gt_at 880 (by decide +kernel) (by decide +kernel), gt_pr 48 (by decide +kernel) (by decide +kernel), gt_at 9 (by decide +kernel) (by decide +kernel), by decide, by decide, by decide +kernel⟩
set_option maxRecDepth 100000 in
theorem mi_X7_sumHave : MI yX7_sumHave cX7_sumHave 3 none 0 := ⟨gt_at 885 rfl (by decide +kernel), gt_at 884 (by decide +kernel) (by decide +kernel), gt_pr 49 (by decide +kernel) (by decide +kernel), gt_at 9 (by decide +kernel) (by decide +kernel), by decide, by decide, by decide +kernel⟩
set_option maxRecDepth 100000 in
theorem mi_X7_isIn : MS yX7_isIn cX7_isIn 2 (some .int) 2 := ⟨gt_at 888 rfl (by decide +kernel), gt_at 887 (by decide +kernel) (by decide +kernel), gt_at 9 (by decide +kernel) (by decide +kernel), by decide, by decide, by decide +kernel⟩
set_option maxRecDepth 100000 in
theorem mi_X7_noOthers : MI yX7_noOthers cX7_noOthers 2 none 0 := ⟨gt_at 892 rfl (by decide +kernel), gt_at 891 (by decide +kernel) (by decide +kernel), gt_pr 50 (by decide +kernel) (by decide +kernel), gt_at 9 (by decide +kernel) (by decide +kernel), by decide, by decide, by decide +kernel⟩
set_option maxRecDepth 100000 in
theorem mi_X7_findBehind : MI yX7_findBehind cX7_findBehind 4 none 0 := ⟨gt_at 896 rfl (by decide +kernel), gt_at 895 (by decide +kernel) (by decide +kernel), gt_pr 51 (by decide +kernel) (by decide +kernel), gt_at 9 (by decide +kernel) (by decide +kernel), by decide, by decide, by decide +kernel⟩
set_option maxRecDepth 100000 in
theorem mi_X7_leastCut : MI yX7_leastCut cX7_leastCut 5 (some .int) 1 := ⟨gt_at 900 rfl (by decide +kernel), gt_at 899 (by decide +kernel) (by decide +kernel), gt_pr 52 (by decide +kernel) (by decide +kernel), gt_at 9 (by decide +kernel) (by decide +kernel), by decide, by decide, by decide +kernel⟩
set_option maxRecDepth 100000 in
theorem mi_X7_addOther : MI yX7_addOther cX7_addOther 4 none 2 := ⟨gt_at 904 rfl (by decide +kernel), gt_at 903 (by decide +kernel) (by decide +kernel), gt_pr 53 (by decide +kernel) (by decide +kernel), gt_at 9 (by decide +kernel) (by decide +kernel), by decide, by decide, by decide +kernel⟩
set_option maxRecDepth 100000 in
theorem mi_X7_takeByGroups : MI yX7_takeByGroups cX7_takeByGroups 7 none 2 := ⟨gt_at 908 rfl (by decide +kernel), gt_at 907 (by decide +kernel) (by decide +kernel), gt_pr 54 (by decide +kernel) (by decide +kernel), gt_at 9 (by decide +kernel) (by decide +kernel), by decide, by decide, by decide +kernel⟩
set_option maxRecDepth 100000 in
theorem mi_X7_takeBest : MI yX7_takeBest cX7_takeBest 4 none 1 := ⟨gt_at 912 rfl (by decide +kernel), gt_at 911 (by decide +kernel) (by decide +kernel), gt_pr 55 (by decide +kernel) (by decide +kernel), gt_at 9 (by decide +kernel) (by decide +kernel), by decide, by decide, by decide +kernel⟩
set_option maxRecDepth 100000 in
theorem mi_X7_handOn : MI yX7_handOn cX7_handOn 4 none 1 := ⟨gt_at 916 rfl (by decide +kernel), gt_at 915 (by decide +kernel) (by decide +kernel), gt_pr 56 (by decide +kernel) (by decide +kernel), gt_at 9 (by decide +kernel) (by decide +kernel), by decide, by decide, by decide +kernel⟩
set_option maxRecDepth 100000 in
theorem mi_X7_heirOf : MI yX7_heirOf cX7_heirOf 5 (some .int) 1 := ⟨gt_at 920 rfl (by decide +kernel), gt_at 919 (by decide +kernel) (by decide +kernel), gt_pr 57 (by decide +kernel) (by decide +kernel), gt_at 9 (by decide +kernel) (by decide +kernel), by decide, by decide, by decide +kernel⟩
set_option maxRecDepth 100000 in
theorem mi_X7_bestOf : MI yX7_bestOf cX7_bestOf 4 (some .int) 1 := ⟨gt_at 924 rfl (by decide +kernel), gt_at 923 (by decide +kernel) (by decide +kernel), gt_pr 58 (by decide +kernel) (by decide +kernel), gt_at 9 (by decide +kernel) (by decide +kernel), by decide, by decide, by decide +kernel⟩
set_option maxRecDepth 100000 in
theorem mi_X7_counted : MI yX7_counted cX7_counted 2 (some .int) 1 := ⟨gt_at 928 rfl (by decide +kernel), gt_at 926 (by decide +kernel) (by decide +kernel), gt_at 927 (by decide +kernel) (by decide +kernel), gt_at 9 (by decide +kernel) (by decide +kernel), by decide, by decide, by decide +kernel⟩
set_option maxRecDepth 100000 in
theorem mi_X7_chooseAll : MI yX7_chooseAll cX7_chooseAll 2 none 0 := ⟨gt_at 932 rfl (by decide +kernel), gt_at 931 (by decide +kernel) (by decide +kernel), gt_pr 59 (by decide +kernel) (by decide +kernel), gt_at 9 (by decide +kernel) (by decide +kernel), by decide, by decide, by decide +kernel⟩
set_option maxRecDepth 100000 in
theorem mi_X7_countIn : MI yX7_countIn cX7_countIn 5 none 1 := ⟨gt_at 936 rfl (by decide +kernel), gt_at 935 (by decide +kernel) (by decide +kernel), gt_pr 60 (by decide +kernel) (by decide +kernel), gt_at 9 (by decide +kernel) (by decide +kernel), by decide, by decide, by decide +kernel⟩
set_option maxRecDepth 100000 in
theorem mi_X7_isTakenIn : MI yX7_isTakenIn cX7_isTakenIn 3 (some .boolean) 2 := ⟨gt_at 940 rfl (by decide +kernel), gt_at 939 (by decide +kernel) (by decide +kernel), gt_pr 61 (by decide +kernel) (by decide +kernel), gt_at 9 (by decide +kernel) (by decide +kernel), by decide, by decide, by decide +kernel⟩
set_option maxRecDepth 100000 in
theorem mi_X7_firstGroup : MI yX7_firstGroup cX7_firstGroup 4 (some .int) 2 := ⟨gt_at 944 rfl (by decide +kernel), gt_at 943 (by decide +kernel) (by decide +kernel), gt_pr 62 (by decide +kernel) (by decide +kernel), gt_at 9 (by decide +kernel) (by decide +kernel), by decide, by decide, by decide +kernel⟩
set_option maxRecDepth 100000 in
theorem mi_X7_handed : MI yX7_handed cX7_handed 2 (some .int) 1 := ⟨gt_at 948 rfl (by decide +kernel), gt_at 946 (by decide +kernel) (by decide +kernel), gt_at 947 (by decide +kernel) (by decide +kernel), gt_at 9 (by decide +kernel) (by decide +kernel), by decide, by decide, by decide +kernel⟩
set_option maxRecDepth 100000 in
theorem mi_X7_taken : MI yX7_taken cX7_taken 5 (some .int) 2 := ⟨gt_at 952 rfl (by decide +kernel), gt_at 950 (by decide +kernel) (by decide +kernel), gt_at 951 (by decide +kernel) (by decide +kernel), gt_at 9 (by decide +kernel) (by decide +kernel), by decide, by decide, by decide +kernel⟩
set_option maxRecDepth 100000 in
theorem mi_X7_ofKind : MI yX7_ofKind cX7_ofKind 3 (some .int) 2 := ⟨gt_at 956 rfl (by decide +kernel), gt_at 954 (by decide +kernel) (by decide +kernel), gt_at 955 (by decide +kernel) (by decide +kernel), gt_at 9 (by decide +kernel) (by decide +kernel), by decide, by decide, by decide +kernel⟩
set_option maxRecDepth 100000 in
theorem mi_X7_countedIn : MI yX7_countedIn cX7_countedIn 6 (some .int) 2 := ⟨gt_at 960 rfl (by decide +kernel), gt_at 959 (by decide +kernel) (by decide +kernel), gt_pr 63 (by decide +kernel) (by decide +kernel), gt_at 9 (by decide +kernel) (by decide +kernel), by decide, by decide, by decide +kernel⟩
set_option maxRecDepth 100000 in
theorem mi_X7_worstMark : MI yX7_worstMark cX7_worstMark 4 (some .int) 1 := ⟨gt_at 964 rfl (by decide +kernel), gt_at 963 (by decide +kernel) (by decide +kernel), gt_pr 64 (by decide +kernel) (by decide +kernel), gt_at 9 (by decide +kernel) (by decide +kernel), by decide, by decide, by decide +kernel⟩
set_option maxRecDepth 100000 in
theorem mi_X7_fillOf : MI yX7_fillOf cX7_fillOf 3 (some .int) 1 := ⟨gt_at 968 rfl (by decide +kernel), gt_at 967 (by decide +kernel) (by decide +kernel), gt_pr 65 (by decide +kernel) (by decide +kernel), gt_at 9 (by decide +kernel) (by decide +kernel), by decide, by decide, by decide +kernel⟩
set_option maxRecDepth 100000 in
theorem mi_X7_ways : MI yX7_ways cX7_ways 7 (some .long) 1 := ⟨gt_at 972 rfl (by decide +kernel), gt_at 970 (by decide +kernel) (by decide +kernel), gt_at 971 (by decide +kernel) (by decide +kernel), gt_at 9 (by decide +kernel) (by decide +kernel), by decide, by decide, by decide +kernel⟩
set_option maxRecDepth 100000 in
theorem mi_X7_addWays : MI yX7_addWays cX7_addWays 6 none 2 := ⟨gt_at 977 rfl (by decide +kernel), gt_at 976 (by decide +kernel) (by decide +kernel), gt_pr 66 (by decide +kernel) (by decide +kernel), gt_at 9 (by decide +kernel) (by decide +kernel), by decide, by decide, by decide +kernel⟩
set_option maxRecDepth 100000 in
theorem mi_X7_usedOf : MS yX7_usedOf cX7_usedOf 4 (some .int) 2 := ⟨gt_at 980 rfl (by decide +kernel), gt_at 979 (by decide +kernel) (by decide +kernel), gt_at 9 (by decide +kernel) (by decide +kernel), by decide, by decide, by decide +kernel⟩
set_option maxRecDepth 100000 in
theorem mi_X7_sixes : MS yX7_sixes cX7_sixes 1 (some .int) 1 := ⟨gt_at 983 rfl (by decide +kernel), gt_at 982 (by decide +kernel) (by decide +kernel), gt_at 9 (by decide +kernel) (by decide +kernel), by decide, by decide, by decide +kernel⟩
set_option maxRecDepth 100000 in
theorem mi_X7_by : MI yX7_by cX7_by 4 (some .int) 2 := ⟨gt_at 987 rfl (by decide +kernel), gt_at 985 (by decide +kernel) (by decide +kernel), gt_at 986 (by decide +kernel) (by decide +kernel), gt_at 9 (by decide +kernel) (by decide +kernel), by decide, by decide, by decide +kernel⟩
set_option maxRecDepth 100000 in
theorem mi_X7_chosen : MI yX7_chosen cX7_chosen 3 (some .int) 0 := ⟨gt_at 991 rfl (by decide +kernel), gt_at 990 (by decide +kernel) (by decide +kernel), gt_pr 67 (by decide +kernel) (by decide +kernel), gt_at 9 (by decide +kernel) (by decide +kernel), by decide, by decide, by decide +kernel⟩
set_option maxRecDepth 100000 in
theorem mi_X7_sizeOf : MS yX7_sizeOf cX7_sizeOf 3 (some .int) 1 := ⟨gt_at 994 rfl (by decide +kernel), gt_at 993 (by decide +kernel) (by decide +kernel), gt_at 9 (by decide +kernel) (by decide +kernel), by decide, by decide, by decide +kernel⟩
set_option maxRecDepth 100000 in
theorem mi_X7_marksOf : MI yX7_marksOf cX7_marksOf 4 (some .int) 1 := ⟨gt_at 998 rfl (by decide +kernel), gt_at 997 (by decide +kernel) (by decide +kernel), gt_pr 68 (by decide +kernel) (by decide +kernel), gt_at 9 (by decide +kernel) (by decide +kernel), by decide, by decide, by decide +kernel⟩
set_option maxRecDepth 100000 in
theorem mi_X7_countedInAll : MI yX7_countedInAll cX7_countedInAll 3 (some .int) 0 := ⟨gt_at 1002 rfl (by decide +kernel), gt_at 1001 (by decide +kernel) (by decide +kernel), gt_pr 69 (by decide +kernel) (by decide +kernel), gt_at 9 (by decide +kernel) (by decide +kernel), by decide, by decide, by decide +kernel⟩
set_option maxRecDepth 100000 in
theorem mi_X7_sure : MI yX7_sure cX7_sure 6 (some .int) 1 := ⟨gt_at 1006 rfl (by decide +kernel), gt_at 1004 (by decide +kernel) (by decide +kernel), gt_at 1005 (by decide +kernel) (by decide +kernel), gt_at 9 (by decide +kernel) (by decide +kernel), by decide, by decide, by decide +kernel⟩
set_option maxRecDepth 100000 in
theorem mi_X7_sets : MI yX7_sets cX7_sets 4 (some .boolean) 1 := ⟨gt_at 1010 rfl (by decide +kernel), gt_at 1009 (by decide +kernel) (by decide +kernel), gt_pr 70 (by decide +kernel) (by decide +kernel), gt_at 9 (by decide +kernel) (by decide +kernel), by decide, by decide, by decide +kernel⟩
set_option maxRecDepth 100000 in
theorem mi_X7_threshold : MI yX7_threshold cX7_threshold 2 (some .int) 1 := ⟨gt_at 1014 rfl (by decide +kernel), gt_at 1012 (by decide +kernel) (by decide +kernel), gt_at 1013 (by decide +kernel) (by decide +kernel), gt_at 9 (by decide +kernel) (by decide +kernel), by decide, by decide, by decide +kernel⟩
set_option maxRecDepth 100000 in
theorem mi_X7_thresholdOf : MI yX7_thresholdOf cX7_thresholdOf 5 (some .int) 1 := ⟨gt_at 1018 rfl (by decide +kernel), gt_at 1017 (by decide +kernel) (by decide +kernel), gt_pr 71 (by decide +kernel) (by decide +kernel), gt_at 9 (by decide +kernel) (by decide +kernel), by decide, by decide, by decide +kernel⟩
set_option maxRecDepth 100000 in
theorem mi_X7_isChosen : MI yX7_isChosen cX7_isChosen 2 (some .boolean) 1 := ⟨gt_at 1022 rfl (by decide +kernel), gt_at 1021 (by decide +kernel) (by decide +kernel), gt_pr 72 (by decide +kernel) (by decide +kernel), gt_at 9 (by decide +kernel) (by decide +kernel), by decide, by decide, by decide +kernel⟩
set_option maxRecDepth 100000 in
theorem mi_X7_claim : MI yX7_claim cX7_claim 6 (some .int) 1 := ⟨gt_at 1026 rfl (by decide +kernel), gt_at 1024 (by decide +kernel) (by decide +kernel), gt_at 1025 (by decide +kernel) (by decide +kernel), gt_at 9 (by decide +kernel) (by decide +kernel), by decide, by decide, by decide +kernel⟩
set_option maxRecDepth 100000 in
theorem mi_X7_successor : MI yX7_successor cX7_successor 6 (some .int) 1 := ⟨gt_at 1030 rfl (by decide +kernel), gt_at 1028 (by decide +kernel) (by decide +kernel), gt_at 1029 (by decide +kernel) (by decide +kernel), gt_at 9 (by decide +kernel) (by decide +kernel), by decide, by decide, by decide +kernel⟩
set_option maxRecDepth 100000 in
theorem mi_X7_passed : MI yX7_passed cX7_passed 4 (some .int) 1 := ⟨gt_at 1034 rfl (by decide +kernel), gt_at 1032 (by decide +kernel) (by decide +kernel), gt_at 1033 (by decide +kernel) (by decide +kernel), gt_at 9 (by decide +kernel) (by decide +kernel), by decide, by decide, by decide +kernel⟩
set_option maxRecDepth 100000 in
theorem mi_X7_nearest : MI yX7_nearest cX7_nearest 7 (some .int) 1 := ⟨gt_at 1038 rfl (by decide +kernel), gt_at 1036 (by decide +kernel) (by decide +kernel), gt_at 1037 (by decide +kernel) (by decide +kernel), gt_at 9 (by decide +kernel) (by decide +kernel), by decide, by decide, by decide +kernel⟩
set_option maxRecDepth 100000 in
theorem mi_X7_whoMisses : MI yX7_whoMisses cX7_whoMisses 5 (some .int) 0 := ⟨gt_at 1042 rfl (by decide +kernel), gt_at 1041 (by decide +kernel) (by decide +kernel), gt_pr 73 (by decide +kernel) (by decide +kernel), gt_at 9 (by decide +kernel) (by decide +kernel), by decide, by decide, by decide +kernel⟩
set_option maxRecDepth 100000 in
theorem mi_X7_envy : MI yX7_envy cX7_envy 6 (some .int) 0 := ⟨gt_at 1046 rfl (by decide +kernel), gt_at 1044 (by decide +kernel) (by decide +kernel), gt_at 1045 (by decide +kernel) (by decide +kernel), gt_at 9 (by decide +kernel) (by decide +kernel), by decide, by decide, by decide +kernel⟩
set_option maxRecDepth 100000 in
theorem mi_X7_isAsGood : MI yX7_isAsGood cX7_isAsGood 5 (some .boolean) 3 := ⟨gt_at 1050 rfl (by decide +kernel), gt_at 1049 (by decide +kernel) (by decide +kernel), gt_pr 74 (by decide +kernel) (by decide +kernel), gt_at 9 (by decide +kernel) (by decide +kernel), by decide, by decide, by decide +kernel⟩
set_option maxRecDepth 100000 in
theorem mi_X7_round : MI yX7_round cX7_round 3 (some .int) 0 := ⟨gt_at 1054 rfl (by decide +kernel), gt_at 1052 (by decide +kernel) (by decide +kernel), gt_at 1053 (by decide +kernel) (by decide +kernel), gt_at 9 (by decide +kernel) (by decide +kernel), by decide, by decide, by decide +kernel⟩
set_option maxRecDepth 100000 in
theorem mi_X7_notes : MI yX7_notes cX7_notes 2 none 1 := ⟨gt_at 1058 rfl (by decide +kernel), gt_at 1057 (by decide +kernel) (by decide +kernel), gt_pr 75 (by decide +kernel) (by decide +kernel), gt_at 9 (by decide +kernel) (by decide +kernel), by decide, by decide, by decide +kernel⟩
set_option maxRecDepth 100000 in
theorem mi_X7_answer : MI yX7_answer cX7_answer 4 (some .int) 2 := ⟨gt_at 1062 rfl (by decide +kernel), gt_at 1060 (by decide +kernel) (by decide +kernel), gt_at 1061 (by decide +kernel) (by decide +kernel), gt_at 9 (by decide +kernel) (by decide +kernel), by decide, by decide, by decide +kernel⟩
set_option maxRecDepth 100000 in
theorem mi_X7_again : MI yX7_again cX7_again 2 (some .int) 1 := ⟨gt_at 1066 rfl (by decide +kernel), gt_at 1064 (by decide +kernel) (by decide +kernel), gt_at 1065 (by decide +kernel) (by decide +kernel), gt_at 9 (by decide +kernel) (by decide +kernel), by decide, by decide, by decide +kernel⟩
set_option maxRecDepth 100000 in
theorem mi_X7_note : MI yX7_note cX7_note 3 (some .int) 2 := ⟨gt_at 1070 rfl (by decide +kernel), gt_at 1068 (by decide +kernel) (by decide +kernel), gt_at 1069 (by decide +kernel) (by decide +kernel), gt_at 9 (by decide +kernel) (by decide +kernel), by decide, by decide, by decide +kernel⟩
set_option maxRecDepth 100000 in
theorem mi_X7_many : MI yX7_many cX7_many 2 (some .int) 1 := ⟨gt_at 1074 rfl (by decide +kernel), gt_at 1072 (by decide +kernel) (by decide +kernel), gt_at 1073 (by decide +kernel) (by decide +kernel), gt_at 9 (by decide +kernel) (by decide +kernel), by decide, by decide, by decide +kernel⟩
set_option maxRecDepth 100000 in
theorem mi_X7_standing : MI yX7_standing cX7_standing 5 (some .int) 2 := ⟨gt_at 1078 rfl (by decide +kernel), gt_at 1077 (by decide +kernel) (by decide +kernel), gt_pr 76 (by decide +kernel) (by decide +kernel), gt_at 9 (by decide +kernel) (by decide +kernel), by decide, by decide, by decide +kernel⟩
theorem kc_265 : Cond.constant "java/lang/Integer" 265 (1431655765) ∈ Gt := gt_at 553 (by decide +kernel) (by decide +kernel)
theorem kc_266 : Cond.constant "java/lang/Integer" 266 (858993459) ∈ Gt := gt_at 554 (by decide +kernel) (by decide +kernel)
theorem kc_267 : Cond.constant "java/lang/Integer" 267 (252645135) ∈ Gt := gt_at 555 (by decide +kernel) (by decide +kernel)
theorem kc_190 : Cond.constant "KeptSeats" 190 (65535) ∈ Gt := gt_at 569 (by decide +kernel) (by decide +kernel)
theorem kl_164 : Cond.constantLong "KeptSeats" 164 (-1) ∈ Gt := gt_at 540 (by decide +kernel) (by decide +kernel)
theorem kl_208 : Cond.constantLong "KeptSeatsModel" 208 (-1) ∈ Gt := gt_at 973 (by decide +kernel) (by decide +kernel)
theorem mm_max_2 : Cond.static Lib.Math.max.name ∈ Gt := gt_at 67 (by decide +kernel) (by decide +kernel)
set_option maxRecDepth 100000 in
theorem mm_max_4 : Cond.code Lib.Math.max.name Lib.Math.max.code 2 (some .int) ∈ Gt := gt_at 68 rfl (by decide +kernel)
theorem mm_min_2 : Cond.static Lib.Math.min.name ∈ Gt := gt_at 205 (by decide +kernel) (by decide +kernel)
set_option maxRecDepth 100000 in
theorem mm_min_4 : Cond.code Lib.Math.min.name Lib.Math.min.code 2 (some .int) ∈ Gt := gt_at 206 rfl (by decide +kernel)
theorem mm_3 : Cond.initialized "java/lang/Math" ∈ Gt := gt_at 6 (by decide +kernel) (by decide +kernel)
theorem mm_0_144 : Cond.methodLink RX0 144 Lib.Math.max.name ∈ Gt := gt_at 289 (by decide +kernel) (by decide +kernel)
theorem mm_0_161 : Cond.methodLink RX0 161 Lib.Math.min.name ∈ Gt := gt_at 325 (by decide +kernel) (by decide +kernel)
theorem mm_2_33 : Cond.methodLink RX2 33 Lib.Math.min.name ∈ Gt := gt_at 204 (by decide +kernel) (by decide +kernel)
theorem mm_4_7 : Cond.methodLink RX4 7 Lib.Math.max.name ∈ Gt := gt_at 66 (by decide +kernel) (by decide +kernel)
theorem mm_5_37 : Cond.methodLink RX5 37 Lib.Math.min.name ∈ Gt := gt_at 355 (by decide +kernel) (by decide +kernel)
theorem ic_m1 : Int32.ofInt (-1) = (-1) := by decide
theorem ic_0 : Int32.ofInt 0 = 0 := by decide
theorem ic_1 : Int32.ofInt 1 = 1 := by decide
theorem ic_2 : Int32.ofInt 2 = 2 := by decide
theorem ic_3 : Int32.ofInt 3 = 3 := by decide
theorem ic_4 : Int32.ofInt 4 = 4 := by decide
theorem ic_5 : Int32.ofInt 5 = 5 := by decide
theorem bp_m9 : (Int8.ofInt (-9)).toInt32 = (-9) := by decide
theorem bp_m4 : (Int8.ofInt (-4)).toInt32 = (-4) := by decide
theorem bp_m3 : (Int8.ofInt (-3)).toInt32 = (-3) := by decide
theorem bp_m2 : (Int8.ofInt (-2)).toInt32 = (-2) := by decide
theorem bp_6 : (Int8.ofInt 6).toInt32 = 6 := by decide
theorem bp_7 : (Int8.ofInt 7).toInt32 = 7 := by decide
theorem bp_8 : (Int8.ofInt 8).toInt32 = 8 := by decide
theorem bp_9 : (Int8.ofInt 9).toInt32 = 9 := by decide
theorem bp_10 : (Int8.ofInt 10).toInt32 = 10 := by decide
theorem bp_13 : (Int8.ofInt 13).toInt32 = 13 := by decide
theorem bp_15 : (Int8.ofInt 15).toInt32 = 15 := by decide
theorem bp_16 : (Int8.ofInt 16).toInt32 = 16 := by decide
theorem bp_20 : (Int8.ofInt 20).toInt32 = 20 := by decide
theorem bp_23 : (Int8.ofInt 23).toInt32 = 23 := by decide
theorem bp_24 : (Int8.ofInt 24).toInt32 = 24 := by decide
theorem bp_32 : (Int8.ofInt 32).toInt32 = 32 := by decide
theorem bp_36 : (Int8.ofInt 36).toInt32 = 36 := by decide
theorem bp_48 : (Int8.ofInt 48).toInt32 = 48 := by decide
theorem bp_63 : (Int8.ofInt 63).toInt32 = 63 := by decide
theorem bp_64 : (Int8.ofInt 64).toInt32 = 64 := by decide
theorem bp_80 : (Int8.ofInt 80).toInt32 = 80 := by decide
theorem bp_96 : (Int8.ofInt 96).toInt32 = 96 := by decide
theorem bp_99 : (Int8.ofInt 99).toInt32 = 99 := by decide
theorem bp_112 : (Int8.ofInt 112).toInt32 = 112 := by decide
theorem sp_128 : (Int16.ofInt 128).toInt32 = 128 := by decide
theorem sp_132 : (Int16.ofInt 132).toInt32 = 132 := by decide
theorem sp_148 : (Int16.ofInt 148).toInt32 = 148 := by decide
theorem sp_152 : (Int16.ofInt 152).toInt32 = 152 := by decide
theorem sp_153 : (Int16.ofInt 153).toInt32 = 153 := by decide
theorem sp_154 : (Int16.ofInt 154).toInt32 = 154 := by decide
theorem sp_155 : (Int16.ofInt 155).toInt32 = 155 := by decide
theorem sp_156 : (Int16.ofInt 156).toInt32 = 156 := by decide
theorem sp_157 : (Int16.ofInt 157).toInt32 = 157 := by decide
theorem sp_158 : (Int16.ofInt 158).toInt32 = 158 := by decide
theorem sp_159 : (Int16.ofInt 159).toInt32 = 159 := by decide
theorem sp_216 : (Int16.ofInt 216).toInt32 = 216 := by decide
theorem sp_256 : (Int16.ofInt 256).toInt32 = 256 := by decide
theorem sp_272 : (Int16.ofInt 272).toInt32 = 272 := by decide
theorem sp_999 : (Int16.ofInt 999).toInt32 = 999 := by decide
theorem sp_1000 : (Int16.ofInt 1000).toInt32 = 1000 := by decide
theorem sp_1295 : (Int16.ofInt 1295).toInt32 = 1295 := by decide
theorem sp_1296 : (Int16.ofInt 1296).toInt32 = 1296 := by decide
theorem sp_3816 : (Int16.ofInt 3816).toInt32 = 3816 := by decide
