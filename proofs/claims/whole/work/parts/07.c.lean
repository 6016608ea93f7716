def m_X5_takeNumber : MD := (yX5_takeNumber, cX5_takeNumber, 4, (some .int), 2, 42, 0, 0)
def m_X5_tellsPerson : MD := (yX5_tellsPerson, cX5_tellsPerson, 3, (some .boolean), 6, 247, 0, 0)
def m_X5_tellsLikes : MD := (yX5_tellsLikes, cX5_tellsLikes, 4, (some .boolean), 3, 65, 0, 0)
def m_X5_takeSingle : MD := (yX5_takeSingle, cX5_takeSingle, 4, (some .int), 2, 42, 0, 0)
def m_X5_tellsWed : MD := (yX5_tellsWed, cX5_tellsWed, 4, (some .boolean), 3, 65, 0, 0)
def m_X5_tellsFlour : MD := (yX5_tellsFlour, cX5_tellsFlour, 5, (some .boolean), 2, 42, 0, 0)
def m_X5_tellsBond : MD := (yX5_tellsBond, cX5_tellsBond, 6, (some .boolean), 6, 247, 0, 0)
def m_X5_tellsLine : MD := (yX5_tellsLine, cX5_tellsLine, 3, (some .boolean), 7, 272, 0, 0)
def m_X5_tells : MD := (yX5_tells, cX5_tells, 3, (some .boolean), 8, 294, 0, 0)
def m_X6_begin : MD := (yX6_begin, cX6_begin, 1, none, 0, 0, 0, 0)
def m_X6_addStep : MD := (yX6_addStep, cX6_addStep, 2, none, 0, 0, 0, 0)
def m_X7_tellsSum : MD := (yX7_tellsSum, cX7_tellsSum, 5, (some .boolean), 5, 226, 0, 0)
def mr_X7_tellsAtom (d : Nat) : MD := (yX7_tellsAtom, cX7_tellsAtom, 7, (some .boolean), 6 + d, 250 + 26 * d, 0, 0)
def m_X7_tellsAtom : MD := mr_X7_tellsAtom 30
def mr_X7_tellsCondition (d : Nat) : MD := (yX7_tellsCondition, cX7_tellsCondition, 6, (some .boolean), 6 + d, 250 + 26 * d, 0, 0)
def m_X7_tellsCondition : MD := mr_X7_tellsCondition 30
abbrev RT_gt : Type := (Nat → Int32 → MS → Option (Int32 × MS)) × (Nat → Int32 → MS → Option (Int32 × MS))
def m_X6_addLine : MD := (yX6_addLine, cX6_addLine, 3, none, 0, 0, 0, 0)
def m_X7_tellsLine : MD := (yX7_tellsLine, cX7_tellsLine, 4, (some .boolean), 37, 1055, 0, 0)
def m_X7_tells : MD := (yX7_tells, cX7_tells, 3, (some .boolean), 38, 1078, 0, 0)
def m_X6_become : MD := (yX6_become, cX6_become, 2, none, 4, 200, 0, 0)
def m_X8_gladder : MD := (yX8_gladder, cX8_gladder, 6, (some .int), 4, 93, 0, 0)
def m_X6_consider : MD := (yX6_consider, cX6_consider, 6, none, 2, 46, 0, 0)
def m_X6_joined : MD := (yX6_joined, cX6_joined, 3, (some .int), 0, 0, 0, 0)
def m_X6_isTrue : MD := (yX6_isTrue, cX6_isTrue, 5, (some .boolean), 1, 22, 0, 0)
def m_X6_sum : MD := (yX6_sum, cX6_sum, 4, (some .int), 2, 46, 0, 0)
def m_X6_bindsBy : MD := (yX6_bindsBy, cX6_bindsBy, 6, (some .int), 4, 200, 0, 0)
def m_X6_lastsFor : MD := (yX6_lastsFor, cX6_lastsFor, 6, (some .int), 3, 71, 0, 0)
def m_X6_suspectsBy : MD := (yX6_suspectsBy, cX6_suspectsBy, 4, (some .int), 3, 71, 0, 0)
def m_X1_force : MD := (yX1_force, cX1_force, 6, (some .int), 5, 225, 0, 0)
def m_X1_reach : MD := (yX1_reach, cX1_reach, 5, (some .int), 4, 200, 0, 0)
def m_X1_changes : MD := (yX1_changes, cX1_changes, 10, (some .boolean), 6, 250, 0, 0)
def m_X1_pour : MD := (yX1_pour, cX1_pour, 9, (some .int), 7, 279, 0, 0)
def m_X0_move : MD := (yX0_move, cX0_move, 4, none, 4, 93, 0, 0)
def m_X0_meet : MD := (yX0_meet, cX0_meet, 4, none, 5, 223, 0, 0)
def m_X0_pass : MD := (yX0_pass, cX0_pass, 7, (some .int), 6, 246, 0, 0)
def m_X1_foresee : MD := (yX1_foresee, cX1_foresee, 5, none, 6, 250, 0, 0)
def m_X1_newlyWithin : MD := (yX1_newlyWithin, cX1_newlyWithin, 4, (some .int), 1, 20, 0, 0)
def m_X1_binding : MD := (yX1_binding, cX1_binding, 6, (some .int), 7, 274, 0, 0)
def m_X8_areLovers : MD := (yX8_areLovers, cX8_areLovers, 3, (some .boolean), 5, 118, 0, 0)
def m_X8_firstLovers : MD := (yX8_firstLovers, cX8_firstLovers, 3, (some .int), 6, 140, 0, 0)
def m_X8_manyLovers : MD := (yX8_manyLovers, cX8_manyLovers, 4, (some .int), 6, 140, 0, 0)
def m_X8_wouldLeave : MD := (yX8_wouldLeave, cX8_wouldLeave, 4, (some .boolean), 1, 22, 0, 0)
def m_X8_keepIfSteady : MD := (yX8_keepIfSteady, cX8_keepIfSteady, 3, none, 4, 200, 0, 0)
def mr_X8_place (d : Nat) : MD := (yX8_place, cX8_place, 4, none, 5 + d, 222 + 23 * d, 0, 0)
def m_X8_place : MD := mr_X8_place 30
abbrev RT_gp : Type := (Int32 → Int32 → MS → Option (Int32 × MS))
def m_X8_settle : MD := (yX8_settle, cX8_settle, 2, none, 36, 935, 0, 0)
def mr_X8_greatestFrom (d : Nat) : MD := (yX8_greatestFrom, cX8_greatestFrom, 6, (some .int), 4 + d, 200 + 25 * d, 0, 0)
def m_X8_greatestFrom : MD := mr_X8_greatestFrom 30
abbrev RT_gg : Type := (Int32 → Int32 → MS → Option (Int32))
def m_X8_greatest : MD := (yX8_greatest, cX8_greatest, 1, (some .int), 35, 975, 0, 0)
def m_X2_isTold : MD := (yX2_isTold, cX2_isTold, 2, (some .boolean), 1, 21, 0, 0)
def m_X2_fits : MD := (yX2_fits, cX2_fits, 4, (some .boolean), 1, 20, 0, 0)
def m_X2_add : MD := (yX2_add, cX2_add, 3, none, 0, 0, 0, 0)
def m_X2_weigh : MD := (yX2_weigh, cX2_weigh, 2, (some .boolean), 2, 43, 0, 0)
def m_X2_parting : MD := (yX2_parting, cX2_parting, 5, (some .int), 4, 200, 0, 0)
theorem fk_X5_9 : fk RX5 9 5 0 := ⟨_, _, _, rfl, in_5, by decide, rfl, by decide, gm (by decide +kernel) (by decide +kernel)⟩
theorem cw_X5_75 : cwp RX5 75 m_X9_number 2 := ⟨goodIn_of _ (by decide +kernel), by decide +kernel, by decide +kernel, by decide +kernel⟩
theorem cw_X5_44 : cwp RX5 44 m_X9_advance 0 := ⟨goodIn_of _ (by decide +kernel), by decide +kernel, by decide +kernel, by decide +kernel⟩
theorem cw_X5_80 : cwp RX5 80 m_X9_skipWord 1 := ⟨goodIn_of _ (by decide +kernel), by decide +kernel, by decide +kernel, by decide +kernel⟩
theorem cw_X5_59 : cwp RX5 59 m_X5_takeNumber 2 := ⟨goodIn_of _ (by decide +kernel), by decide +kernel, by decide +kernel, by decide +kernel⟩
theorem cw_X5_84 : cwp RX5 84 m_X4_enter 1 := ⟨goodIn_of _ (by decide +kernel), by decide +kernel, by decide +kernel, by decide +kernel⟩
theorem fk_X5_38 : fk RX5 38 4 0 := ⟨_, _, _, rfl, in_4, by decide, rfl, by decide, gm (by decide +kernel) (by decide +kernel)⟩
theorem fk_X5_92 : fk RX5 92 4 12 := ⟨_, _, _, rfl, in_4, by decide, rfl, by decide, gm (by decide +kernel) (by decide +kernel)⟩
theorem fk_X5_96 : fk RX5 96 9 0 := ⟨_, _, _, rfl, in_9, by decide, rfl, by decide, gm (by decide +kernel) (by decide +kernel)⟩
theorem fk_X5_99 : fk RX5 99 9 2 := ⟨_, _, _, rfl, in_9, by decide, rfl, by decide, gm (by decide +kernel) (by decide +kernel)⟩
theorem cw_X5_88 : cwp RX5 88 m_X9_isFigures 1 := ⟨goodIn_of _ (by decide +kernel), by decide +kernel, by decide +kernel, by decide +kernel⟩
theorem fk_X5_110 : fk RX5 110 4 9 := ⟨_, _, _, rfl, in_4, by decide, rfl, by decide, gm (by decide +kernel) (by decide +kernel)⟩
theorem cw_X5_102 : cwp RX5 102 m_X5_takeSingle 2 := ⟨goodIn_of _ (by decide +kernel), by decide +kernel, by decide +kernel, by decide +kernel⟩
theorem cw_X5_106 : cwp RX5 106 m_X4_marry 2 := ⟨goodIn_of _ (by decide +kernel), by decide +kernel, by decide +kernel, by decide +kernel⟩
theorem fk_X5_116 : fk RX5 116 9 3 := ⟨_, _, _, rfl, in_9, by decide, rfl, by decide, gm (by decide +kernel) (by decide +kernel)⟩
theorem fp_X5_119 : fp RX5 119 4 2 .int := ⟨_, _, _, tyX4, rfl, in_4, by decide, rfl, by decide, gm (by decide +kernel) (by decide +kernel), rfl, by decide +kernel, tyX4_ok, nmX4⟩
theorem cw_X5_113 : cwp RX5 113 m_X9_isWord 0 := ⟨goodIn_of _ (by decide +kernel), by decide +kernel, by decide +kernel, by decide +kernel⟩
theorem cw_X5_124 : cwp RX5 124 m_X4_tie 4 := ⟨goodIn_of _ (by decide +kernel), by decide +kernel, by decide +kernel, by decide +kernel⟩
theorem cw_X5_47 : cwp RX5 47 m_X5_tellsPerson 1 := ⟨goodIn_of _ (by decide +kernel), by decide +kernel, by decide +kernel, by decide +kernel⟩
theorem cw_X5_50 : cwp RX5 50 m_X5_tellsLikes 1 := ⟨goodIn_of _ (by decide +kernel), by decide +kernel, by decide +kernel, by decide +kernel⟩
theorem cw_X5_53 : cwp RX5 53 m_X5_tellsWed 1 := ⟨goodIn_of _ (by decide +kernel), by decide +kernel, by decide +kernel, by decide +kernel⟩
theorem cw_X5_56 : cwp RX5 56 m_X5_tellsFlour 1 := ⟨goodIn_of _ (by decide +kernel), by decide +kernel, by decide +kernel, by decide +kernel⟩
theorem fp_X5_63 : fp RX5 63 4 3 .int := ⟨_, _, _, tyX4, rfl, in_4, by decide, rfl, by decide, gm (by decide +kernel) (by decide +kernel), rfl, by decide +kernel, tyX4_ok, nmX4⟩
theorem fk_X5_63 : fk RX5 63 4 3 := ⟨_, _, _, rfl, in_4, by decide, rfl, by decide, gm (by decide +kernel) (by decide +kernel)⟩
theorem fp_X5_66 : fp RX5 66 4 4 .int := ⟨_, _, _, tyX4, rfl, in_4, by decide, rfl, by decide, gm (by decide +kernel) (by decide +kernel), rfl, by decide +kernel, tyX4_ok, nmX4⟩
theorem fk_X5_66 : fk RX5 66 4 4 := ⟨_, _, _, rfl, in_4, by decide, rfl, by decide, gm (by decide +kernel) (by decide +kernel)⟩
theorem cw_X5_69 : cwp RX5 69 m_X5_tellsBond 1 := ⟨goodIn_of _ (by decide +kernel), by decide +kernel, by decide +kernel, by decide +kernel⟩
theorem fp_X5_72 : fp RX5 72 4 5 .int := ⟨_, _, _, tyX4, rfl, in_4, by decide, rfl, by decide, gm (by decide +kernel) (by decide +kernel), rfl, by decide +kernel, tyX4_ok, nmX4⟩
theorem fk_X5_72 : fk RX5 72 4 5 := ⟨_, _, _, rfl, in_4, by decide, rfl, by decide, gm (by decide +kernel) (by decide +kernel)⟩
theorem cw_X5_34 : cwp RX5 34 m_X9_wordAmong 1 := ⟨goodIn_of _ (by decide +kernel), by decide +kernel, by decide +kernel, by decide +kernel⟩
theorem cw_X5_24 : cwp RX5 24 m_X5_tellsLine 1 := ⟨goodIn_of _ (by decide +kernel), by decide +kernel, by decide +kernel, by decide +kernel⟩
theorem cw_X5_20 : cwp RX5 20 m_X9_isOver 0 := ⟨goodIn_of _ (by decide +kernel), by decide +kernel, by decide +kernel, by decide +kernel⟩
theorem cw_X5_28 : cwp RX5 28 m_X9_skipSign 1 := ⟨goodIn_of _ (by decide +kernel), by decide +kernel, by decide +kernel, by decide +kernel⟩
theorem cw_X5_15 : cwp RX5 15 m_X9_begin 0 := ⟨goodIn_of _ (by decide +kernel), by decide +kernel, by decide +kernel, by decide +kernel⟩
theorem fp_X6_9 : fp RX6 9 6 0 .int := ⟨_, _, _, tyX6, rfl, in_6, by decide, rfl, by decide, gm (by decide +kernel) (by decide +kernel), rfl, by decide +kernel, tyX6_ok, nmX6⟩
theorem fp_X6_34 : fp RX6 34 6 1 .int := ⟨_, _, _, tyX6, rfl, in_6, by decide, rfl, by decide, gm (by decide +kernel) (by decide +kernel), rfl, by decide +kernel, tyX6_ok, nmX6⟩
theorem fk_X6_34 : fk RX6 34 6 1 := ⟨_, _, _, rfl, in_6, by decide, rfl, by decide, gm (by decide +kernel) (by decide +kernel)⟩
theorem fk_X6_25 : fk RX6 25 6 5 := ⟨_, _, _, rfl, in_6, by decide, rfl, by decide, gm (by decide +kernel) (by decide +kernel)⟩
theorem fk_X7_9 : fk RX7 9 7 0 := ⟨_, _, _, rfl, in_7, by decide, rfl, by decide, gm (by decide +kernel) (by decide +kernel)⟩
theorem cw_X7_75 : cwp RX7 75 m_X9_isSign 1 := ⟨goodIn_of _ (by decide +kernel), by decide +kernel, by decide +kernel, by decide +kernel⟩
theorem cw_X7_41 : cwp RX7 41 m_X9_advance 0 := ⟨goodIn_of _ (by decide +kernel), by decide +kernel, by decide +kernel, by decide +kernel⟩
theorem cw_X7_65 : cwp RX7 65 m_X6_addStep 1 := ⟨goodIn_of _ (by decide +kernel), by decide +kernel, by decide +kernel, by decide +kernel⟩
theorem cw_X7_44 : cwp RX7 44 m_X9_number 2 := ⟨goodIn_of _ (by decide +kernel), by decide +kernel, by decide +kernel, by decide +kernel⟩
theorem cw_X7_37 : cwp RX7 37 m_X9_wordAmong 1 := ⟨goodIn_of _ (by decide +kernel), by decide +kernel, by decide +kernel, by decide +kernel⟩
theorem cw_X7_80 : cwp RX7 80 m_X7_tellsSum 1 := ⟨goodIn_of _ (by decide +kernel), by decide +kernel, by decide +kernel, by decide +kernel⟩
theorem cw_X7_62 : cwp RX7 62 m_X7_tellsAtom 2 := ⟨goodIn_of _ (by decide +kernel), by decide +kernel, by decide +kernel, by decide +kernel⟩
theorem cw_X7_54 : cwp RX7 54 m_X7_tellsCondition 2 := ⟨goodIn_of _ (by decide +kernel), by decide +kernel, by decide +kernel, by decide +kernel⟩
theorem cw_X7_31 : cwp RX7 31 m_X9_skipSign 1 := ⟨goodIn_of _ (by decide +kernel), by decide +kernel, by decide +kernel, by decide +kernel⟩
theorem cw_X7_50 : cwp RX7 50 m_X9_skipWord 1 := ⟨goodIn_of _ (by decide +kernel), by decide +kernel, by decide +kernel, by decide +kernel⟩
theorem fk_X6_9 : fk RX6 9 6 0 := ⟨_, _, _, rfl, in_6, by decide, rfl, by decide, gm (by decide +kernel) (by decide +kernel)⟩
theorem fk_X6_15 : fk RX6 15 6 2 := ⟨_, _, _, rfl, in_6, by decide, rfl, by decide, gm (by decide +kernel) (by decide +kernel)⟩
theorem fk_X6_19 : fk RX6 19 6 3 := ⟨_, _, _, rfl, in_6, by decide, rfl, by decide, gm (by decide +kernel) (by decide +kernel)⟩
theorem fk_X6_22 : fk RX6 22 6 4 := ⟨_, _, _, rfl, in_6, by decide, rfl, by decide, gm (by decide +kernel) (by decide +kernel)⟩
theorem cw_X7_58 : cwp RX7 58 m_X6_addLine 2 := ⟨goodIn_of _ (by decide +kernel), by decide +kernel, by decide +kernel, by decide +kernel⟩
theorem cw_X7_27 : cwp RX7 27 m_X7_tellsLine 1 := ⟨goodIn_of _ (by decide +kernel), by decide +kernel, by decide +kernel, by decide +kernel⟩
theorem cw_X7_23 : cwp RX7 23 m_X9_isOver 0 := ⟨goodIn_of _ (by decide +kernel), by decide +kernel, by decide +kernel, by decide +kernel⟩
theorem cw_X7_15 : cwp RX7 15 m_X6_begin 0 := ⟨goodIn_of _ (by decide +kernel), by decide +kernel, by decide +kernel, by decide +kernel⟩
theorem cw_X7_20 : cwp RX7 20 m_X9_begin 0 := ⟨goodIn_of _ (by decide +kernel), by decide +kernel, by decide +kernel, by decide +kernel⟩
theorem cpw_X6_37 : Cond.methodLink RX6 37 arraycopyName ∈ gtb ∧ Cond.native arraycopyName ∈ gtb ∧ Cond.static arraycopyName ∈ gtb ∧ Cond.initialized "java/lang/System" ∈ gtb := ⟨gm (by decide +kernel) (by decide +kernel), gm (by decide +kernel) (by decide +kernel), gm (by decide +kernel) (by decide +kernel), gm (by decide +kernel) (by decide +kernel)⟩
theorem fk_X8_18 : fk RX8 18 8 0 := ⟨_, _, _, rfl, in_8, by decide, rfl, by decide, gm (by decide +kernel) (by decide +kernel)⟩
theorem fk_X8_32 : fk RX8 32 4 0 := ⟨_, _, _, rfl, in_4, by decide, rfl, by decide, gm (by decide +kernel) (by decide +kernel)⟩
theorem cw_X8_28 : cwp RX8 28 m_X4_likingOf 2 := ⟨goodIn_of _ (by decide +kernel), by decide +kernel, by decide +kernel, by decide +kernel⟩
theorem cw_X8_22 : cwp RX8 22 m_X4_closest 1 := ⟨goodIn_of _ (by decide +kernel), by decide +kernel, by decide +kernel, by decide +kernel⟩
theorem fk_X6_28 : fk RX6 28 6 6 := ⟨_, _, _, rfl, in_6, by decide, rfl, by decide, gm (by decide +kernel) (by decide +kernel)⟩
theorem cw_X6_74 : cwp RX6 74 m_X4_holds 2 := ⟨goodIn_of _ (by decide +kernel), by decide +kernel, by decide +kernel, by decide +kernel⟩
theorem cw_X6_65 : cwp RX6 65 m_X4_likingOf 2 := ⟨goodIn_of _ (by decide +kernel), by decide +kernel, by decide +kernel, by decide +kernel⟩
theorem fk_X6_68 : fk RX6 68 4 5 := ⟨_, _, _, rfl, in_4, by decide, rfl, by decide, gm (by decide +kernel) (by decide +kernel)⟩
theorem fk_X6_71 : fk RX6 71 4 9 := ⟨_, _, _, rfl, in_4, by decide, rfl, by decide, gm (by decide +kernel) (by decide +kernel)⟩
theorem fk_X6_31 : fk RX6 31 6 7 := ⟨_, _, _, rfl, in_6, by decide, rfl, by decide, gm (by decide +kernel) (by decide +kernel)⟩
theorem cs_X6_82 : csp RX6 82 m_X6_joined 3 := ⟨goodIn_of _ (by decide +kernel), by decide +kernel, by decide +kernel, by decide +kernel⟩
theorem cw_X6_78 : cwp RX6 78 m_X6_isTrue 1 := ⟨goodIn_of _ (by decide +kernel), by decide +kernel, by decide +kernel, by decide +kernel⟩
theorem cw_X6_43 : cwp RX6 43 m_X6_consider 5 := ⟨goodIn_of _ (by decide +kernel), by decide +kernel, by decide +kernel, by decide +kernel⟩
theorem fk_X6_47 : fk RX6 47 4 3 := ⟨_, _, _, rfl, in_4, by decide, rfl, by decide, gm (by decide +kernel) (by decide +kernel)⟩
theorem cw_X6_52 : cwp RX6 52 m_X6_sum 1 := ⟨goodIn_of _ (by decide +kernel), by decide +kernel, by decide +kernel, by decide +kernel⟩
theorem mw_X6_56 : Cond.methodLink RX6 56 Lib.Math.min.name ∈ gtb ∧ Cond.static Lib.Math.min.name ∈ gtb ∧ Cond.initialized "java/lang/Math" ∈ gtb ∧ Cond.code Lib.Math.min.name Lib.Math.min.code 2 (some .int) ∈ gtb := ⟨gm (by decide +kernel) (by decide +kernel), math_min⟩
theorem fk_X6_62 : fk RX6 62 4 4 := ⟨_, _, _, rfl, in_4, by decide, rfl, by decide, gm (by decide +kernel) (by decide +kernel)⟩
theorem fk_X1_19 : fk RX1 19 1 1 := ⟨_, _, _, rfl, in_1, by decide, rfl, by decide, gm (by decide +kernel) (by decide +kernel)⟩
theorem fk_X1_15 : fk RX1 15 1 0 := ⟨_, _, _, rfl, in_1, by decide, rfl, by decide, gm (by decide +kernel) (by decide +kernel)⟩
theorem cw_X1_62 : cwp RX1 62 m_X6_bindsBy 5 := ⟨goodIn_of _ (by decide +kernel), by decide +kernel, by decide +kernel, by decide +kernel⟩
theorem mw_X1_68 : Cond.methodLink RX1 68 Lib.Math.min.name ∈ gtb ∧ Cond.static Lib.Math.min.name ∈ gtb ∧ Cond.initialized "java/lang/Math" ∈ gtb ∧ Cond.code Lib.Math.min.name Lib.Math.min.code 2 (some .int) ∈ gtb := ⟨gm (by decide +kernel) (by decide +kernel), math_min⟩
theorem fk_X1_71 : fk RX1 71 4 5 := ⟨_, _, _, rfl, in_4, by decide, rfl, by decide, gm (by decide +kernel) (by decide +kernel)⟩
theorem cw_X1_74 : cwp RX1 74 m_X6_lastsFor 5 := ⟨goodIn_of _ (by decide +kernel), by decide +kernel, by decide +kernel, by decide +kernel⟩
theorem cw_X1_39 : cwp RX1 39 m_X1_force 4 := ⟨goodIn_of _ (by decide +kernel), by decide +kernel, by decide +kernel, by decide +kernel⟩
theorem cw_X1_43 : cwp RX1 43 m_X1_reach 4 := ⟨goodIn_of _ (by decide +kernel), by decide +kernel, by decide +kernel, by decide +kernel⟩
theorem cw_X1_46 : cwp RX1 46 m_X4_held 2 := ⟨goodIn_of _ (by decide +kernel), by decide +kernel, by decide +kernel, by decide +kernel⟩
theorem cw_X1_50 : cwp RX1 50 m_X4_heldTill 2 := ⟨goodIn_of _ (by decide +kernel), by decide +kernel, by decide +kernel, by decide +kernel⟩
theorem mw_X1_53 : Cond.methodLink RX1 53 Lib.Math.max.name ∈ gtb ∧ Cond.static Lib.Math.max.name ∈ gtb ∧ Cond.initialized "java/lang/Math" ∈ gtb ∧ Cond.code Lib.Math.max.name Lib.Math.max.code 2 (some .int) ∈ gtb := ⟨gm (by decide +kernel) (by decide +kernel), math_max⟩
theorem cw_X1_58 : cwp RX1 58 m_X4_tie 4 := ⟨goodIn_of _ (by decide +kernel), by decide +kernel, by decide +kernel, by decide +kernel⟩
theorem fk_X1_29 : fk RX1 29 4 0 := ⟨_, _, _, rfl, in_4, by decide, rfl, by decide, gm (by decide +kernel) (by decide +kernel)⟩
theorem cw_X1_35 : cwp RX1 35 m_X1_changes 5 := ⟨goodIn_of _ (by decide +kernel), by decide +kernel, by decide +kernel, by decide +kernel⟩
theorem cs_X1_23 : csp RX1 23 m_J6_bitCount_0f7a4 1 := ⟨goodIn_of _ (by decide +kernel), by decide +kernel, by decide +kernel, by decide +kernel⟩
theorem fk_X0_48 : fk RX0 48 4 8 := ⟨_, _, _, rfl, in_4, by decide, rfl, by decide, gm (by decide +kernel) (by decide +kernel)⟩
theorem fk_X0_34 : fk RX0 34 4 0 := ⟨_, _, _, rfl, in_4, by decide, rfl, by decide, gm (by decide +kernel) (by decide +kernel)⟩
theorem cw_X0_37 : cwp RX0 37 m_X4_closest 1 := ⟨goodIn_of _ (by decide +kernel), by decide +kernel, by decide +kernel, by decide +kernel⟩
theorem cw_X0_41 : cwp RX0 41 m_X4_draw 0 := ⟨goodIn_of _ (by decide +kernel), by decide +kernel, by decide +kernel, by decide +kernel⟩
theorem cw_X0_45 : cwp RX0 45 m_X4_held 2 := ⟨goodIn_of _ (by decide +kernel), by decide +kernel, by decide +kernel, by decide +kernel⟩
theorem fk_X0_52 : fk RX0 52 4 11 := ⟨_, _, _, rfl, in_4, by decide, rfl, by decide, gm (by decide +kernel) (by decide +kernel)⟩
theorem fk_X0_55 : fk RX0 55 4 2 := ⟨_, _, _, rfl, in_4, by decide, rfl, by decide, gm (by decide +kernel) (by decide +kernel)⟩
theorem cw_X0_58 : cwp RX0 58 m_X4_isSecret 2 := ⟨goodIn_of _ (by decide +kernel), by decide +kernel, by decide +kernel, by decide +kernel⟩
theorem cw_X0_62 : cwp RX0 62 m_X6_suspectsBy 3 := ⟨goodIn_of _ (by decide +kernel), by decide +kernel, by decide +kernel, by decide +kernel⟩
theorem cw_X0_68 : cwp RX0 68 m_X4_leaveFootprint 3 := ⟨goodIn_of _ (by decide +kernel), by decide +kernel, by decide +kernel, by decide +kernel⟩
theorem fk_X0_9 : fk RX0 9 4 7 := ⟨_, _, _, rfl, in_4, by decide, rfl, by decide, gm (by decide +kernel) (by decide +kernel)⟩
theorem cs_X0_15 : csp RX0 15 m_X0_move 2 := ⟨goodIn_of _ (by decide +kernel), by decide +kernel, by decide +kernel, by decide +kernel⟩
theorem cs_X0_21 : csp RX0 21 m_X0_meet 2 := ⟨goodIn_of _ (by decide +kernel), by decide +kernel, by decide +kernel, by decide +kernel⟩
theorem fk_X0_25 : fk RX0 25 4 5 := ⟨_, _, _, rfl, in_4, by decide, rfl, by decide, gm (by decide +kernel) (by decide +kernel)⟩
theorem mw_X0_28 : Cond.methodLink RX0 28 Lib.Math.min.name ∈ gtb ∧ Cond.static Lib.Math.min.name ∈ gtb ∧ Cond.initialized "java/lang/Math" ∈ gtb ∧ Cond.code Lib.Math.min.name Lib.Math.min.code 2 (some .int) ∈ gtb := ⟨gm (by decide +kernel) (by decide +kernel), math_min⟩
theorem fp_X0_25 : fp RX0 25 4 5 .int := ⟨_, _, _, tyX4, rfl, in_4, by decide, rfl, by decide, gm (by decide +kernel) (by decide +kernel), rfl, by decide +kernel, tyX4_ok, nmX4⟩
theorem cw_X1_88 : cwp RX1 88 m_X4_holds 2 := ⟨goodIn_of _ (by decide +kernel), by decide +kernel, by decide +kernel, by decide +kernel⟩
theorem fk_X1_9 : fk RX1 9 1 2 := ⟨_, _, _, rfl, in_1, by decide, rfl, by decide, gm (by decide +kernel) (by decide +kernel)⟩
theorem cw_X1_81 : cwp RX1 81 m_X4_everybody 0 := ⟨goodIn_of _ (by decide +kernel), by decide +kernel, by decide +kernel, by decide +kernel⟩
theorem cw_X1_85 : cwp RX1 85 m_X1_newlyWithin 1 := ⟨goodIn_of _ (by decide +kernel), by decide +kernel, by decide +kernel, by decide +kernel⟩
theorem cw_X1_77 : cwp RX1 77 m_X1_foresee 2 := ⟨goodIn_of _ (by decide +kernel), by decide +kernel, by decide +kernel, by decide +kernel⟩
theorem cw_X8_36 : cwp RX8 36 m_X8_gladder 1 := ⟨goodIn_of _ (by decide +kernel), by decide +kernel, by decide +kernel, by decide +kernel⟩
theorem cw_X8_39 : cwp RX8 39 m_X8_areLovers 2 := ⟨goodIn_of _ (by decide +kernel), by decide +kernel, by decide +kernel, by decide +kernel⟩
theorem fk_X8_9 : fk RX8 9 8 1 := ⟨_, _, _, rfl, in_8, by decide, rfl, by decide, gm (by decide +kernel) (by decide +kernel)⟩
theorem fk_X8_43 : fk RX8 43 8 3 := ⟨_, _, _, rfl, in_8, by decide, rfl, by decide, gm (by decide +kernel) (by decide +kernel)⟩
theorem fp_X8_43 : fp RX8 43 8 3 .int := ⟨_, _, _, tyX8, rfl, in_8, by decide, rfl, by decide, gm (by decide +kernel) (by decide +kernel), rfl, by decide +kernel, tyX8_ok, nmX8⟩
theorem cw_X8_53 : cwp RX8 53 m_X8_wouldLeave 2 := ⟨goodIn_of _ (by decide +kernel), by decide +kernel, by decide +kernel, by decide +kernel⟩
theorem fk_X8_15 : fk RX8 15 8 2 := ⟨_, _, _, rfl, in_8, by decide, rfl, by decide, gm (by decide +kernel) (by decide +kernel)⟩
theorem cpw_X8_56 : Cond.methodLink RX8 56 arraycopyName ∈ gtb ∧ Cond.native arraycopyName ∈ gtb ∧ Cond.static arraycopyName ∈ gtb ∧ Cond.initialized "java/lang/System" ∈ gtb := ⟨gm (by decide +kernel) (by decide +kernel), gm (by decide +kernel) (by decide +kernel), gm (by decide +kernel) (by decide +kernel), gm (by decide +kernel) (by decide +kernel)⟩
theorem cw_X8_46 : cwp RX8 46 m_X8_place 2 := ⟨goodIn_of _ (by decide +kernel), by decide +kernel, by decide +kernel, by decide +kernel⟩
theorem cw_X8_50 : cwp RX8 50 m_X8_keepIfSteady 0 := ⟨goodIn_of _ (by decide +kernel), by decide +kernel, by decide +kernel, by decide +kernel⟩
theorem cw_X8_66 : cwp RX8 66 m_X8_greatestFrom 2 := ⟨goodIn_of _ (by decide +kernel), by decide +kernel, by decide +kernel, by decide +kernel⟩
theorem mw_X8_69 : Cond.methodLink RX8 69 Lib.Math.max.name ∈ gtb ∧ Cond.static Lib.Math.max.name ∈ gtb ∧ Cond.initialized "java/lang/Math" ∈ gtb ∧ Cond.code Lib.Math.max.name Lib.Math.max.code 2 (some .int) ∈ gtb := ⟨gm (by decide +kernel) (by decide +kernel), math_max⟩
theorem cw_X8_62 : cwp RX8 62 m_X4_everybody 0 := ⟨goodIn_of _ (by decide +kernel), by decide +kernel, by decide +kernel, by decide +kernel⟩
theorem fk_X2_19 : fk RX2 19 2 1 := ⟨_, _, _, rfl, in_2, by decide, rfl, by decide, gm (by decide +kernel) (by decide +kernel)⟩
theorem fk_X2_48 : fk RX2 48 9 1 := ⟨_, _, _, rfl, in_9, by decide, rfl, by decide, gm (by decide +kernel) (by decide +kernel)⟩
theorem fk_X2_53 : fk RX2 53 9 0 := ⟨_, _, _, rfl, in_9, by decide, rfl, by decide, gm (by decide +kernel) (by decide +kernel)⟩
theorem fk_X2_15 : fk RX2 15 2 0 := ⟨_, _, _, rfl, in_2, by decide, rfl, by decide, gm (by decide +kernel) (by decide +kernel)⟩
theorem cw_X2_56 : cwp RX2 56 m_X4_has 1 := ⟨goodIn_of _ (by decide +kernel), by decide +kernel, by decide +kernel, by decide +kernel⟩
theorem cs_X2_59 : csp RX2 59 m_J6_bitCount_0f7a4 1 := ⟨goodIn_of _ (by decide +kernel), by decide +kernel, by decide +kernel, by decide +kernel⟩
theorem fk_X2_65 : fk RX2 65 4 0 := ⟨_, _, _, rfl, in_4, by decide, rfl, by decide, gm (by decide +kernel) (by decide +kernel)⟩
theorem fk_X2_9 : fk RX2 9 2 2 := ⟨_, _, _, rfl, in_2, by decide, rfl, by decide, gm (by decide +kernel) (by decide +kernel)⟩
theorem fk_X2_27 : fk RX2 27 2 3 := ⟨_, _, _, rfl, in_2, by decide, rfl, by decide, gm (by decide +kernel) (by decide +kernel)⟩
theorem fp_X2_27 : fp RX2 27 2 3 .int := ⟨_, _, _, tyX2, rfl, in_2, by decide, rfl, by decide, gm (by decide +kernel) (by decide +kernel), rfl, by decide +kernel, tyX2_ok, nmX2⟩
theorem fk_X2_37 : fk RX2 37 2 4 := ⟨_, _, _, rfl, in_2, by decide, rfl, by decide, gm (by decide +kernel) (by decide +kernel)⟩
theorem fp_X2_37 : fp RX2 37 2 4 .int := ⟨_, _, _, tyX2, rfl, in_2, by decide, rfl, by decide, gm (by decide +kernel) (by decide +kernel), rfl, by decide +kernel, tyX2_ok, nmX2⟩
theorem cw_X2_31 : cwp RX2 31 m_X4_everybody 0 := ⟨goodIn_of _ (by decide +kernel), by decide +kernel, by decide +kernel, by decide +kernel⟩
theorem cw_X2_40 : cwp RX2 40 m_X2_fits 1 := ⟨goodIn_of _ (by decide +kernel), by decide +kernel, by decide +kernel, by decide +kernel⟩
theorem cw_X2_44 : cwp RX2 44 m_X2_add 1 := ⟨goodIn_of _ (by decide +kernel), by decide +kernel, by decide +kernel, by decide +kernel⟩
theorem cw_X2_23 : cwp RX2 23 m_X2_isTold 0 := ⟨goodIn_of _ (by decide +kernel), by decide +kernel, by decide +kernel, by decide +kernel⟩
theorem mw_X2_68 : Cond.methodLink RX2 68 Lib.Math.max.name ∈ gtb ∧ Cond.static Lib.Math.max.name ∈ gtb ∧ Cond.initialized "java/lang/Math" ∈ gtb ∧ Cond.code Lib.Math.max.name Lib.Math.max.code 2 (some .int) ∈ gtb := ⟨gm (by decide +kernel) (by decide +kernel), math_max⟩
def J_X5_takeNumber_22 (n : Nat) (v3 : Int32) (σ : MS) : Option (Int32 × MS) := some (v3, σ)
def f_X5_takeNumber (n : Nat) (p1 : Int32) (p2 : Int32) (σ : MS) : Option (Int32 × MS) := ((f_X9_number n p1 p2 σ).bind (fun q6 => (if q6 = (-1 : Int32) then J_X5_takeNumber_22 n q6 σ else ((f_X9_advance n  σ).bind (fun q19 => J_X5_takeNumber_22 n q6 q19.2)))))
set_option maxRecDepth 20000 in
set_option maxHeartbeats 2000000 in
theorem c_X5_takeNumber (w : TG) (n : Nat) (p1 : Int32) (p2 : Int32) (σ : MS) : MC m_X5_takeNumber w [.ref (wB w + 51), .int p1, .int p2] σ (f_X5_takeNumber n p1 p2 σ) := by
  refine V_meth (by decide +kernel) (Nat.le_of_ble_eq_true rfl) (by intro v hv; simp only [List.mem_cons, List.not_mem_nil, or_false] at hv; rcases hv with rfl | rfl | rfl <;> rfl) (fun g x => ?_)
  show VV m_X5_takeNumber w g 0 0 (QM m_X5_takeNumber w g x) (fun b : Int32 × MS => b = x) 0 [some (.ref (wB w + 51)), some (.int p1), some (.int p2), none] [] σ (f_X5_takeNumber n p1 p2 σ)
  have hJ22 : ∀ (v3 : Int32) (σ : MS), VV m_X5_takeNumber w g 0 0 (QM m_X5_takeNumber w g x) (fun b : Int32 × MS => b = x) 22 [none, none, none, some (.int v3)] [] σ (J_X5_takeNumber_22 n v3 σ) := by
    intro v3 σ
    refine V_iload_n (pc := 22) dX5_takeNumber_22 rfl rfl ?_
    exact V_ireti (pc := 23) dX5_takeNumber_23 rfl (hk := fun h => h)
  refine V_aload_n (pc := 0) dX5_takeNumber_0 rfl rfl ?_
  refine V_getr (pc := 1) (t := 1) fk_X5_9 rfl dX5_takeNumber_1 kc_51 rfl ?_
  refine V_iload_n (pc := 4) dX5_takeNumber_4 rfl rfl ?_
  refine V_iload_n (pc := 5) dX5_takeNumber_5 rfl rfl ?_
  refine V_callVpi (pc := 6) (As := [.int p1, .int p2]) (rest := []) (c_X9_number w n p1 p2 σ) cw_X5_75 rfl rfl dX5_takeNumber_6 kc_1 rfl ⟨Nat.le_of_ble_eq_true rfl, Nat.le_of_ble_eq_true rfl⟩ rfl rfl (Nat.le_of_ble_eq_true rfl) (Nat.le_of_ble_eq_true rfl) (Nat.le_of_ble_eq_true rfl) rfl (fun q6 => ?_)
  refine V_istore_n (pc := 9) (vs' := [some (.ref (wB w + 51)), some (.int p1), some (.int p2), some (.int q6)]) dX5_takeNumber_9 rfl (Nat.le_of_ble_eq_true rfl) (Nat.le_of_ble_eq_true rfl) rfl ?_
  refine V_iload_n (pc := 10) dX5_takeNumber_10 rfl rfl ?_
  refine V_iconst (pc := 11) (v := (-1 : Int32)) dX5_takeNumber_11 rfl ?_
  refine V_icmp_eq (pc := 12) (tgt := 22) dX5_takeNumber_12 (by decide) ?_ ?_
  · refine V_sub (vs' := [none, none, none, some (.int q6)]) (show vless _ _ from ⟨rfl, trivial⟩) rfl ?_
    exact hJ22 q6 σ
  · refine V_aload_n (pc := 15) dX5_takeNumber_15 rfl rfl ?_
    refine V_getr (pc := 16) (t := 1) fk_X5_9 rfl dX5_takeNumber_16 kc_51 rfl ?_
    refine V_callVv (pc := 19) (As := []) (rest := []) (c_X9_advance w n  σ) cw_X5_44 rfl rfl dX5_takeNumber_19 kc_1 rfl ⟨Nat.le_of_ble_eq_true rfl, Nat.le_of_ble_eq_true rfl⟩ rfl rfl (Nat.le_of_ble_eq_true rfl) (Nat.le_of_ble_eq_true rfl) (Nat.le_of_ble_eq_true rfl) rfl (fun q19 => ?_)
    refine V_sub (vs' := [none, none, none, some (.int q6)]) (show vless _ _ from ⟨rfl, trivial⟩) rfl ?_
    exact hJ22 q6 q19.2
def f_X5_tellsPerson (n : Nat) (h1 : Nat) (σ : MS) : Option (Int32 × MS) := ((f_X9_skipWord n 24 σ).bind (fun q6 => (if q6.1 = 0 then some ((0 : Int32), q6.2) else ((f_X5_takeNumber n (0 : Int32) (5 : Int32) q6.2).bind (fun q17 => (if q17.1 = (-1 : Int32) then some ((0 : Int32), q17.2) else ((f_X4_enter h1 q17.1 q17.2).bind (fun q30 => some ((1 : Int32), q30.2)))))))))
set_option maxRecDepth 20000 in
set_option maxHeartbeats 2000000 in
theorem c_X5_tellsPerson (w : TG) (n : Nat) (h1 : Nat) (k_h1 : kd h1 = 4) (σ : MS) : MC m_X5_tellsPerson w [.ref (wB w + 51), .ref (wB w + h1)] σ (f_X5_tellsPerson n h1 σ) := by
  refine V_meth (by decide +kernel) (Nat.le_of_ble_eq_true rfl) (by intro v hv; simp only [List.mem_cons, List.not_mem_nil, or_false] at hv; rcases hv with rfl | rfl <;> rfl) (fun g x => ?_)
  show VV m_X5_tellsPerson w g 0 0 (QM m_X5_tellsPerson w g x) (fun b : Int32 × MS => b = x) 0 [some (.ref (wB w + 51)), some (.ref (wB w + h1)), none] [] σ (f_X5_tellsPerson n h1 σ)
  refine V_aload_n (pc := 0) dX5_tellsPerson_0 rfl rfl ?_
  refine V_getr (pc := 1) (t := 1) fk_X5_9 rfl dX5_tellsPerson_1 kc_51 rfl ?_
  refine V_ldcS (pc := 4) (i := 24) (tx := "at") dX5_tellsPerson_4 rfl (by decide +kernel) ?_
  refine V_callVi (pc := 6) (As := [.ref (wS w 24)]) (rest := []) (c_X9_skipWord w n 24 (by decide) σ) cw_X5_80 rfl rfl dX5_tellsPerson_6 kc_1 rfl ⟨Nat.le_of_ble_eq_true rfl, Nat.le_of_ble_eq_true rfl⟩ rfl rfl (Nat.le_of_ble_eq_true rfl) (Nat.le_of_ble_eq_true rfl) (Nat.le_of_ble_eq_true rfl) rfl (fun q6 => ?_)
  refine V_if_ne (pc := 9) (tgt := 14) dX5_tellsPerson_9 (by decide) ?_ ?_
  · refine V_aload_n (pc := 14) dX5_tellsPerson_14 rfl rfl ?_
    refine V_iconst (pc := 15) (v := (0 : Int32)) dX5_tellsPerson_15 rfl ?_
    refine V_iconst (pc := 16) (v := (5 : Int32)) dX5_tellsPerson_16 rfl ?_
    refine V_callVi (pc := 17) (As := [.int (0 : Int32), .int (5 : Int32)]) (rest := []) (c_X5_takeNumber w n (0 : Int32) (5 : Int32) q6.2) cw_X5_59 rfl rfl dX5_tellsPerson_17 kc_51 rfl ⟨Nat.le_of_ble_eq_true rfl, Nat.le_of_ble_eq_true rfl⟩ rfl rfl (Nat.le_of_ble_eq_true rfl) (Nat.le_of_ble_eq_true rfl) (Nat.le_of_ble_eq_true rfl) rfl (fun q17 => ?_)
    refine V_istore_n (pc := 20) (vs' := [some (.ref (wB w + 51)), some (.ref (wB w + h1)), some (.int q17.1)]) dX5_tellsPerson_20 rfl (Nat.le_of_ble_eq_true rfl) (Nat.le_of_ble_eq_true rfl) rfl ?_
    refine V_iload_n (pc := 21) dX5_tellsPerson_21 rfl rfl ?_
    refine V_iconst (pc := 22) (v := (-1 : Int32)) dX5_tellsPerson_22 rfl ?_
    refine V_icmp_ne (pc := 23) (tgt := 28) dX5_tellsPerson_23 (by decide) ?_ ?_
    · refine V_aload_n (pc := 28) dX5_tellsPerson_28 rfl rfl ?_
      refine V_iload_n (pc := 29) dX5_tellsPerson_29 rfl rfl ?_
      refine V_callVv (pc := 30) (As := [.int q17.1]) (rest := []) (c_X4_enter w h1 q17.1 k_h1 q17.2) cw_X5_84 rfl rfl dX5_tellsPerson_30 k_h1 rfl ⟨Nat.le_of_ble_eq_true rfl, Nat.le_of_ble_eq_true rfl⟩ rfl rfl (Nat.le_of_ble_eq_true rfl) (Nat.le_of_ble_eq_true rfl) (Nat.le_of_ble_eq_true rfl) rfl (fun q30 => ?_)
      refine V_iconst (pc := 33) (v := (1 : Int32)) dX5_tellsPerson_33 rfl ?_
      exact V_iretz (pc := 34) dX5_tellsPerson_34 rfl rfl (hk := fun h => h)
    · refine V_iconst (pc := 26) (v := (0 : Int32)) dX5_tellsPerson_26 rfl ?_
      exact V_iretz (pc := 27) dX5_tellsPerson_27 rfl rfl (hk := fun h => h)
  · refine V_iconst (pc := 12) (v := (0 : Int32)) dX5_tellsPerson_12 rfl ?_
    exact V_iretz (pc := 13) dX5_tellsPerson_13 rfl rfl (hk := fun h => h)
def J_X5_tellsLikes_79 (n : Nat) (h1 : Nat) (v2 : Int32) (v3 : Int32) (σ : MS) : Option ((Int32 × MS) ⊕ (Int32 × MS)) := some (.inl ((v3 + (1 : Int32)), σ))
def L_X5_tellsLikes_35 (n : Nat) (h1 : Nat) (v2 : Int32) (σ : MS) (a35 : Int32 × MS) : Option ((Int32 × MS) ⊕ (Int32 × MS)) := (if (a35.2 h1 0) ≤ a35.1 then (((f_X9_advance n  a35.2).bind (fun q89 => some ((1 : Int32), q89.2)))).map Sum.inr else (if a35.1 = v2 then J_X5_tellsLikes_79 n h1 v2 a35.1 a35.2 else (if inb ((a35.2 1 2) + a35.1) 400 then (if inb ((v2 * (8 : Int32)) + a35.1) 64 then ltM (mu a35.2 (h1 + 5) (ix ((v2 * (8 : Int32)) + a35.1)) ((a35.2 2 (ix ((a35.2 1 2) + a35.1))) - (48 : Int32))) (fun s78 => J_X5_tellsLikes_79 n h1 v2 a35.1 s78) else none) else none)))
def J_X5_tellsLikes_31 (n : Nat) (h1 : Nat) (σ : MS) : Option (Int32 × MS) := some ((0 : Int32), σ)
def f_X5_tellsLikes (n : Nat) (h1 : Nat) (σ : MS) : Option (Int32 × MS) := ((f_X5_takeNumber n (0 : Int32) ((σ h1 0) - (1 : Int32)) σ).bind (fun q8 => (if q8.1 = (-1 : Int32) then J_X5_tellsLikes_31 n h1 q8.2 else ((f_X9_isFigures (q8.2 h1 0) q8.2).bind (fun q25 => (if q25 = 0 then J_X5_tellsLikes_31 n h1 q8.2 else itr (L_X5_tellsLikes_35 n h1 q8.1 σ) n ((0 : Int32), q8.2)))))))
set_option maxRecDepth 20000 in
set_option maxHeartbeats 2000000 in
theorem c_X5_tellsLikes (w : TG) (n : Nat) (h1 : Nat) (k_h1 : kd h1 = 4) (σ : MS) : MC m_X5_tellsLikes w [.ref (wB w + 51), .ref (wB w + h1)] σ (f_X5_tellsLikes n h1 σ) := by
  refine V_meth (by decide +kernel) (Nat.le_of_ble_eq_true rfl) (by intro v hv; simp only [List.mem_cons, List.not_mem_nil, or_false] at hv; rcases hv with rfl | rfl <;> rfl) (fun g x => ?_)
  show VV m_X5_tellsLikes w g 0 0 (QM m_X5_tellsLikes w g x) (fun b : Int32 × MS => b = x) 0 [some (.ref (wB w + 51)), some (.ref (wB w + h1)), none, none] [] σ (f_X5_tellsLikes n h1 σ)
  have hL35 : ∀ (v2 : Int32) (n0 : Nat) (a : Int32 × MS), VV m_X5_tellsLikes w g 0 0 (QM m_X5_tellsLikes w g x) (fun b : Int32 × MS => b = x) 35 [some (.ref (wB w + 51)), some (.ref (wB w + h1)), some (.int v2), some (.int a.1)] [] a.2 (itr (L_X5_tellsLikes_35 n h1 v2 σ) n0 a) := by
    intro v2
    refine V_itr (vf := fun a : Int32 × MS => [some (.ref (wB w + 51)), some (.ref (wB w + h1)), some (.int v2), some (.int a.1)]) (sf := fun a : Int32 × MS => a.2) (fun κ35 b35 r35 a35 => ?_)
    show VV m_X5_tellsLikes w g 0 0 (QM m_X5_tellsLikes w g x) κ35 35 [some (.ref (wB w + 51)), some (.ref (wB w + h1)), some (.int v2), some (.int a35.1)] [] a35.2 (L_X5_tellsLikes_35 n h1 v2 σ a35)
    have hJ79 : ∀ (v3 : Int32) (σ : MS), VV m_X5_tellsLikes w g 0 0 (QM m_X5_tellsLikes w g x) κ35 79 [some (.ref (wB w + 51)), some (.ref (wB w + h1)), some (.int v2), some (.int v3)] [] σ (J_X5_tellsLikes_79 n h1 v2 v3 σ) := by
      intro v3 σ
      refine V_iinc (pc := 79) (v := (v3 + (1 : Int32))) (vs' := [some (.ref (wB w + 51)), some (.ref (wB w + h1)), some (.int v2), some (.int (v3 + (1 : Int32)))]) dX5_tellsLikes_79 (Nat.le_of_ble_eq_true rfl) rfl rfl rfl ?_
      refine V_goto (pc := 82) (tgt := 35) dX5_tellsLikes_82 (by decide) ?_
      exact V_back (b35 ((v3 + (1 : Int32)), σ))
    refine V_iload_n (pc := 35) dX5_tellsLikes_35 rfl rfl ?_
    refine V_aload_n (pc := 36) dX5_tellsLikes_36 rfl rfl ?_
    refine V_geti (pc := 37) fk_X5_38 rfl dX5_tellsLikes_37 k_h1 rfl ?_
    refine V_icmp_ge (pc := 40) (tgt := 85) dX5_tellsLikes_40 (by decide) ?_ ?_
    · refine V_exit r35 ?_
      refine V_aload_n (pc := 85) dX5_tellsLikes_85 rfl rfl ?_
      refine V_getr (pc := 86) (t := 1) fk_X5_9 rfl dX5_tellsLikes_86 kc_51 rfl ?_
      refine V_callVv (pc := 89) (As := []) (rest := []) (c_X9_advance w n  a35.2) cw_X5_44 rfl rfl dX5_tellsLikes_89 kc_1 rfl ⟨Nat.le_of_ble_eq_true rfl, Nat.le_of_ble_eq_true rfl⟩ rfl rfl (Nat.le_of_ble_eq_true rfl) (Nat.le_of_ble_eq_true rfl) (Nat.le_of_ble_eq_true rfl) rfl (fun q89 => ?_)
      refine V_iconst (pc := 92) (v := (1 : Int32)) dX5_tellsLikes_92 rfl ?_
      exact V_iretz (pc := 93) dX5_tellsLikes_93 rfl rfl (hk := fun h => h)
    · refine V_iload_n (pc := 43) dX5_tellsLikes_43 rfl rfl ?_
      refine V_iload_n (pc := 44) dX5_tellsLikes_44 rfl rfl ?_
      refine V_icmp_eq (pc := 45) (tgt := 79) dX5_tellsLikes_45 (by decide) ?_ ?_
      · exact hJ79 a35.1 a35.2
      · refine V_aload_n (pc := 48) dX5_tellsLikes_48 rfl rfl ?_
        refine V_getr (pc := 49) (t := (h1 + 5)) fk_X5_92 rfl dX5_tellsLikes_49 k_h1 rfl ?_
        refine V_iload_n (pc := 52) dX5_tellsLikes_52 rfl rfl ?_
        refine V_bipush (pc := 53) (v := (8 : Int32)) dX5_tellsLikes_53 rfl ?_
        refine V_imul (pc := 55) dX5_tellsLikes_55 ?_
        refine V_iload_n (pc := 56) dX5_tellsLikes_56 rfl rfl ?_
        refine V_iadd (pc := 57) dX5_tellsLikes_57 ?_
        refine V_aload_n (pc := 58) dX5_tellsLikes_58 rfl rfl ?_
        refine V_getr (pc := 59) (t := 1) fk_X5_9 rfl dX5_tellsLikes_59 kc_51 rfl ?_
        refine V_getr (pc := 62) (t := 2) fk_X5_96 rfl dX5_tellsLikes_62 kc_1 rfl ?_
        refine V_aload_n (pc := 65) dX5_tellsLikes_65 rfl rfl ?_
        refine V_getr (pc := 66) (t := 1) fk_X5_9 rfl dX5_tellsLikes_66 kc_51 rfl ?_
        refine V_geti (pc := 69) fk_X5_99 rfl dX5_tellsLikes_69 kc_1 rfl ?_
        refine V_iload_n (pc := 72) dX5_tellsLikes_72 rfl rfl ?_
        refine V_iadd (pc := 73) dX5_tellsLikes_73 ?_
        refine V_iald (pc := 74) (n := 400) dX5_tellsLikes_74 kc_2 lc_2 ?_
        refine V_bipush (pc := 75) (v := (48 : Int32)) dX5_tellsLikes_75 rfl ?_
        refine V_isub (pc := 77) dX5_tellsLikes_77 ?_
        refine V_iast (pc := 78) (n := 64) dX5_tellsLikes_78 (hA5 k_h1).1 (hA5 k_h1).2 (fun s78 => ?_)
        exact hJ79 a35.1 s78
  have hJ31 : ∀ (σ : MS), VV m_X5_tellsLikes w g 0 0 (QM m_X5_tellsLikes w g x) (fun b : Int32 × MS => b = x) 31 [none, none, none, none] [] σ (J_X5_tellsLikes_31 n h1 σ) := by
    intro σ
    refine V_iconst (pc := 31) (v := (0 : Int32)) dX5_tellsLikes_31 rfl ?_
    exact V_iretz (pc := 32) dX5_tellsLikes_32 rfl rfl (hk := fun h => h)
  refine V_aload_n (pc := 0) dX5_tellsLikes_0 rfl rfl ?_
  refine V_iconst (pc := 1) (v := (0 : Int32)) dX5_tellsLikes_1 rfl ?_
  refine V_aload_n (pc := 2) dX5_tellsLikes_2 rfl rfl ?_
  refine V_geti (pc := 3) fk_X5_38 rfl dX5_tellsLikes_3 k_h1 rfl ?_
  refine V_iconst (pc := 6) (v := (1 : Int32)) dX5_tellsLikes_6 rfl ?_
  refine V_isub (pc := 7) dX5_tellsLikes_7 ?_
  refine V_callVi (pc := 8) (As := [.int (0 : Int32), .int ((σ h1 0) - (1 : Int32))]) (rest := []) (c_X5_takeNumber w n (0 : Int32) ((σ h1 0) - (1 : Int32)) σ) cw_X5_59 rfl rfl dX5_tellsLikes_8 kc_51 rfl ⟨Nat.le_of_ble_eq_true rfl, Nat.le_of_ble_eq_true rfl⟩ rfl rfl (Nat.le_of_ble_eq_true rfl) (Nat.le_of_ble_eq_true rfl) (Nat.le_of_ble_eq_true rfl) rfl (fun q8 => ?_)
  refine V_istore_n (pc := 11) (vs' := [some (.ref (wB w + 51)), some (.ref (wB w + h1)), some (.int q8.1), none]) dX5_tellsLikes_11 rfl (Nat.le_of_ble_eq_true rfl) (Nat.le_of_ble_eq_true rfl) rfl ?_
  refine V_iload_n (pc := 12) dX5_tellsLikes_12 rfl rfl ?_
  refine V_iconst (pc := 13) (v := (-1 : Int32)) dX5_tellsLikes_13 rfl ?_
  refine V_icmp_eq (pc := 14) (tgt := 31) dX5_tellsLikes_14 (by decide) ?_ ?_
  · refine V_sub (vs' := [none, none, none, none]) (show vless _ _ from trivial) rfl ?_
    exact hJ31 q8.2
  · refine V_aload_n (pc := 17) dX5_tellsLikes_17 rfl rfl ?_
    refine V_getr (pc := 18) (t := 1) fk_X5_9 rfl dX5_tellsLikes_18 kc_51 rfl ?_
    refine V_aload_n (pc := 21) dX5_tellsLikes_21 rfl rfl ?_
    refine V_geti (pc := 22) fk_X5_38 rfl dX5_tellsLikes_22 k_h1 rfl ?_
    refine V_callVpi (pc := 25) (As := [.int (q8.2 h1 0)]) (rest := []) (c_X9_isFigures w (q8.2 h1 0) q8.2) cw_X5_88 rfl rfl dX5_tellsLikes_25 kc_1 rfl ⟨Nat.le_of_ble_eq_true rfl, Nat.le_of_ble_eq_true rfl⟩ rfl rfl (Nat.le_of_ble_eq_true rfl) (Nat.le_of_ble_eq_true rfl) (Nat.le_of_ble_eq_true rfl) rfl (fun q25 => ?_)
    refine V_if_ne (pc := 28) (tgt := 33) dX5_tellsLikes_28 (by decide) ?_ ?_
    · refine V_iconst (pc := 33) (v := (0 : Int32)) dX5_tellsLikes_33 rfl ?_
      refine V_istore_n (pc := 34) (vs' := [some (.ref (wB w + 51)), some (.ref (wB w + h1)), some (.int q8.1), some (.int (0 : Int32))]) dX5_tellsLikes_34 rfl (Nat.le_of_ble_eq_true rfl) (Nat.le_of_ble_eq_true rfl) rfl ?_
      exact hL35 q8.1 n ((0 : Int32), q8.2)
    · refine V_sub (vs' := [none, none, none, none]) (show vless _ _ from trivial) rfl ?_
      exact hJ31 q8.2
def J_X5_takeSingle_35 (n : Nat) (h1 : Nat) (σ : MS) : Option (Int32 × MS) := some ((-1 : Int32), σ)
def f_X5_takeSingle (n : Nat) (h1 : Nat) (p2 : Int32) (σ : MS) : Option (Int32 × MS) := ((f_X9_number n (0 : Int32) ((σ h1 0) - (1 : Int32)) σ).bind (fun q11 => (if q11 = (-1 : Int32) then J_X5_takeSingle_35 n h1 σ else (if q11 = p2 then J_X5_takeSingle_35 n h1 σ else (if inb q11 8 then (if (σ (h1 + 2) (ix q11)) = (-1 : Int32) then ((f_X9_advance n  σ).bind (fun q41 => some (q11, q41.2))) else J_X5_takeSingle_35 n h1 σ) else none)))))
set_option maxRecDepth 20000 in
set_option maxHeartbeats 2000000 in
theorem c_X5_takeSingle (w : TG) (n : Nat) (h1 : Nat) (p2 : Int32) (k_h1 : kd h1 = 4) (σ : MS) : MC m_X5_takeSingle w [.ref (wB w + 51), .ref (wB w + h1), .int p2] σ (f_X5_takeSingle n h1 p2 σ) := by
  refine V_meth (by decide +kernel) (Nat.le_of_ble_eq_true rfl) (by intro v hv; simp only [List.mem_cons, List.not_mem_nil, or_false] at hv; rcases hv with rfl | rfl | rfl <;> rfl) (fun g x => ?_)
  show VV m_X5_takeSingle w g 0 0 (QM m_X5_takeSingle w g x) (fun b : Int32 × MS => b = x) 0 [some (.ref (wB w + 51)), some (.ref (wB w + h1)), some (.int p2), none] [] σ (f_X5_takeSingle n h1 p2 σ)
  have hJ35 : ∀ (σ : MS), VV m_X5_takeSingle w g 0 0 (QM m_X5_takeSingle w g x) (fun b : Int32 × MS => b = x) 35 [none, none, none, none] [] σ (J_X5_takeSingle_35 n h1 σ) := by
    intro σ
    refine V_iconst (pc := 35) (v := (-1 : Int32)) dX5_takeSingle_35 rfl ?_
    exact V_ireti (pc := 36) dX5_takeSingle_36 rfl (hk := fun h => h)
  refine V_aload_n (pc := 0) dX5_takeSingle_0 rfl rfl ?_
  refine V_getr (pc := 1) (t := 1) fk_X5_9 rfl dX5_takeSingle_1 kc_51 rfl ?_
  refine V_iconst (pc := 4) (v := (0 : Int32)) dX5_takeSingle_4 rfl ?_
  refine V_aload_n (pc := 5) dX5_takeSingle_5 rfl rfl ?_
  refine V_geti (pc := 6) fk_X5_38 rfl dX5_takeSingle_6 k_h1 rfl ?_
  refine V_iconst (pc := 9) (v := (1 : Int32)) dX5_takeSingle_9 rfl ?_
  refine V_isub (pc := 10) dX5_takeSingle_10 ?_
  refine V_callVpi (pc := 11) (As := [.int (0 : Int32), .int ((σ h1 0) - (1 : Int32))]) (rest := []) (c_X9_number w n (0 : Int32) ((σ h1 0) - (1 : Int32)) σ) cw_X5_75 rfl rfl dX5_takeSingle_11 kc_1 rfl ⟨Nat.le_of_ble_eq_true rfl, Nat.le_of_ble_eq_true rfl⟩ rfl rfl (Nat.le_of_ble_eq_true rfl) (Nat.le_of_ble_eq_true rfl) (Nat.le_of_ble_eq_true rfl) rfl (fun q11 => ?_)
  refine V_istore_n (pc := 14) (vs' := [some (.ref (wB w + 51)), some (.ref (wB w + h1)), some (.int p2), some (.int q11)]) dX5_takeSingle_14 rfl (Nat.le_of_ble_eq_true rfl) (Nat.le_of_ble_eq_true rfl) rfl ?_
  refine V_iload_n (pc := 15) dX5_takeSingle_15 rfl rfl ?_
  refine V_iconst (pc := 16) (v := (-1 : Int32)) dX5_takeSingle_16 rfl ?_
  refine V_icmp_eq (pc := 17) (tgt := 35) dX5_takeSingle_17 (by decide) ?_ ?_
  · refine V_sub (vs' := [none, none, none, none]) (show vless _ _ from trivial) rfl ?_
    exact hJ35 σ
  · refine V_iload_n (pc := 20) dX5_takeSingle_20 rfl rfl ?_
    refine V_iload_n (pc := 21) dX5_takeSingle_21 rfl rfl ?_
    refine V_icmp_eq (pc := 22) (tgt := 35) dX5_takeSingle_22 (by decide) ?_ ?_
    · refine V_sub (vs' := [none, none, none, none]) (show vless _ _ from trivial) rfl ?_
      exact hJ35 σ
    · refine V_aload_n (pc := 25) dX5_takeSingle_25 rfl rfl ?_
      refine V_getr (pc := 26) (t := (h1 + 2)) fk_X5_110 rfl dX5_takeSingle_26 k_h1 rfl ?_
      refine V_iload_n (pc := 29) dX5_takeSingle_29 rfl rfl ?_
      refine V_iald (pc := 30) (n := 8) dX5_takeSingle_30 (hA2 k_h1).1 (hA2 k_h1).2 ?_
      refine V_iconst (pc := 31) (v := (-1 : Int32)) dX5_takeSingle_31 rfl ?_
      refine V_icmp_eq (pc := 32) (tgt := 37) dX5_takeSingle_32 (by decide) ?_ ?_
      · refine V_aload_n (pc := 37) dX5_takeSingle_37 rfl rfl ?_
        refine V_getr (pc := 38) (t := 1) fk_X5_9 rfl dX5_takeSingle_38 kc_51 rfl ?_
        refine V_callVv (pc := 41) (As := []) (rest := []) (c_X9_advance w n  σ) cw_X5_44 rfl rfl dX5_takeSingle_41 kc_1 rfl ⟨Nat.le_of_ble_eq_true rfl, Nat.le_of_ble_eq_true rfl⟩ rfl rfl (Nat.le_of_ble_eq_true rfl) (Nat.le_of_ble_eq_true rfl) (Nat.le_of_ble_eq_true rfl) rfl (fun q41 => ?_)
        refine V_iload_n (pc := 44) dX5_takeSingle_44 rfl rfl ?_
        exact V_ireti (pc := 45) dX5_takeSingle_45 rfl (hk := fun h => h)
      · refine V_sub (vs' := [none, none, none, none]) (show vless _ _ from trivial) rfl ?_
        exact hJ35 σ
def f_X5_tellsWed (n : Nat) (h1 : Nat) (σ : MS) : Option (Int32 × MS) := ((f_X5_takeSingle n h1 (-1 : Int32) σ).bind (fun q3 => (if q3.1 = (-1 : Int32) then some ((0 : Int32), q3.2) else ((f_X5_takeSingle n h1 q3.1 q3.2).bind (fun q17 => (if q17.1 = (-1 : Int32) then some ((0 : Int32), q17.2) else ((f_X4_marry h1 q3.1 q17.1 q17.2).bind (fun q31 => some ((1 : Int32), q31.2)))))))))
set_option maxRecDepth 20000 in
set_option maxHeartbeats 2000000 in
theorem c_X5_tellsWed (w : TG) (n : Nat) (h1 : Nat) (k_h1 : kd h1 = 4) (σ : MS) : MC m_X5_tellsWed w [.ref (wB w + 51), .ref (wB w + h1)] σ (f_X5_tellsWed n h1 σ) := by
  refine V_meth (by decide +kernel) (Nat.le_of_ble_eq_true rfl) (by intro v hv; simp only [List.mem_cons, List.not_mem_nil, or_false] at hv; rcases hv with rfl | rfl <;> rfl) (fun g x => ?_)
  show VV m_X5_tellsWed w g 0 0 (QM m_X5_tellsWed w g x) (fun b : Int32 × MS => b = x) 0 [some (.ref (wB w + 51)), some (.ref (wB w + h1)), none, none] [] σ (f_X5_tellsWed n h1 σ)
  refine V_aload_n (pc := 0) dX5_tellsWed_0 rfl rfl ?_
  refine V_aload_n (pc := 1) dX5_tellsWed_1 rfl rfl ?_
  refine V_iconst (pc := 2) (v := (-1 : Int32)) dX5_tellsWed_2 rfl ?_
  refine V_callVi (pc := 3) (As := [.ref (wB w + h1), .int (-1 : Int32)]) (rest := []) (c_X5_takeSingle w n h1 (-1 : Int32) k_h1 σ) cw_X5_102 rfl rfl dX5_tellsWed_3 kc_51 rfl ⟨Nat.le_of_ble_eq_true rfl, Nat.le_of_ble_eq_true rfl⟩ rfl rfl (Nat.le_of_ble_eq_true rfl) (Nat.le_of_ble_eq_true rfl) (Nat.le_of_ble_eq_true rfl) rfl (fun q3 => ?_)
  refine V_istore_n (pc := 6) (vs' := [some (.ref (wB w + 51)), some (.ref (wB w + h1)), some (.int q3.1), none]) dX5_tellsWed_6 rfl (Nat.le_of_ble_eq_true rfl) (Nat.le_of_ble_eq_true rfl) rfl ?_
  refine V_iload_n (pc := 7) dX5_tellsWed_7 rfl rfl ?_
  refine V_iconst (pc := 8) (v := (-1 : Int32)) dX5_tellsWed_8 rfl ?_
  refine V_icmp_ne (pc := 9) (tgt := 14) dX5_tellsWed_9 (by decide) ?_ ?_
  · refine V_aload_n (pc := 14) dX5_tellsWed_14 rfl rfl ?_
    refine V_aload_n (pc := 15) dX5_tellsWed_15 rfl rfl ?_
    refine V_iload_n (pc := 16) dX5_tellsWed_16 rfl rfl ?_
    refine V_callVi (pc := 17) (As := [.ref (wB w + h1), .int q3.1]) (rest := []) (c_X5_takeSingle w n h1 q3.1 k_h1 q3.2) cw_X5_102 rfl rfl dX5_tellsWed_17 kc_51 rfl ⟨Nat.le_of_ble_eq_true rfl, Nat.le_of_ble_eq_true rfl⟩ rfl rfl (Nat.le_of_ble_eq_true rfl) (Nat.le_of_ble_eq_true rfl) (Nat.le_of_ble_eq_true rfl) rfl (fun q17 => ?_)
    refine V_istore_n (pc := 20) (vs' := [some (.ref (wB w + 51)), some (.ref (wB w + h1)), some (.int q3.1), some (.int q17.1)]) dX5_tellsWed_20 rfl (Nat.le_of_ble_eq_true rfl) (Nat.le_of_ble_eq_true rfl) rfl ?_
    refine V_iload_n (pc := 21) dX5_tellsWed_21 rfl rfl ?_
    refine V_iconst (pc := 22) (v := (-1 : Int32)) dX5_tellsWed_22 rfl ?_
    refine V_icmp_ne (pc := 23) (tgt := 28) dX5_tellsWed_23 (by decide) ?_ ?_
    · refine V_aload_n (pc := 28) dX5_tellsWed_28 rfl rfl ?_
      refine V_iload_n (pc := 29) dX5_tellsWed_29 rfl rfl ?_
      refine V_iload_n (pc := 30) dX5_tellsWed_30 rfl rfl ?_
      refine V_callVv (pc := 31) (As := [.int q3.1, .int q17.1]) (rest := []) (c_X4_marry w h1 q3.1 q17.1 k_h1 q17.2) cw_X5_106 rfl rfl dX5_tellsWed_31 k_h1 rfl ⟨Nat.le_of_ble_eq_true rfl, Nat.le_of_ble_eq_true rfl⟩ rfl rfl (Nat.le_of_ble_eq_true rfl) (Nat.le_of_ble_eq_true rfl) (Nat.le_of_ble_eq_true rfl) rfl (fun q31 => ?_)
      refine V_iconst (pc := 34) (v := (1 : Int32)) dX5_tellsWed_34 rfl ?_
      exact V_iretz (pc := 35) dX5_tellsWed_35 rfl rfl (hk := fun h => h)
    · refine V_iconst (pc := 26) (v := (0 : Int32)) dX5_tellsWed_26 rfl ?_
      exact V_iretz (pc := 27) dX5_tellsWed_27 rfl rfl (hk := fun h => h)
  · refine V_iconst (pc := 12) (v := (0 : Int32)) dX5_tellsWed_12 rfl ?_
    exact V_iretz (pc := 13) dX5_tellsWed_13 rfl rfl (hk := fun h => h)
def J_X5_tellsFlour_63 (n : Nat) (h1 : Nat) (σ : MS) : Option (Int32 × MS) := some ((0 : Int32), σ)
def L_X5_tellsFlour_22 (n : Nat) (h1 : Nat) (σ : MS) (a22 : Int32 × Int32) : Option ((Int32 × Int32) ⊕ (Int32 × MS)) := (if (σ 1 3) ≤ a22.2 then ((ltM (mu σ h1 2 a22.1) (fun s80 => ((f_X9_advance n  s80).bind (fun q87 => some ((1 : Int32), q87.2)))))).map Sum.inr else (if inb a22.2 400 then (if (6 : Int32) ≤ ((σ 2 (ix a22.2)) - (97 : Int32)) then (J_X5_tellsFlour_63 n h1 σ).map Sum.inr else (if (a22.1 &&& (shlI (1 : Int32) ((σ 2 (ix a22.2)) - (97 : Int32)))) = 0 then some (.inl ((a22.1 ||| (shlI (1 : Int32) ((σ 2 (ix a22.2)) - (97 : Int32)))), (a22.2 + (1 : Int32)))) else (J_X5_tellsFlour_63 n h1 σ).map Sum.inr)) else none))
def f_X5_tellsFlour (n : Nat) (h1 : Nat) (σ : MS) : Option (Int32 × MS) := ((f_X9_isWord  σ).bind (fun q4 => (if q4 = 0 then some ((0 : Int32), σ) else itr (L_X5_tellsFlour_22 n h1 σ) n ((0 : Int32), (σ 1 2)))))
set_option maxRecDepth 20000 in
set_option maxHeartbeats 2000000 in
theorem c_X5_tellsFlour (w : TG) (n : Nat) (h1 : Nat) (k_h1 : kd h1 = 4) (σ : MS) : MC m_X5_tellsFlour w [.ref (wB w + 51), .ref (wB w + h1)] σ (f_X5_tellsFlour n h1 σ) := by
  refine V_meth (by decide +kernel) (Nat.le_of_ble_eq_true rfl) (by intro v hv; simp only [List.mem_cons, List.not_mem_nil, or_false] at hv; rcases hv with rfl | rfl <;> rfl) (fun g x => ?_)
  show VV m_X5_tellsFlour w g 0 0 (QM m_X5_tellsFlour w g x) (fun b : Int32 × MS => b = x) 0 [some (.ref (wB w + 51)), some (.ref (wB w + h1)), none, none, none] [] σ (f_X5_tellsFlour n h1 σ)
  have hJ63 : ∀ (σ : MS), VV m_X5_tellsFlour w g 0 0 (QM m_X5_tellsFlour w g x) (fun b : Int32 × MS => b = x) 63 [none, none, none, none, none] [] σ (J_X5_tellsFlour_63 n h1 σ) := by
    intro σ
    refine V_iconst (pc := 63) (v := (0 : Int32)) dX5_tellsFlour_63 rfl ?_
    exact V_iretz (pc := 64) dX5_tellsFlour_64 rfl rfl (hk := fun h => h)
  have hL22 : ∀ (σ : MS) (n0 : Nat) (a : Int32 × Int32), VV m_X5_tellsFlour w g 0 0 (QM m_X5_tellsFlour w g x) (fun b : Int32 × MS => b = x) 22 [some (.ref (wB w + 51)), some (.ref (wB w + h1)), some (.int a.1), some (.int a.2), none] [] σ (itr (L_X5_tellsFlour_22 n h1 σ) n0 a) := by
    intro σ
    refine V_itr (vf := fun a : Int32 × Int32 => [some (.ref (wB w + 51)), some (.ref (wB w + h1)), some (.int a.1), some (.int a.2), none]) (sf := fun a : Int32 × Int32 => σ) (fun κ22 b22 r22 a22 => ?_)
    show VV m_X5_tellsFlour w g 0 0 (QM m_X5_tellsFlour w g x) κ22 22 [some (.ref (wB w + 51)), some (.ref (wB w + h1)), some (.int a22.1), some (.int a22.2), none] [] σ (L_X5_tellsFlour_22 n h1 σ a22)
    refine V_iload_n (pc := 22) dX5_tellsFlour_22 rfl rfl ?_
    refine V_aload_n (pc := 23) dX5_tellsFlour_23 rfl rfl ?_
    refine V_getr (pc := 24) (t := 1) fk_X5_9 rfl dX5_tellsFlour_24 kc_51 rfl ?_
    refine V_geti (pc := 27) fk_X5_116 rfl dX5_tellsFlour_27 kc_1 rfl ?_
    refine V_icmp_ge (pc := 30) (tgt := 78) dX5_tellsFlour_30 (by decide) ?_ ?_
    · refine V_exit r22 ?_
      refine V_aload_n (pc := 78) dX5_tellsFlour_78 rfl rfl ?_
      refine V_iload_n (pc := 79) dX5_tellsFlour_79 rfl rfl ?_
      refine V_puti (pc := 80) fp_X5_119 rfl dX5_tellsFlour_80 k_h1 rfl (fun s80 => ?_)
      refine V_aload_n (pc := 83) dX5_tellsFlour_83 rfl rfl ?_
      refine V_getr (pc := 84) (t := 1) fk_X5_9 rfl dX5_tellsFlour_84 kc_51 rfl ?_
      refine V_callVv (pc := 87) (As := []) (rest := []) (c_X9_advance w n  s80) cw_X5_44 rfl rfl dX5_tellsFlour_87 kc_1 rfl ⟨Nat.le_of_ble_eq_true rfl, Nat.le_of_ble_eq_true rfl⟩ rfl rfl (Nat.le_of_ble_eq_true rfl) (Nat.le_of_ble_eq_true rfl) (Nat.le_of_ble_eq_true rfl) rfl (fun q87 => ?_)
      refine V_iconst (pc := 90) (v := (1 : Int32)) dX5_tellsFlour_90 rfl ?_
      exact V_iretz (pc := 91) dX5_tellsFlour_91 rfl rfl (hk := fun h => h)
    · refine V_aload_n (pc := 33) dX5_tellsFlour_33 rfl rfl ?_
      refine V_getr (pc := 34) (t := 1) fk_X5_9 rfl dX5_tellsFlour_34 kc_51 rfl ?_
      refine V_getr (pc := 37) (t := 2) fk_X5_96 rfl dX5_tellsFlour_37 kc_1 rfl ?_
      refine V_iload_n (pc := 40) dX5_tellsFlour_40 rfl rfl ?_
      refine V_iald (pc := 41) (n := 400) dX5_tellsFlour_41 kc_2 lc_2 ?_
      refine V_bipush (pc := 42) (v := (97 : Int32)) dX5_tellsFlour_42 rfl ?_
      refine V_isub (pc := 44) dX5_tellsFlour_44 ?_
      refine V_istore (pc := 45) (vs' := [some (.ref (wB w + 51)), some (.ref (wB w + h1)), some (.int a22.1), some (.int a22.2), some (.int ((σ 2 (ix a22.2)) - (97 : Int32)))]) dX5_tellsFlour_45 (Nat.le_of_ble_eq_true rfl) (Nat.le_of_ble_eq_true rfl) rfl ?_
      refine V_iload (pc := 47) dX5_tellsFlour_47 rfl ?_
      refine V_bipush (pc := 49) (v := (6 : Int32)) dX5_tellsFlour_49 rfl ?_
      refine V_icmp_ge (pc := 51) (tgt := 63) dX5_tellsFlour_51 (by decide) ?_ ?_
      · refine V_exit r22 ?_
        refine V_sub (vs' := [none, none, none, none, none]) (show vless _ _ from trivial) rfl ?_
        exact hJ63 σ
      · refine V_iload_n (pc := 54) dX5_tellsFlour_54 rfl rfl ?_
        refine V_iconst (pc := 55) (v := (1 : Int32)) dX5_tellsFlour_55 rfl ?_
        refine V_iload (pc := 56) dX5_tellsFlour_56 rfl ?_
        refine V_ishl (pc := 58) dX5_tellsFlour_58 ?_
        refine V_iand (pc := 59) dX5_tellsFlour_59 ?_
        refine V_if_eq (pc := 60) (tgt := 65) dX5_tellsFlour_60 (by decide) ?_ ?_
        · refine V_iload_n (pc := 65) dX5_tellsFlour_65 rfl rfl ?_
          refine V_iconst (pc := 66) (v := (1 : Int32)) dX5_tellsFlour_66 rfl ?_
          refine V_iload (pc := 67) dX5_tellsFlour_67 rfl ?_
          refine V_ishl (pc := 69) dX5_tellsFlour_69 ?_
          refine V_ior (pc := 70) dX5_tellsFlour_70 ?_
          refine V_istore_n (pc := 71) (vs' := [some (.ref (wB w + 51)), some (.ref (wB w + h1)), some (.int (a22.1 ||| (shlI (1 : Int32) ((σ 2 (ix a22.2)) - (97 : Int32))))), some (.int a22.2), some (.int ((σ 2 (ix a22.2)) - (97 : Int32)))]) dX5_tellsFlour_71 rfl (Nat.le_of_ble_eq_true rfl) (Nat.le_of_ble_eq_true rfl) rfl ?_
          refine V_iinc (pc := 72) (v := (a22.2 + (1 : Int32))) (vs' := [some (.ref (wB w + 51)), some (.ref (wB w + h1)), some (.int (a22.1 ||| (shlI (1 : Int32) ((σ 2 (ix a22.2)) - (97 : Int32))))), some (.int (a22.2 + (1 : Int32))), some (.int ((σ 2 (ix a22.2)) - (97 : Int32)))]) dX5_tellsFlour_72 (Nat.le_of_ble_eq_true rfl) rfl rfl rfl ?_
          refine V_goto (pc := 75) (tgt := 22) dX5_tellsFlour_75 (by decide) ?_
          refine V_sub (vs' := [some (.ref (wB w + 51)), some (.ref (wB w + h1)), some (.int (a22.1 ||| (shlI (1 : Int32) ((σ 2 (ix a22.2)) - (97 : Int32))))), some (.int (a22.2 + (1 : Int32))), none]) (show vless _ _ from ⟨rfl, ⟨rfl, ⟨rfl, ⟨rfl, trivial⟩⟩⟩⟩) rfl ?_
          exact V_back (b22 ((a22.1 ||| (shlI (1 : Int32) ((σ 2 (ix a22.2)) - (97 : Int32)))), (a22.2 + (1 : Int32))))
        · refine V_exit r22 ?_
          refine V_sub (vs' := [none, none, none, none, none]) (show vless _ _ from trivial) rfl ?_
          exact hJ63 σ
  refine V_aload_n (pc := 0) dX5_tellsFlour_0 rfl rfl ?_
  refine V_getr (pc := 1) (t := 1) fk_X5_9 rfl dX5_tellsFlour_1 kc_51 rfl ?_
  refine V_callVpi (pc := 4) (As := []) (rest := []) (c_X9_isWord w  σ) cw_X5_113 rfl rfl dX5_tellsFlour_4 kc_1 rfl ⟨Nat.le_of_ble_eq_true rfl, Nat.le_of_ble_eq_true rfl⟩ rfl rfl (Nat.le_of_ble_eq_true rfl) (Nat.le_of_ble_eq_true rfl) (Nat.le_of_ble_eq_true rfl) rfl (fun q4 => ?_)
  refine V_if_ne (pc := 7) (tgt := 12) dX5_tellsFlour_7 (by decide) ?_ ?_
  · refine V_iconst (pc := 12) (v := (0 : Int32)) dX5_tellsFlour_12 rfl ?_
    refine V_istore_n (pc := 13) (vs' := [some (.ref (wB w + 51)), some (.ref (wB w + h1)), some (.int (0 : Int32)), none, none]) dX5_tellsFlour_13 rfl (Nat.le_of_ble_eq_true rfl) (Nat.le_of_ble_eq_true rfl) rfl ?_
    refine V_aload_n (pc := 14) dX5_tellsFlour_14 rfl rfl ?_
    refine V_getr (pc := 15) (t := 1) fk_X5_9 rfl dX5_tellsFlour_15 kc_51 rfl ?_
    refine V_geti (pc := 18) fk_X5_99 rfl dX5_tellsFlour_18 kc_1 rfl ?_
    refine V_istore_n (pc := 21) (vs' := [some (.ref (wB w + 51)), some (.ref (wB w + h1)), some (.int (0 : Int32)), some (.int (σ 1 2)), none]) dX5_tellsFlour_21 rfl (Nat.le_of_ble_eq_true rfl) (Nat.le_of_ble_eq_true rfl) rfl ?_
    exact hL22 σ n ((0 : Int32), (σ 1 2))
  · refine V_iconst (pc := 10) (v := (0 : Int32)) dX5_tellsFlour_10 rfl ?_
    exact V_iretz (pc := 11) dX5_tellsFlour_11 rfl rfl (hk := fun h => h)
def J_X5_tellsBond_80 (n : Nat) (h1 : Nat) (σ : MS) : Option (Int32 × MS) := some ((0 : Int32), σ)
def J_X5_tellsBond_44 (n : Nat) (h1 : Nat) (σ : MS) : Option (Int32 × MS) := some ((0 : Int32), σ)
def f_X5_tellsBond (n : Nat) (h1 : Nat) (σ : MS) : Option (Int32 × MS) := ((f_X5_takeNumber n (0 : Int32) ((σ h1 0) - (1 : Int32)) σ).bind (fun q8 => (if q8.1 = (-1 : Int32) then some ((0 : Int32), q8.2) else ((f_X9_number n (0 : Int32) ((q8.2 h1 0) - (1 : Int32)) q8.2).bind (fun q30 => (if q30 = (-1 : Int32) then J_X5_tellsBond_44 n h1 q8.2 else (if q30 = q8.1 then J_X5_tellsBond_44 n h1 q8.2 else ((f_X9_advance n  q8.2).bind (fun q50 => ((f_X5_takeNumber n (1 : Int32) (9 : Int32) q50.2).bind (fun q57 => (if q57.1 = (-1 : Int32) then J_X5_tellsBond_80 n h1 q57.2 else ((f_X9_skipWord n 25 q57.2).bind (fun q74 => (if q74.1 = 0 then J_X5_tellsBond_80 n h1 q74.2 else ((f_X5_takeNumber n (1 : Int32) (999 : Int32) q74.2).bind (fun q87 => (if q87.1 = (-1 : Int32) then some ((0 : Int32), q87.2) else ((f_X4_tie h1 q8.1 q30 q57.1 q87.1 q87.2).bind (fun q107 => some ((1 : Int32), q107.2)))))))))))))))))))))
set_option maxRecDepth 20000 in
set_option maxHeartbeats 2000000 in
theorem c_X5_tellsBond (w : TG) (n : Nat) (h1 : Nat) (k_h1 : kd h1 = 4) (σ : MS) : MC m_X5_tellsBond w [.ref (wB w + 51), .ref (wB w + h1)] σ (f_X5_tellsBond n h1 σ) := by
  refine V_meth (by decide +kernel) (Nat.le_of_ble_eq_true rfl) (by intro v hv; simp only [List.mem_cons, List.not_mem_nil, or_false] at hv; rcases hv with rfl | rfl <;> rfl) (fun g x => ?_)
  show VV m_X5_tellsBond w g 0 0 (QM m_X5_tellsBond w g x) (fun b : Int32 × MS => b = x) 0 [some (.ref (wB w + 51)), some (.ref (wB w + h1)), none, none, none, none] [] σ (f_X5_tellsBond n h1 σ)
  have hJ80 : ∀ (σ : MS), VV m_X5_tellsBond w g 0 0 (QM m_X5_tellsBond w g x) (fun b : Int32 × MS => b = x) 80 [none, none, none, none, none, none] [] σ (J_X5_tellsBond_80 n h1 σ) := by
    intro σ
    refine V_iconst (pc := 80) (v := (0 : Int32)) dX5_tellsBond_80 rfl ?_
    exact V_iretz (pc := 81) dX5_tellsBond_81 rfl rfl (hk := fun h => h)
  have hJ44 : ∀ (σ : MS), VV m_X5_tellsBond w g 0 0 (QM m_X5_tellsBond w g x) (fun b : Int32 × MS => b = x) 44 [none, none, none, none, none, none] [] σ (J_X5_tellsBond_44 n h1 σ) := by
    intro σ
    refine V_iconst (pc := 44) (v := (0 : Int32)) dX5_tellsBond_44 rfl ?_
    exact V_iretz (pc := 45) dX5_tellsBond_45 rfl rfl (hk := fun h => h)
  refine V_aload_n (pc := 0) dX5_tellsBond_0 rfl rfl ?_
  refine V_iconst (pc := 1) (v := (0 : Int32)) dX5_tellsBond_1 rfl ?_
  refine V_aload_n (pc := 2) dX5_tellsBond_2 rfl rfl ?_
  refine V_geti (pc := 3) fk_X5_38 rfl dX5_tellsBond_3 k_h1 rfl ?_
  refine V_iconst (pc := 6) (v := (1 : Int32)) dX5_tellsBond_6 rfl ?_
  refine V_isub (pc := 7) dX5_tellsBond_7 ?_
  refine V_callVi (pc := 8) (As := [.int (0 : Int32), .int ((σ h1 0) - (1 : Int32))]) (rest := []) (c_X5_takeNumber w n (0 : Int32) ((σ h1 0) - (1 : Int32)) σ) cw_X5_59 rfl rfl dX5_tellsBond_8 kc_51 rfl ⟨Nat.le_of_ble_eq_true rfl, Nat.le_of_ble_eq_true rfl⟩ rfl rfl (Nat.le_of_ble_eq_true rfl) (Nat.le_of_ble_eq_true rfl) (Nat.le_of_ble_eq_true rfl) rfl (fun q8 => ?_)
  refine V_istore_n (pc := 11) (vs' := [some (.ref (wB w + 51)), some (.ref (wB w + h1)), some (.int q8.1), none, none, none]) dX5_tellsBond_11 rfl (Nat.le_of_ble_eq_true rfl) (Nat.le_of_ble_eq_true rfl) rfl ?_
  refine V_iload_n (pc := 12) dX5_tellsBond_12 rfl rfl ?_
  refine V_iconst (pc := 13) (v := (-1 : Int32)) dX5_tellsBond_13 rfl ?_
  refine V_icmp_ne (pc := 14) (tgt := 19) dX5_tellsBond_14 (by decide) ?_ ?_
  · refine V_aload_n (pc := 19) dX5_tellsBond_19 rfl rfl ?_
    refine V_getr (pc := 20) (t := 1) fk_X5_9 rfl dX5_tellsBond_20 kc_51 rfl ?_
    refine V_iconst (pc := 23) (v := (0 : Int32)) dX5_tellsBond_23 rfl ?_
    refine V_aload_n (pc := 24) dX5_tellsBond_24 rfl rfl ?_
    refine V_geti (pc := 25) fk_X5_38 rfl dX5_tellsBond_25 k_h1 rfl ?_
    refine V_iconst (pc := 28) (v := (1 : Int32)) dX5_tellsBond_28 rfl ?_
    refine V_isub (pc := 29) dX5_tellsBond_29 ?_
    refine V_callVpi (pc := 30) (As := [.int (0 : Int32), .int ((q8.2 h1 0) - (1 : Int32))]) (rest := []) (c_X9_number w n (0 : Int32) ((q8.2 h1 0) - (1 : Int32)) q8.2) cw_X5_75 rfl rfl dX5_tellsBond_30 kc_1 rfl ⟨Nat.le_of_ble_eq_true rfl, Nat.le_of_ble_eq_true rfl⟩ rfl rfl (Nat.le_of_ble_eq_true rfl) (Nat.le_of_ble_eq_true rfl) (Nat.le_of_ble_eq_true rfl) rfl (fun q30 => ?_)
    refine V_istore_n (pc := 33) (vs' := [some (.ref (wB w + 51)), some (.ref (wB w + h1)), some (.int q8.1), some (.int q30), none, none]) dX5_tellsBond_33 rfl (Nat.le_of_ble_eq_true rfl) (Nat.le_of_ble_eq_true rfl) rfl ?_
    refine V_iload_n (pc := 34) dX5_tellsBond_34 rfl rfl ?_
    refine V_iconst (pc := 35) (v := (-1 : Int32)) dX5_tellsBond_35 rfl ?_
    refine V_icmp_eq (pc := 36) (tgt := 44) dX5_tellsBond_36 (by decide) ?_ ?_
    · refine V_sub (vs' := [none, none, none, none, none, none]) (show vless _ _ from trivial) rfl ?_
      exact hJ44 q8.2
    · refine V_iload_n (pc := 39) dX5_tellsBond_39 rfl rfl ?_
      refine V_iload_n (pc := 40) dX5_tellsBond_40 rfl rfl ?_
      refine V_icmp_ne (pc := 41) (tgt := 46) dX5_tellsBond_41 (by decide) ?_ ?_
      · refine V_aload_n (pc := 46) dX5_tellsBond_46 rfl rfl ?_
        refine V_getr (pc := 47) (t := 1) fk_X5_9 rfl dX5_tellsBond_47 kc_51 rfl ?_
        refine V_callVv (pc := 50) (As := []) (rest := []) (c_X9_advance w n  q8.2) cw_X5_44 rfl rfl dX5_tellsBond_50 kc_1 rfl ⟨Nat.le_of_ble_eq_true rfl, Nat.le_of_ble_eq_true rfl⟩ rfl rfl (Nat.le_of_ble_eq_true rfl) (Nat.le_of_ble_eq_true rfl) (Nat.le_of_ble_eq_true rfl) rfl (fun q50 => ?_)
        refine V_aload_n (pc := 53) dX5_tellsBond_53 rfl rfl ?_
        refine V_iconst (pc := 54) (v := (1 : Int32)) dX5_tellsBond_54 rfl ?_
        refine V_bipush (pc := 55) (v := (9 : Int32)) dX5_tellsBond_55 rfl ?_
        refine V_callVi (pc := 57) (As := [.int (1 : Int32), .int (9 : Int32)]) (rest := []) (c_X5_takeNumber w n (1 : Int32) (9 : Int32) q50.2) cw_X5_59 rfl rfl dX5_tellsBond_57 kc_51 rfl ⟨Nat.le_of_ble_eq_true rfl, Nat.le_of_ble_eq_true rfl⟩ rfl rfl (Nat.le_of_ble_eq_true rfl) (Nat.le_of_ble_eq_true rfl) (Nat.le_of_ble_eq_true rfl) rfl (fun q57 => ?_)
        refine V_istore (pc := 60) (vs' := [some (.ref (wB w + 51)), some (.ref (wB w + h1)), some (.int q8.1), some (.int q30), some (.int q57.1), none]) dX5_tellsBond_60 (Nat.le_of_ble_eq_true rfl) (Nat.le_of_ble_eq_true rfl) rfl ?_
        refine V_iload (pc := 62) dX5_tellsBond_62 rfl ?_
        refine V_iconst (pc := 64) (v := (-1 : Int32)) dX5_tellsBond_64 rfl ?_
        refine V_icmp_eq (pc := 65) (tgt := 80) dX5_tellsBond_65 (by decide) ?_ ?_
        · refine V_sub (vs' := [none, none, none, none, none, none]) (show vless _ _ from trivial) rfl ?_
          exact hJ80 q57.2
        · refine V_aload_n (pc := 68) dX5_tellsBond_68 rfl rfl ?_
          refine V_getr (pc := 69) (t := 1) fk_X5_9 rfl dX5_tellsBond_69 kc_51 rfl ?_
          refine V_ldcS (pc := 72) (i := 25) (tx := "till") dX5_tellsBond_72 rfl (by decide +kernel) ?_
          refine V_callVi (pc := 74) (As := [.ref (wS w 25)]) (rest := []) (c_X9_skipWord w n 25 (by decide) q57.2) cw_X5_80 rfl rfl dX5_tellsBond_74 kc_1 rfl ⟨Nat.le_of_ble_eq_true rfl, Nat.le_of_ble_eq_true rfl⟩ rfl rfl (Nat.le_of_ble_eq_true rfl) (Nat.le_of_ble_eq_true rfl) (Nat.le_of_ble_eq_true rfl) rfl (fun q74 => ?_)
          refine V_if_ne (pc := 77) (tgt := 82) dX5_tellsBond_77 (by decide) ?_ ?_
          · refine V_aload_n (pc := 82) dX5_tellsBond_82 rfl rfl ?_
            refine V_iconst (pc := 83) (v := (1 : Int32)) dX5_tellsBond_83 rfl ?_
            refine V_sipush (pc := 84) (v := (999 : Int32)) dX5_tellsBond_84 rfl ?_
            refine V_callVi (pc := 87) (As := [.int (1 : Int32), .int (999 : Int32)]) (rest := []) (c_X5_takeNumber w n (1 : Int32) (999 : Int32) q74.2) cw_X5_59 rfl rfl dX5_tellsBond_87 kc_51 rfl ⟨Nat.le_of_ble_eq_true rfl, Nat.le_of_ble_eq_true rfl⟩ rfl rfl (Nat.le_of_ble_eq_true rfl) (Nat.le_of_ble_eq_true rfl) (Nat.le_of_ble_eq_true rfl) rfl (fun q87 => ?_)
            refine V_istore (pc := 90) (vs' := [some (.ref (wB w + 51)), some (.ref (wB w + h1)), some (.int q8.1), some (.int q30), some (.int q57.1), some (.int q87.1)]) dX5_tellsBond_90 (Nat.le_of_ble_eq_true rfl) (Nat.le_of_ble_eq_true rfl) rfl ?_
            refine V_iload (pc := 92) dX5_tellsBond_92 rfl ?_
            refine V_iconst (pc := 94) (v := (-1 : Int32)) dX5_tellsBond_94 rfl ?_
            refine V_icmp_ne (pc := 95) (tgt := 100) dX5_tellsBond_95 (by decide) ?_ ?_
            · refine V_aload_n (pc := 100) dX5_tellsBond_100 rfl rfl ?_
              refine V_iload_n (pc := 101) dX5_tellsBond_101 rfl rfl ?_
              refine V_iload_n (pc := 102) dX5_tellsBond_102 rfl rfl ?_
              refine V_iload (pc := 103) dX5_tellsBond_103 rfl ?_
              refine V_iload (pc := 105) dX5_tellsBond_105 rfl ?_
              refine V_callVv (pc := 107) (As := [.int q8.1, .int q30, .int q57.1, .int q87.1]) (rest := []) (c_X4_tie w h1 q8.1 q30 q57.1 q87.1 k_h1 q87.2) cw_X5_124 rfl rfl dX5_tellsBond_107 k_h1 rfl ⟨Nat.le_of_ble_eq_true rfl, Nat.le_of_ble_eq_true rfl⟩ rfl rfl (Nat.le_of_ble_eq_true rfl) (Nat.le_of_ble_eq_true rfl) (Nat.le_of_ble_eq_true rfl) rfl (fun q107 => ?_)
              refine V_iconst (pc := 110) (v := (1 : Int32)) dX5_tellsBond_110 rfl ?_
              exact V_iretz (pc := 111) dX5_tellsBond_111 rfl rfl (hk := fun h => h)
            · refine V_iconst (pc := 98) (v := (0 : Int32)) dX5_tellsBond_98 rfl ?_
              exact V_iretz (pc := 99) dX5_tellsBond_99 rfl rfl (hk := fun h => h)
          · refine V_sub (vs' := [none, none, none, none, none, none]) (show vless _ _ from trivial) rfl ?_
            exact hJ80 q74.2
      · refine V_sub (vs' := [none, none, none, none, none, none]) (show vless _ _ from trivial) rfl ?_
        exact hJ44 q8.2
  · refine V_iconst (pc := 17) (v := (0 : Int32)) dX5_tellsBond_17 rfl ?_
    exact V_iretz (pc := 18) dX5_tellsBond_18 rfl rfl (hk := fun h => h)
def J_X5_tellsLine_186 (n : Nat) (h1 : Nat) (t0 : Int32) (σ : MS) : Option (Int32 × MS) := (if t0 = 0 ∨ t0 = 1 then some (t0, σ) else none)
def J_X5_tellsLine_154 (n : Nat) (h1 : Nat) (t0 : Int32) (σ : MS) : Option (Int32 × MS) := (if t0 = 0 ∨ t0 = 1 then some (t0, σ) else none)
def J_X5_tellsLine_128 (n : Nat) (h1 : Nat) (t0 : Int32) (σ : MS) : Option (Int32 × MS) := (if t0 = 0 ∨ t0 = 1 then some (t0, σ) else none)
def J_X5_tellsLine_30 (n : Nat) (h1 : Nat) (v2 : Int32) (σ : MS) : Option (Int32 × MS) := ((f_X9_advance n  σ).bind (fun q34 => (if v2 = (0 : Int32) then ((f_X5_tellsPerson n h1 q34.2).bind (fun q82 => (if q82.1 = 0 ∨ q82.1 = 1 then some (q82.1, q82.2) else none))) else (if v2 = (1 : Int32) then ((f_X5_tellsLikes n h1 q34.2).bind (fun q88 => (if q88.1 = 0 ∨ q88.1 = 1 then some (q88.1, q88.2) else none))) else (if v2 = (2 : Int32) then ((f_X5_tellsWed n h1 q34.2).bind (fun q94 => (if q94.1 = 0 ∨ q94.1 = 1 then some (q94.1, q94.2) else none))) else (if v2 = (3 : Int32) then ((f_X5_tellsFlour n h1 q34.2).bind (fun q100 => (if q100.1 = 0 ∨ q100.1 = 1 then some (q100.1, q100.2) else none))) else (if v2 = (4 : Int32) then ((f_X5_takeNumber n (1 : Int32) (9 : Int32) q34.2).bind (fun q109 => (ltM (mu q109.2 h1 3 q109.1) (fun s112 => (if (s112 h1 3) = (-1 : Int32) then J_X5_tellsLine_128 n h1 (0 : Int32) s112 else J_X5_tellsLine_128 n h1 (1 : Int32) s112))))) else (if v2 = (5 : Int32) then ((f_X5_takeNumber n (1 : Int32) (400 : Int32) q34.2).bind (fun q135 => (ltM (mu q135.2 h1 4 q135.1) (fun s138 => (if (s138 h1 4) = (-1 : Int32) then J_X5_tellsLine_154 n h1 (0 : Int32) s138 else J_X5_tellsLine_154 n h1 (1 : Int32) s138))))) else (if v2 = (6 : Int32) then ((f_X5_tellsBond n h1 q34.2).bind (fun q157 => (if q157.1 = 0 ∨ q157.1 = 1 then some (q157.1, q157.2) else none))) else ((f_X5_takeNumber n (0 : Int32) (999 : Int32) q34.2).bind (fun q167 => (ltM (mu q167.2 h1 5 q167.1) (fun s170 => (if (s170 h1 5) = (-1 : Int32) then J_X5_tellsLine_186 n h1 (0 : Int32) s170 else J_X5_tellsLine_186 n h1 (1 : Int32) s170))))))))))))))
def J_X5_tellsLine_28 (n : Nat) (h1 : Nat) (σ : MS) : Option (Int32 × MS) := some ((0 : Int32), σ)
def f_X5_tellsLine (n : Nat) (h1 : Nat) (σ : MS) : Option (Int32 × MS) := ((f_X9_wordAmong n 23 σ).bind (fun q6 => (if q6 = (-1 : Int32) then J_X5_tellsLine_28 n h1 σ else (if q6 = 0 then (if (σ h1 0) < (8 : Int32) then J_X5_tellsLine_30 n h1 q6 σ else J_X5_tellsLine_28 n h1 σ) else J_X5_tellsLine_30 n h1 q6 σ))))
set_option maxRecDepth 20000 in
set_option maxHeartbeats 2000000 in
theorem c_X5_tellsLine (w : TG) (n : Nat) (h1 : Nat) (k_h1 : kd h1 = 4) (σ : MS) : MC m_X5_tellsLine w [.ref (wB w + 51), .ref (wB w + h1)] σ (f_X5_tellsLine n h1 σ) := by
  refine V_meth (by decide +kernel) (Nat.le_of_ble_eq_true rfl) (by intro v hv; simp only [List.mem_cons, List.not_mem_nil, or_false] at hv; rcases hv with rfl | rfl <;> rfl) (fun g x => ?_)
  show VV m_X5_tellsLine w g 0 0 (QM m_X5_tellsLine w g x) (fun b : Int32 × MS => b = x) 0 [some (.ref (wB w + 51)), some (.ref (wB w + h1)), none] [] σ (f_X5_tellsLine n h1 σ)
  have hJ186 : ∀ (t0 : Int32) (σ : MS), VV m_X5_tellsLine w g 0 0 (QM m_X5_tellsLine w g x) (fun b : Int32 × MS => b = x) 186 [none, none, none] [.int t0] σ (J_X5_tellsLine_186 n h1 t0 σ) := by
    intro t0 σ
    exact V_iretZ (pc := 186) dX5_tellsLine_186 rfl (hk := fun h => h)
  have hJ154 : ∀ (t0 : Int32) (σ : MS), VV m_X5_tellsLine w g 0 0 (QM m_X5_tellsLine w g x) (fun b : Int32 × MS => b = x) 154 [none, none, none] [.int t0] σ (J_X5_tellsLine_154 n h1 t0 σ) := by
    intro t0 σ
    exact V_iretZ (pc := 154) dX5_tellsLine_154 rfl (hk := fun h => h)
  have hJ128 : ∀ (t0 : Int32) (σ : MS), VV m_X5_tellsLine w g 0 0 (QM m_X5_tellsLine w g x) (fun b : Int32 × MS => b = x) 128 [none, none, none] [.int t0] σ (J_X5_tellsLine_128 n h1 t0 σ) := by
    intro t0 σ
    exact V_iretZ (pc := 128) dX5_tellsLine_128 rfl (hk := fun h => h)
  have hJ30 : ∀ (v2 : Int32) (σ : MS), VV m_X5_tellsLine w g 0 0 (QM m_X5_tellsLine w g x) (fun b : Int32 × MS => b = x) 30 [some (.ref (wB w + 51)), some (.ref (wB w + h1)), some (.int v2)] [] σ (J_X5_tellsLine_30 n h1 v2 σ) := by
    intro v2 σ
    refine V_aload_n (pc := 30) dX5_tellsLine_30 rfl rfl ?_
    refine V_getr (pc := 31) (t := 1) fk_X5_9 rfl dX5_tellsLine_31 kc_51 rfl ?_
    refine V_callVv (pc := 34) (As := []) (rest := []) (c_X9_advance w n  σ) cw_X5_44 rfl rfl dX5_tellsLine_34 kc_1 rfl ⟨Nat.le_of_ble_eq_true rfl, Nat.le_of_ble_eq_true rfl⟩ rfl rfl (Nat.le_of_ble_eq_true rfl) (Nat.le_of_ble_eq_true rfl) (Nat.le_of_ble_eq_true rfl) rfl (fun q34 => ?_)
    refine V_iload_n (pc := 37) dX5_tellsLine_37 rfl rfl ?_
    refine V_ite (c := v2 = (0 : Int32)) (fun hx => ?_) (fun hx0 => ?_)
    · refine V_tabIn (pc := 38) (x := v2) (tgt := 80) dX5_tellsLine_38 (by rw [hx]; decide) (by rw [hx]; decide) (by rw [hx]; rfl) (by decide) ?_
      refine V_aload_n (pc := 80) dX5_tellsLine_80 rfl rfl ?_
      refine V_aload_n (pc := 81) dX5_tellsLine_81 rfl rfl ?_
      refine V_callVi (pc := 82) (As := [.ref (wB w + h1)]) (rest := []) (c_X5_tellsPerson w n h1 k_h1 q34.2) cw_X5_47 rfl rfl dX5_tellsLine_82 kc_51 rfl ⟨Nat.le_of_ble_eq_true rfl, Nat.le_of_ble_eq_true rfl⟩ rfl rfl (Nat.le_of_ble_eq_true rfl) (Nat.le_of_ble_eq_true rfl) (Nat.le_of_ble_eq_true rfl) rfl (fun q82 => ?_)
      exact V_iretZ (pc := 85) dX5_tellsLine_85 rfl (hk := fun h => h)
    refine V_ite (c := v2 = (1 : Int32)) (fun hx => ?_) (fun hx1 => ?_)
    · refine V_tabIn (pc := 38) (x := v2) (tgt := 86) dX5_tellsLine_38 (by rw [hx]; decide) (by rw [hx]; decide) (by rw [hx]; rfl) (by decide) ?_
      refine V_aload_n (pc := 86) dX5_tellsLine_86 rfl rfl ?_
      refine V_aload_n (pc := 87) dX5_tellsLine_87 rfl rfl ?_
      refine V_callVi (pc := 88) (As := [.ref (wB w + h1)]) (rest := []) (c_X5_tellsLikes w n h1 k_h1 q34.2) cw_X5_50 rfl rfl dX5_tellsLine_88 kc_51 rfl ⟨Nat.le_of_ble_eq_true rfl, Nat.le_of_ble_eq_true rfl⟩ rfl rfl (Nat.le_of_ble_eq_true rfl) (Nat.le_of_ble_eq_true rfl) (Nat.le_of_ble_eq_true rfl) rfl (fun q88 => ?_)
      exact V_iretZ (pc := 91) dX5_tellsLine_91 rfl (hk := fun h => h)
    refine V_ite (c := v2 = (2 : Int32)) (fun hx => ?_) (fun hx2 => ?_)
    · refine V_tabIn (pc := 38) (x := v2) (tgt := 92) dX5_tellsLine_38 (by rw [hx]; decide) (by rw [hx]; decide) (by rw [hx]; rfl) (by decide) ?_
      refine V_aload_n (pc := 92) dX5_tellsLine_92 rfl rfl ?_
      refine V_aload_n (pc := 93) dX5_tellsLine_93 rfl rfl ?_
      refine V_callVi (pc := 94) (As := [.ref (wB w + h1)]) (rest := []) (c_X5_tellsWed w n h1 k_h1 q34.2) cw_X5_53 rfl rfl dX5_tellsLine_94 kc_51 rfl ⟨Nat.le_of_ble_eq_true rfl, Nat.le_of_ble_eq_true rfl⟩ rfl rfl (Nat.le_of_ble_eq_true rfl) (Nat.le_of_ble_eq_true rfl) (Nat.le_of_ble_eq_true rfl) rfl (fun q94 => ?_)
      exact V_iretZ (pc := 97) dX5_tellsLine_97 rfl (hk := fun h => h)
    refine V_ite (c := v2 = (3 : Int32)) (fun hx => ?_) (fun hx3 => ?_)
    · refine V_tabIn (pc := 38) (x := v2) (tgt := 98) dX5_tellsLine_38 (by rw [hx]; decide) (by rw [hx]; decide) (by rw [hx]; rfl) (by decide) ?_
      refine V_aload_n (pc := 98) dX5_tellsLine_98 rfl rfl ?_
      refine V_aload_n (pc := 99) dX5_tellsLine_99 rfl rfl ?_
      refine V_callVi (pc := 100) (As := [.ref (wB w + h1)]) (rest := []) (c_X5_tellsFlour w n h1 k_h1 q34.2) cw_X5_56 rfl rfl dX5_tellsLine_100 kc_51 rfl ⟨Nat.le_of_ble_eq_true rfl, Nat.le_of_ble_eq_true rfl⟩ rfl rfl (Nat.le_of_ble_eq_true rfl) (Nat.le_of_ble_eq_true rfl) (Nat.le_of_ble_eq_true rfl) rfl (fun q100 => ?_)
      exact V_iretZ (pc := 103) dX5_tellsLine_103 rfl (hk := fun h => h)
    refine V_ite (c := v2 = (4 : Int32)) (fun hx => ?_) (fun hx4 => ?_)
    · refine V_tabIn (pc := 38) (x := v2) (tgt := 104) dX5_tellsLine_38 (by rw [hx]; decide) (by rw [hx]; decide) (by rw [hx]; rfl) (by decide) ?_
      refine V_aload_n (pc := 104) dX5_tellsLine_104 rfl rfl ?_
      refine V_aload_n (pc := 105) dX5_tellsLine_105 rfl rfl ?_
      refine V_iconst (pc := 106) (v := (1 : Int32)) dX5_tellsLine_106 rfl ?_
      refine V_bipush (pc := 107) (v := (9 : Int32)) dX5_tellsLine_107 rfl ?_
      refine V_callVi (pc := 109) (As := [.int (1 : Int32), .int (9 : Int32)]) (rest := [.ref (wB w + h1)]) (c_X5_takeNumber w n (1 : Int32) (9 : Int32) q34.2) cw_X5_59 rfl rfl dX5_tellsLine_109 kc_51 rfl ⟨Nat.le_of_ble_eq_true rfl, Nat.le_of_ble_eq_true rfl⟩ rfl rfl (Nat.le_of_ble_eq_true rfl) (Nat.le_of_ble_eq_true rfl) (Nat.le_of_ble_eq_true rfl) rfl (fun q109 => ?_)
      refine V_puti (pc := 112) fp_X5_63 rfl dX5_tellsLine_112 k_h1 rfl (fun s112 => ?_)
      refine V_aload_n (pc := 115) dX5_tellsLine_115 rfl rfl ?_
      refine V_geti (pc := 116) fk_X5_63 rfl dX5_tellsLine_116 k_h1 rfl ?_
      refine V_iconst (pc := 119) (v := (-1 : Int32)) dX5_tellsLine_119 rfl ?_
      refine V_icmp_eq (pc := 120) (tgt := 127) dX5_tellsLine_120 (by decide) ?_ ?_
      · refine V_iconst (pc := 127) (v := (0 : Int32)) dX5_tellsLine_127 rfl ?_
        refine V_sub (vs' := [none, none, none]) (show vless _ _ from trivial) rfl ?_
        exact hJ128 (0 : Int32) s112
      · refine V_iconst (pc := 123) (v := (1 : Int32)) dX5_tellsLine_123 rfl ?_
        refine V_goto (pc := 124) (tgt := 128) dX5_tellsLine_124 (by decide) ?_
        refine V_sub (vs' := [none, none, none]) (show vless _ _ from trivial) rfl ?_
        exact hJ128 (1 : Int32) s112
    refine V_ite (c := v2 = (5 : Int32)) (fun hx => ?_) (fun hx5 => ?_)
    · refine V_tabIn (pc := 38) (x := v2) (tgt := 129) dX5_tellsLine_38 (by rw [hx]; decide) (by rw [hx]; decide) (by rw [hx]; rfl) (by decide) ?_
      refine V_aload_n (pc := 129) dX5_tellsLine_129 rfl rfl ?_
      refine V_aload_n (pc := 130) dX5_tellsLine_130 rfl rfl ?_
      refine V_iconst (pc := 131) (v := (1 : Int32)) dX5_tellsLine_131 rfl ?_
      refine V_sipush (pc := 132) (v := (400 : Int32)) dX5_tellsLine_132 rfl ?_
      refine V_callVi (pc := 135) (As := [.int (1 : Int32), .int (400 : Int32)]) (rest := [.ref (wB w + h1)]) (c_X5_takeNumber w n (1 : Int32) (400 : Int32) q34.2) cw_X5_59 rfl rfl dX5_tellsLine_135 kc_51 rfl ⟨Nat.le_of_ble_eq_true rfl, Nat.le_of_ble_eq_true rfl⟩ rfl rfl (Nat.le_of_ble_eq_true rfl) (Nat.le_of_ble_eq_true rfl) (Nat.le_of_ble_eq_true rfl) rfl (fun q135 => ?_)
      refine V_puti (pc := 138) fp_X5_66 rfl dX5_tellsLine_138 k_h1 rfl (fun s138 => ?_)
      refine V_aload_n (pc := 141) dX5_tellsLine_141 rfl rfl ?_
      refine V_geti (pc := 142) fk_X5_66 rfl dX5_tellsLine_142 k_h1 rfl ?_
      refine V_iconst (pc := 145) (v := (-1 : Int32)) dX5_tellsLine_145 rfl ?_
      refine V_icmp_eq (pc := 146) (tgt := 153) dX5_tellsLine_146 (by decide) ?_ ?_
      · refine V_iconst (pc := 153) (v := (0 : Int32)) dX5_tellsLine_153 rfl ?_
        refine V_sub (vs' := [none, none, none]) (show vless _ _ from trivial) rfl ?_
        exact hJ154 (0 : Int32) s138
      · refine V_iconst (pc := 149) (v := (1 : Int32)) dX5_tellsLine_149 rfl ?_
        refine V_goto (pc := 150) (tgt := 154) dX5_tellsLine_150 (by decide) ?_
        refine V_sub (vs' := [none, none, none]) (show vless _ _ from trivial) rfl ?_
        exact hJ154 (1 : Int32) s138
    refine V_ite (c := v2 = (6 : Int32)) (fun hx => ?_) (fun hx6 => ?_)
    · refine V_tabIn (pc := 38) (x := v2) (tgt := 155) dX5_tellsLine_38 (by rw [hx]; decide) (by rw [hx]; decide) (by rw [hx]; rfl) (by decide) ?_
      refine V_aload_n (pc := 155) dX5_tellsLine_155 rfl rfl ?_
      refine V_aload_n (pc := 156) dX5_tellsLine_156 rfl rfl ?_
      refine V_callVi (pc := 157) (As := [.ref (wB w + h1)]) (rest := []) (c_X5_tellsBond w n h1 k_h1 q34.2) cw_X5_69 rfl rfl dX5_tellsLine_157 kc_51 rfl ⟨Nat.le_of_ble_eq_true rfl, Nat.le_of_ble_eq_true rfl⟩ rfl rfl (Nat.le_of_ble_eq_true rfl) (Nat.le_of_ble_eq_true rfl) (Nat.le_of_ble_eq_true rfl) rfl (fun q157 => ?_)
      exact V_iretZ (pc := 160) dX5_tellsLine_160 rfl (hk := fun h => h)
    refine V_tabOut (pc := 38) (tgt := 161) dX5_tellsLine_38 (tabout v2 0 6 (by decide) (by decide) (fun k h1 h2 => ?_)) (by decide) ?_
    · rcases (show k = 0 ∨ k = 1 ∨ k = 2 ∨ k = 3 ∨ k = 4 ∨ k = 5 ∨ k = 6 by omega) with rfl | rfl | rfl | rfl | rfl | rfl | rfl
      · exact hx0
      · exact hx1
      · exact hx2
      · exact hx3
      · exact hx4
      · exact hx5
      · exact hx6
    · refine V_aload_n (pc := 161) dX5_tellsLine_161 rfl rfl ?_
      refine V_aload_n (pc := 162) dX5_tellsLine_162 rfl rfl ?_
      refine V_iconst (pc := 163) (v := (0 : Int32)) dX5_tellsLine_163 rfl ?_
      refine V_sipush (pc := 164) (v := (999 : Int32)) dX5_tellsLine_164 rfl ?_
      refine V_callVi (pc := 167) (As := [.int (0 : Int32), .int (999 : Int32)]) (rest := [.ref (wB w + h1)]) (c_X5_takeNumber w n (0 : Int32) (999 : Int32) q34.2) cw_X5_59 rfl rfl dX5_tellsLine_167 kc_51 rfl ⟨Nat.le_of_ble_eq_true rfl, Nat.le_of_ble_eq_true rfl⟩ rfl rfl (Nat.le_of_ble_eq_true rfl) (Nat.le_of_ble_eq_true rfl) (Nat.le_of_ble_eq_true rfl) rfl (fun q167 => ?_)
      refine V_puti (pc := 170) fp_X5_72 rfl dX5_tellsLine_170 k_h1 rfl (fun s170 => ?_)
      refine V_aload_n (pc := 173) dX5_tellsLine_173 rfl rfl ?_
      refine V_geti (pc := 174) fk_X5_72 rfl dX5_tellsLine_174 k_h1 rfl ?_
      refine V_iconst (pc := 177) (v := (-1 : Int32)) dX5_tellsLine_177 rfl ?_
      refine V_icmp_eq (pc := 178) (tgt := 185) dX5_tellsLine_178 (by decide) ?_ ?_
      · refine V_iconst (pc := 185) (v := (0 : Int32)) dX5_tellsLine_185 rfl ?_
        refine V_sub (vs' := [none, none, none]) (show vless _ _ from trivial) rfl ?_
        exact hJ186 (0 : Int32) s170
      · refine V_iconst (pc := 181) (v := (1 : Int32)) dX5_tellsLine_181 rfl ?_
        refine V_goto (pc := 182) (tgt := 186) dX5_tellsLine_182 (by decide) ?_
        refine V_sub (vs' := [none, none, none]) (show vless _ _ from trivial) rfl ?_
        exact hJ186 (1 : Int32) s170
  have hJ28 : ∀ (σ : MS), VV m_X5_tellsLine w g 0 0 (QM m_X5_tellsLine w g x) (fun b : Int32 × MS => b = x) 28 [none, none, none] [] σ (J_X5_tellsLine_28 n h1 σ) := by
    intro σ
    refine V_iconst (pc := 28) (v := (0 : Int32)) dX5_tellsLine_28 rfl ?_
    exact V_iretz (pc := 29) dX5_tellsLine_29 rfl rfl (hk := fun h => h)
  refine V_aload_n (pc := 0) dX5_tellsLine_0 rfl rfl ?_
  refine V_getr (pc := 1) (t := 1) fk_X5_9 rfl dX5_tellsLine_1 kc_51 rfl ?_
  refine V_ldcS (pc := 4) (i := 23) (tx := "person likes wed flour binds lasts bond day") dX5_tellsLine_4 rfl (by decide +kernel) ?_
  refine V_callVpi (pc := 6) (As := [.ref (wS w 23)]) (rest := []) (c_X9_wordAmong w n 23 (by decide) σ) cw_X5_34 rfl rfl dX5_tellsLine_6 kc_1 rfl ⟨Nat.le_of_ble_eq_true rfl, Nat.le_of_ble_eq_true rfl⟩ rfl rfl (Nat.le_of_ble_eq_true rfl) (Nat.le_of_ble_eq_true rfl) (Nat.le_of_ble_eq_true rfl) rfl (fun q6 => ?_)
  refine V_istore_n (pc := 9) (vs' := [some (.ref (wB w + 51)), some (.ref (wB w + h1)), some (.int q6)]) dX5_tellsLine_9 rfl (Nat.le_of_ble_eq_true rfl) (Nat.le_of_ble_eq_true rfl) rfl ?_
  refine V_iload_n (pc := 10) dX5_tellsLine_10 rfl rfl ?_
  refine V_iconst (pc := 11) (v := (-1 : Int32)) dX5_tellsLine_11 rfl ?_
  refine V_icmp_eq (pc := 12) (tgt := 28) dX5_tellsLine_12 (by decide) ?_ ?_
  · refine V_sub (vs' := [none, none, none]) (show vless _ _ from trivial) rfl ?_
    exact hJ28 σ
  · refine V_iload_n (pc := 15) dX5_tellsLine_15 rfl rfl ?_
    refine V_if_ne (pc := 16) (tgt := 30) dX5_tellsLine_16 (by decide) ?_ ?_
    · exact hJ30 q6 σ
    · refine V_aload_n (pc := 19) dX5_tellsLine_19 rfl rfl ?_
      refine V_geti (pc := 20) fk_X5_38 rfl dX5_tellsLine_20 k_h1 rfl ?_
      refine V_bipush (pc := 23) (v := (8 : Int32)) dX5_tellsLine_23 rfl ?_
      refine V_icmp_lt (pc := 25) (tgt := 30) dX5_tellsLine_25 (by decide) ?_ ?_
      · exact hJ30 q6 σ
      · refine V_sub (vs' := [none, none, none]) (show vless _ _ from trivial) rfl ?_
        exact hJ28 σ
def L_X5_tells_21 (n : Nat) (h1 : Nat) (σ : MS) (a21 : Int32 × MS) : Option ((Int32 × MS) ⊕ (Int32 × MS)) := (if (14 : Int32) ≤ a21.1 then (some ((0 : Int32), a21.2)).map Sum.inr else ((f_X5_tellsLine n h1 a21.2).bind (fun q29 => (if q29.1 = 0 then (some ((0 : Int32), q29.2)).map Sum.inr else ((f_X9_isOver  q29.2).bind (fun q41 => (if q41 = 0 then ((f_X9_skipSign n (59 : Int32) q29.2).bind (fun q55 => (if q55.1 = 0 then (some ((0 : Int32), q55.2)).map Sum.inr else some (.inl ((a21.1 + (1 : Int32)), q55.2))))) else (some ((1 : Int32), q29.2)).map Sum.inr)))))))
def f_X5_tells (n : Nat) (h1 : Nat) (σ : MS) : Option (Int32 × MS) := ((f_X9_begin n  σ).bind (fun q4 => ((f_X9_isOver  q4.2).bind (fun q11 => (if q11 = 0 then itr (L_X5_tells_21 n h1 σ) n ((0 : Int32), q4.2) else some ((1 : Int32), q4.2))))))
set_option maxRecDepth 20000 in
set_option maxHeartbeats 2000000 in
theorem c_X5_tells (w : TG) (n : Nat) (h1 : Nat) (k_h1 : kd h1 = 4) (σ : MS) : MC m_X5_tells w [.ref (wB w + 51), .ref (wB w + h1)] σ (f_X5_tells n h1 σ) := by
  refine V_meth (by decide +kernel) (Nat.le_of_ble_eq_true rfl) (by intro v hv; simp only [List.mem_cons, List.not_mem_nil, or_false] at hv; rcases hv with rfl | rfl <;> rfl) (fun g x => ?_)
  show VV m_X5_tells w g 0 0 (QM m_X5_tells w g x) (fun b : Int32 × MS => b = x) 0 [some (.ref (wB w + 51)), some (.ref (wB w + h1)), none] [] σ (f_X5_tells n h1 σ)
  have hL21 : ∀  (n0 : Nat) (a : Int32 × MS), VV m_X5_tells w g 0 0 (QM m_X5_tells w g x) (fun b : Int32 × MS => b = x) 21 [some (.ref (wB w + 51)), some (.ref (wB w + h1)), some (.int a.1)] [] a.2 (itr (L_X5_tells_21 n h1 σ) n0 a) := by
    refine V_itr (vf := fun a : Int32 × MS => [some (.ref (wB w + 51)), some (.ref (wB w + h1)), some (.int a.1)]) (sf := fun a : Int32 × MS => a.2) (fun κ21 b21 r21 a21 => ?_)
    show VV m_X5_tells w g 0 0 (QM m_X5_tells w g x) κ21 21 [some (.ref (wB w + 51)), some (.ref (wB w + h1)), some (.int a21.1)] [] a21.2 (L_X5_tells_21 n h1 σ a21)
    refine V_iload_n (pc := 21) dX5_tells_21 rfl rfl ?_
    refine V_bipush (pc := 22) (v := (14 : Int32)) dX5_tells_22 rfl ?_
    refine V_icmp_ge (pc := 24) (tgt := 69) dX5_tells_24 (by decide) ?_ ?_
    · refine V_exit r21 ?_
      refine V_iconst (pc := 69) (v := (0 : Int32)) dX5_tells_69 rfl ?_
      exact V_iretz (pc := 70) dX5_tells_70 rfl rfl (hk := fun h => h)
    · refine V_aload_n (pc := 27) dX5_tells_27 rfl rfl ?_
      refine V_aload_n (pc := 28) dX5_tells_28 rfl rfl ?_
      refine V_callVi (pc := 29) (As := [.ref (wB w + h1)]) (rest := []) (c_X5_tellsLine w n h1 k_h1 a21.2) cw_X5_24 rfl rfl dX5_tells_29 kc_51 rfl ⟨Nat.le_of_ble_eq_true rfl, Nat.le_of_ble_eq_true rfl⟩ rfl rfl (Nat.le_of_ble_eq_true rfl) (Nat.le_of_ble_eq_true rfl) (Nat.le_of_ble_eq_true rfl) rfl (fun q29 => ?_)
      refine V_if_ne (pc := 32) (tgt := 37) dX5_tells_32 (by decide) ?_ ?_
      · refine V_aload_n (pc := 37) dX5_tells_37 rfl rfl ?_
        refine V_getr (pc := 38) (t := 1) fk_X5_9 rfl dX5_tells_38 kc_51 rfl ?_
        refine V_callVpi (pc := 41) (As := []) (rest := []) (c_X9_isOver w  q29.2) cw_X5_20 rfl rfl dX5_tells_41 kc_1 rfl ⟨Nat.le_of_ble_eq_true rfl, Nat.le_of_ble_eq_true rfl⟩ rfl rfl (Nat.le_of_ble_eq_true rfl) (Nat.le_of_ble_eq_true rfl) (Nat.le_of_ble_eq_true rfl) rfl (fun q41 => ?_)
        refine V_if_eq (pc := 44) (tgt := 49) dX5_tells_44 (by decide) ?_ ?_
        · refine V_aload_n (pc := 49) dX5_tells_49 rfl rfl ?_
          refine V_getr (pc := 50) (t := 1) fk_X5_9 rfl dX5_tells_50 kc_51 rfl ?_
          refine V_bipush (pc := 53) (v := (59 : Int32)) dX5_tells_53 rfl ?_
          refine V_callVi (pc := 55) (As := [.int (59 : Int32)]) (rest := []) (c_X9_skipSign w n (59 : Int32) q29.2) cw_X5_28 rfl rfl dX5_tells_55 kc_1 rfl ⟨Nat.le_of_ble_eq_true rfl, Nat.le_of_ble_eq_true rfl⟩ rfl rfl (Nat.le_of_ble_eq_true rfl) (Nat.le_of_ble_eq_true rfl) (Nat.le_of_ble_eq_true rfl) rfl (fun q55 => ?_)
          refine V_if_ne (pc := 58) (tgt := 63) dX5_tells_58 (by decide) ?_ ?_
          · refine V_iinc (pc := 63) (v := (a21.1 + (1 : Int32))) (vs' := [some (.ref (wB w + 51)), some (.ref (wB w + h1)), some (.int (a21.1 + (1 : Int32)))]) dX5_tells_63 (Nat.le_of_ble_eq_true rfl) rfl rfl rfl ?_
            refine V_goto (pc := 66) (tgt := 21) dX5_tells_66 (by decide) ?_
            exact V_back (b21 ((a21.1 + (1 : Int32)), q55.2))
          · refine V_exit r21 ?_
            refine V_iconst (pc := 61) (v := (0 : Int32)) dX5_tells_61 rfl ?_
            exact V_iretz (pc := 62) dX5_tells_62 rfl rfl (hk := fun h => h)
        · refine V_exit r21 ?_
          refine V_iconst (pc := 47) (v := (1 : Int32)) dX5_tells_47 rfl ?_
          exact V_iretz (pc := 48) dX5_tells_48 rfl rfl (hk := fun h => h)
      · refine V_exit r21 ?_
        refine V_iconst (pc := 35) (v := (0 : Int32)) dX5_tells_35 rfl ?_
        exact V_iretz (pc := 36) dX5_tells_36 rfl rfl (hk := fun h => h)
  refine V_aload_n (pc := 0) dX5_tells_0 rfl rfl ?_
  refine V_getr (pc := 1) (t := 1) fk_X5_9 rfl dX5_tells_1 kc_51 rfl ?_
  refine V_callVv (pc := 4) (As := []) (rest := []) (c_X9_begin w n  σ) cw_X5_15 rfl rfl dX5_tells_4 kc_1 rfl ⟨Nat.le_of_ble_eq_true rfl, Nat.le_of_ble_eq_true rfl⟩ rfl rfl (Nat.le_of_ble_eq_true rfl) (Nat.le_of_ble_eq_true rfl) (Nat.le_of_ble_eq_true rfl) rfl (fun q4 => ?_)
  refine V_aload_n (pc := 7) dX5_tells_7 rfl rfl ?_
  refine V_getr (pc := 8) (t := 1) fk_X5_9 rfl dX5_tells_8 kc_51 rfl ?_
  refine V_callVpi (pc := 11) (As := []) (rest := []) (c_X9_isOver w  q4.2) cw_X5_20 rfl rfl dX5_tells_11 kc_1 rfl ⟨Nat.le_of_ble_eq_true rfl, Nat.le_of_ble_eq_true rfl⟩ rfl rfl (Nat.le_of_ble_eq_true rfl) (Nat.le_of_ble_eq_true rfl) (Nat.le_of_ble_eq_true rfl) rfl (fun q11 => ?_)
  refine V_if_eq (pc := 14) (tgt := 19) dX5_tells_14 (by decide) ?_ ?_
  · refine V_iconst (pc := 19) (v := (0 : Int32)) dX5_tells_19 rfl ?_
    refine V_istore_n (pc := 20) (vs' := [some (.ref (wB w + 51)), some (.ref (wB w + h1)), some (.int (0 : Int32))]) dX5_tells_20 rfl (Nat.le_of_ble_eq_true rfl) (Nat.le_of_ble_eq_true rfl) rfl ?_
    exact hL21 n ((0 : Int32), q4.2)
  · refine V_iconst (pc := 17) (v := (1 : Int32)) dX5_tells_17 rfl ?_
    exact V_iretz (pc := 18) dX5_tells_18 rfl rfl (hk := fun h => h)
def f_X6_begin (h0 : Nat) (σ : MS) : Option (Int32 × MS) := (ltM (mu σ h0 0 (0 : Int32)) (fun s2 => (ltM (mu s2 h0 1 (0 : Int32)) (fun s7 => some (0, s7)))))
set_option maxRecDepth 20000 in
set_option maxHeartbeats 2000000 in
theorem c_X6_begin (w : TG) (h0 : Nat) (k_h0 : kd h0 = 6) (σ : MS) : MC m_X6_begin w [.ref (wB w + h0)] σ (f_X6_begin h0 σ) := by
  refine V_meth (by decide +kernel) (Nat.le_of_ble_eq_true rfl) (by intro v hv; simp only [List.mem_cons, List.not_mem_nil, or_false] at hv; subst hv; rfl) (fun g x => ?_)
  show VV m_X6_begin w g 0 0 (QM m_X6_begin w g x) (fun b : Int32 × MS => b = x) 0 [some (.ref (wB w + h0))] [] σ (f_X6_begin h0 σ)
  refine V_aload_n (pc := 0) dX6_begin_0 rfl rfl ?_
  refine V_iconst (pc := 1) (v := (0 : Int32)) dX6_begin_1 rfl ?_
  refine V_puti (pc := 2) fp_X6_9 rfl dX6_begin_2 k_h0 rfl (fun s2 => ?_)
  refine V_aload_n (pc := 5) dX6_begin_5 rfl rfl ?_
  refine V_iconst (pc := 6) (v := (0 : Int32)) dX6_begin_6 rfl ?_
  refine V_puti (pc := 7) fp_X6_34 rfl dX6_begin_7 k_h0 rfl (fun s7 => ?_)
  exact V_ret (pc := 10) dX6_begin_10 rfl (hk := fun h => h)
def J_X6_addStep_32 (h0 : Nat) (σ : MS) : Option (Int32 × MS) := some (0, σ)
def f_X6_addStep (h0 : Nat) (p1 : Int32) (σ : MS) : Option (Int32 × MS) := (if (400 : Int32) ≤ (σ h0 1) then J_X6_addStep_32 h0 σ else (if inb (σ h0 1) 400 then ltM (mu σ (h0 + 4) (ix (σ h0 1)) p1) (fun s21 => (ltM (mu s21 h0 1 ((s21 h0 1) + (1 : Int32))) (fun s29 => J_X6_addStep_32 h0 s29))) else none))
set_option maxRecDepth 20000 in
set_option maxHeartbeats 2000000 in
theorem c_X6_addStep (w : TG) (h0 : Nat) (p1 : Int32) (k_h0 : kd h0 = 6) (σ : MS) : MC m_X6_addStep w [.ref (wB w + h0), .int p1] σ (f_X6_addStep h0 p1 σ) := by
  refine V_meth (by decide +kernel) (Nat.le_of_ble_eq_true rfl) (by intro v hv; simp only [List.mem_cons, List.not_mem_nil, or_false] at hv; rcases hv with rfl | rfl <;> rfl) (fun g x => ?_)
  show VV m_X6_addStep w g 0 0 (QM m_X6_addStep w g x) (fun b : Int32 × MS => b = x) 0 [some (.ref (wB w + h0)), some (.int p1)] [] σ (f_X6_addStep h0 p1 σ)
  have hJ32 : ∀ (σ : MS), VV m_X6_addStep w g 0 0 (QM m_X6_addStep w g x) (fun b : Int32 × MS => b = x) 32 [none, none] [] σ (J_X6_addStep_32 h0 σ) := by
    intro σ
    exact V_ret (pc := 32) dX6_addStep_32 rfl (hk := fun h => h)
  refine V_aload_n (pc := 0) dX6_addStep_0 rfl rfl ?_
  refine V_geti (pc := 1) fk_X6_34 rfl dX6_addStep_1 k_h0 rfl ?_
  refine V_aload_n (pc := 4) dX6_addStep_4 rfl rfl ?_
  refine V_getr (pc := 5) (t := (h0 + 4)) fk_X6_25 rfl dX6_addStep_5 k_h0 rfl ?_
  refine V_alen (pc := 8) (v := 400) dX6_addStep_8 (lA4 k_h0).1 (by rw [(lA4 k_h0).2]; rfl) ?_
  refine V_icmp_ge (pc := 9) (tgt := 32) dX6_addStep_9 (by decide) ?_ ?_
  · refine V_sub (vs' := [none, none]) (show vless _ _ from trivial) rfl ?_
    exact hJ32 σ
  · refine V_aload_n (pc := 12) dX6_addStep_12 rfl rfl ?_
    refine V_getr (pc := 13) (t := (h0 + 4)) fk_X6_25 rfl dX6_addStep_13 k_h0 rfl ?_
    refine V_aload_n (pc := 16) dX6_addStep_16 rfl rfl ?_
    refine V_geti (pc := 17) fk_X6_34 rfl dX6_addStep_17 k_h0 rfl ?_
    refine V_iload_n (pc := 20) dX6_addStep_20 rfl rfl ?_
    refine V_iast (pc := 21) (n := 400) dX6_addStep_21 (lA4 k_h0).1 (lA4 k_h0).2 (fun s21 => ?_)
    refine V_aload_n (pc := 22) dX6_addStep_22 rfl rfl ?_
    refine V_dup (pc := 23) dX6_addStep_23 rfl ?_
    refine V_geti (pc := 24) fk_X6_34 rfl dX6_addStep_24 k_h0 rfl ?_
    refine V_iconst (pc := 27) (v := (1 : Int32)) dX6_addStep_27 rfl ?_
    refine V_iadd (pc := 28) dX6_addStep_28 ?_
    refine V_puti (pc := 29) fp_X6_34 rfl dX6_addStep_29 k_h0 rfl (fun s29 => ?_)
    refine V_sub (vs' := [none, none]) (show vless _ _ from trivial) rfl ?_
    exact hJ32 s29
def J_X7_tellsSum_82 (n : Nat) (h1 : Nat) (v2 : Int32) (σ : MS) : Option ((Int32 × MS) ⊕ (Int32 × MS)) := ((f_X9_isSign (43 : Int32) σ).bind (fun q88 => (if q88 = 0 then (some ((1 : Int32), σ)).map Sum.inr else ((f_X9_advance n  σ).bind (fun q100 => some (.inl ((v2 + (1 : Int32)), q100.2)))))))
def J_X7_tellsSum_61 (n : Nat) (h1 : Nat) (v2 : Int32) (t0 : Int32) (σ : MS) : Option ((Int32 × MS) ⊕ (Int32 × MS)) := ((f_X6_addStep h1 t0 σ).bind (fun q61 => ((f_X9_advance n  q61.2).bind (fun q68 => (if v2 ≤ 0 then J_X7_tellsSum_82 n h1 v2 q68.2 else ((f_X6_addStep h1 (2003 : Int32) q68.2).bind (fun q79 => J_X7_tellsSum_82 n h1 v2 q79.2)))))))
def J_X7_tellsSum_45 (n : Nat) (h1 : Nat) (v2 : Int32) (v3 : Int32) (v4 : Int32) (σ : MS) : Option ((Int32 × MS) ⊕ (Int32 × MS)) := (if v3 = (-1 : Int32) then J_X7_tellsSum_61 n h1 v2 ((1000 : Int32) + v4) σ else J_X7_tellsSum_61 n h1 v2 v3 σ)
def L_X7_tellsSum_2 (n : Nat) (h1 : Nat) (σ : MS) (a2 : Int32 × MS) : Option ((Int32 × MS) ⊕ (Int32 × MS)) := (if (400 : Int32) ≤ a2.1 then (some ((0 : Int32), a2.2)).map Sum.inr else ((f_X9_number n (0 : Int32) (999 : Int32) a2.2).bind (fun q17 => ((f_X9_wordAmong n 32 a2.2).bind (fun q27 => (if q17 = (-1 : Int32) then (if q27 = (-1 : Int32) then (some ((0 : Int32), a2.2)).map Sum.inr else J_X7_tellsSum_45 n h1 a2.1 q17 q27 a2.2) else J_X7_tellsSum_45 n h1 a2.1 q17 q27 a2.2))))))
def f_X7_tellsSum (n : Nat) (h1 : Nat) (σ : MS) : Option (Int32 × MS) := itr (L_X7_tellsSum_2 n h1 σ) n ((0 : Int32), σ)
set_option maxRecDepth 20000 in
set_option maxHeartbeats 2000000 in
theorem c_X7_tellsSum (w : TG) (n : Nat) (h1 : Nat) (k_h1 : kd h1 = 6) (σ : MS) : MC m_X7_tellsSum w [.ref (wB w + 52), .ref (wB w + h1)] σ (f_X7_tellsSum n h1 σ) := by
  refine V_meth (by decide +kernel) (Nat.le_of_ble_eq_true rfl) (by intro v hv; simp only [List.mem_cons, List.not_mem_nil, or_false] at hv; rcases hv with rfl | rfl <;> rfl) (fun g x => ?_)
  show VV m_X7_tellsSum w g 0 0 (QM m_X7_tellsSum w g x) (fun b : Int32 × MS => b = x) 0 [some (.ref (wB w + 52)), some (.ref (wB w + h1)), none, none, none] [] σ (f_X7_tellsSum n h1 σ)
  have hL2 : ∀  (n0 : Nat) (a : Int32 × MS), VV m_X7_tellsSum w g 0 0 (QM m_X7_tellsSum w g x) (fun b : Int32 × MS => b = x) 2 [some (.ref (wB w + 52)), some (.ref (wB w + h1)), some (.int a.1), none, none] [] a.2 (itr (L_X7_tellsSum_2 n h1 σ) n0 a) := by
    refine V_itr (vf := fun a : Int32 × MS => [some (.ref (wB w + 52)), some (.ref (wB w + h1)), some (.int a.1), none, none]) (sf := fun a : Int32 × MS => a.2) (fun κ2 b2 r2 a2 => ?_)
    show VV m_X7_tellsSum w g 0 0 (QM m_X7_tellsSum w g x) κ2 2 [some (.ref (wB w + 52)), some (.ref (wB w + h1)), some (.int a2.1), none, none] [] a2.2 (L_X7_tellsSum_2 n h1 σ a2)
    have hJ82 : ∀ (v2 : Int32) (σ : MS), VV m_X7_tellsSum w g 0 0 (QM m_X7_tellsSum w g x) κ2 82 [some (.ref (wB w + 52)), some (.ref (wB w + h1)), some (.int v2), none, none] [] σ (J_X7_tellsSum_82 n h1 v2 σ) := by
      intro v2 σ
      refine V_aload_n (pc := 82) dX7_tellsSum_82 rfl rfl ?_
      refine V_getr (pc := 83) (t := 1) fk_X7_9 rfl dX7_tellsSum_83 kc_52 rfl ?_
      refine V_bipush (pc := 86) (v := (43 : Int32)) dX7_tellsSum_86 rfl ?_
      refine V_callVpi (pc := 88) (As := [.int (43 : Int32)]) (rest := []) (c_X9_isSign w (43 : Int32) σ) cw_X7_75 rfl rfl dX7_tellsSum_88 kc_1 rfl ⟨Nat.le_of_ble_eq_true rfl, Nat.le_of_ble_eq_true rfl⟩ rfl rfl (Nat.le_of_ble_eq_true rfl) (Nat.le_of_ble_eq_true rfl) (Nat.le_of_ble_eq_true rfl) rfl (fun q88 => ?_)
      refine V_if_ne (pc := 91) (tgt := 96) dX7_tellsSum_91 (by decide) ?_ ?_
      · refine V_aload_n (pc := 96) dX7_tellsSum_96 rfl rfl ?_
        refine V_getr (pc := 97) (t := 1) fk_X7_9 rfl dX7_tellsSum_97 kc_52 rfl ?_
        refine V_callVv (pc := 100) (As := []) (rest := []) (c_X9_advance w n  σ) cw_X7_41 rfl rfl dX7_tellsSum_100 kc_1 rfl ⟨Nat.le_of_ble_eq_true rfl, Nat.le_of_ble_eq_true rfl⟩ rfl rfl (Nat.le_of_ble_eq_true rfl) (Nat.le_of_ble_eq_true rfl) (Nat.le_of_ble_eq_true rfl) rfl (fun q100 => ?_)
        refine V_iinc (pc := 103) (v := (v2 + (1 : Int32))) (vs' := [some (.ref (wB w + 52)), some (.ref (wB w + h1)), some (.int (v2 + (1 : Int32))), none, none]) dX7_tellsSum_103 (Nat.le_of_ble_eq_true rfl) rfl rfl rfl ?_
        refine V_goto (pc := 106) (tgt := 2) dX7_tellsSum_106 (by decide) ?_
        exact V_back (b2 ((v2 + (1 : Int32)), q100.2))
      · refine V_exit r2 ?_
        refine V_iconst (pc := 94) (v := (1 : Int32)) dX7_tellsSum_94 rfl ?_
        exact V_iretz (pc := 95) dX7_tellsSum_95 rfl rfl (hk := fun h => h)
    have hJ61 : ∀ (v2 : Int32) (t0 : Int32) (σ : MS), VV m_X7_tellsSum w g 0 0 (QM m_X7_tellsSum w g x) κ2 61 [some (.ref (wB w + 52)), some (.ref (wB w + h1)), some (.int v2), none, none] [.int t0, .ref (wB w + h1)] σ (J_X7_tellsSum_61 n h1 v2 t0 σ) := by
      intro v2 t0 σ
      refine V_callVv (pc := 61) (As := [.int t0]) (rest := []) (c_X6_addStep w h1 t0 k_h1 σ) cw_X7_65 rfl rfl dX7_tellsSum_61 k_h1 rfl ⟨Nat.le_of_ble_eq_true rfl, Nat.le_of_ble_eq_true rfl⟩ rfl rfl (Nat.le_of_ble_eq_true rfl) (Nat.le_of_ble_eq_true rfl) (Nat.le_of_ble_eq_true rfl) rfl (fun q61 => ?_)
      refine V_aload_n (pc := 64) dX7_tellsSum_64 rfl rfl ?_
      refine V_getr (pc := 65) (t := 1) fk_X7_9 rfl dX7_tellsSum_65 kc_52 rfl ?_
      refine V_callVv (pc := 68) (As := []) (rest := []) (c_X9_advance w n  q61.2) cw_X7_41 rfl rfl dX7_tellsSum_68 kc_1 rfl ⟨Nat.le_of_ble_eq_true rfl, Nat.le_of_ble_eq_true rfl⟩ rfl rfl (Nat.le_of_ble_eq_true rfl) (Nat.le_of_ble_eq_true rfl) (Nat.le_of_ble_eq_true rfl) rfl (fun q68 => ?_)
      refine V_iload_n (pc := 71) dX7_tellsSum_71 rfl rfl ?_
      refine V_if_le (pc := 72) (tgt := 82) dX7_tellsSum_72 (by decide) ?_ ?_
      · exact hJ82 v2 q68.2
      · refine V_aload_n (pc := 75) dX7_tellsSum_75 rfl rfl ?_
        refine V_sipush (pc := 76) (v := (2003 : Int32)) dX7_tellsSum_76 rfl ?_
        refine V_callVv (pc := 79) (As := [.int (2003 : Int32)]) (rest := []) (c_X6_addStep w h1 (2003 : Int32) k_h1 q68.2) cw_X7_65 rfl rfl dX7_tellsSum_79 k_h1 rfl ⟨Nat.le_of_ble_eq_true rfl, Nat.le_of_ble_eq_true rfl⟩ rfl rfl (Nat.le_of_ble_eq_true rfl) (Nat.le_of_ble_eq_true rfl) (Nat.le_of_ble_eq_true rfl) rfl (fun q79 => ?_)
        exact hJ82 v2 q79.2
    have hJ45 : ∀ (v2 : Int32) (v3 : Int32) (v4 : Int32) (σ : MS), VV m_X7_tellsSum w g 0 0 (QM m_X7_tellsSum w g x) κ2 45 [some (.ref (wB w + 52)), some (.ref (wB w + h1)), some (.int v2), some (.int v3), some (.int v4)] [] σ (J_X7_tellsSum_45 n h1 v2 v3 v4 σ) := by
      intro v2 v3 v4 σ
      refine V_aload_n (pc := 45) dX7_tellsSum_45 rfl rfl ?_
      refine V_iload_n (pc := 46) dX7_tellsSum_46 rfl rfl ?_
      refine V_iconst (pc := 47) (v := (-1 : Int32)) dX7_tellsSum_47 rfl ?_
      refine V_icmp_eq (pc := 48) (tgt := 55) dX7_tellsSum_48 (by decide) ?_ ?_
      · refine V_sipush (pc := 55) (v := (1000 : Int32)) dX7_tellsSum_55 rfl ?_
        refine V_iload (pc := 58) dX7_tellsSum_58 rfl ?_
        refine V_iadd (pc := 60) dX7_tellsSum_60 ?_
        refine V_sub (vs' := [some (.ref (wB w + 52)), some (.ref (wB w + h1)), some (.int v2), none, none]) (show vless _ _ from ⟨rfl, ⟨rfl, ⟨rfl, trivial⟩⟩⟩) rfl ?_
        exact hJ61 v2 ((1000 : Int32) + v4) σ
      · refine V_iload_n (pc := 51) dX7_tellsSum_51 rfl rfl ?_
        refine V_goto (pc := 52) (tgt := 61) dX7_tellsSum_52 (by decide) ?_
        refine V_sub (vs' := [some (.ref (wB w + 52)), some (.ref (wB w + h1)), some (.int v2), none, none]) (show vless _ _ from ⟨rfl, ⟨rfl, ⟨rfl, trivial⟩⟩⟩) rfl ?_
        exact hJ61 v2 v3 σ
    refine V_iload_n (pc := 2) dX7_tellsSum_2 rfl rfl ?_
    refine V_sipush (pc := 3) (v := (400 : Int32)) dX7_tellsSum_3 rfl ?_
    refine V_icmp_ge (pc := 6) (tgt := 109) dX7_tellsSum_6 (by decide) ?_ ?_
    · refine V_exit r2 ?_
      refine V_iconst (pc := 109) (v := (0 : Int32)) dX7_tellsSum_109 rfl ?_
      exact V_iretz (pc := 110) dX7_tellsSum_110 rfl rfl (hk := fun h => h)
    · refine V_aload_n (pc := 9) dX7_tellsSum_9 rfl rfl ?_
      refine V_getr (pc := 10) (t := 1) fk_X7_9 rfl dX7_tellsSum_10 kc_52 rfl ?_
      refine V_iconst (pc := 13) (v := (0 : Int32)) dX7_tellsSum_13 rfl ?_
      refine V_sipush (pc := 14) (v := (999 : Int32)) dX7_tellsSum_14 rfl ?_
      refine V_callVpi (pc := 17) (As := [.int (0 : Int32), .int (999 : Int32)]) (rest := []) (c_X9_number w n (0 : Int32) (999 : Int32) a2.2) cw_X7_44 rfl rfl dX7_tellsSum_17 kc_1 rfl ⟨Nat.le_of_ble_eq_true rfl, Nat.le_of_ble_eq_true rfl⟩ rfl rfl (Nat.le_of_ble_eq_true rfl) (Nat.le_of_ble_eq_true rfl) (Nat.le_of_ble_eq_true rfl) rfl (fun q17 => ?_)
      refine V_istore_n (pc := 20) (vs' := [some (.ref (wB w + 52)), some (.ref (wB w + h1)), some (.int a2.1), some (.int q17), none]) dX7_tellsSum_20 rfl (Nat.le_of_ble_eq_true rfl) (Nat.le_of_ble_eq_true rfl) rfl ?_
      refine V_aload_n (pc := 21) dX7_tellsSum_21 rfl rfl ?_
      refine V_getr (pc := 22) (t := 1) fk_X7_9 rfl dX7_tellsSum_22 kc_52 rfl ?_
      refine V_ldcS (pc := 25) (i := 32) (tx := "one other sip many liking day") dX7_tellsSum_25 rfl (by decide +kernel) ?_
      refine V_callVpi (pc := 27) (As := [.ref (wS w 32)]) (rest := []) (c_X9_wordAmong w n 32 (by decide) a2.2) cw_X7_37 rfl rfl dX7_tellsSum_27 kc_1 rfl ⟨Nat.le_of_ble_eq_true rfl, Nat.le_of_ble_eq_true rfl⟩ rfl rfl (Nat.le_of_ble_eq_true rfl) (Nat.le_of_ble_eq_true rfl) (Nat.le_of_ble_eq_true rfl) rfl (fun q27 => ?_)
      refine V_istore (pc := 30) (vs' := [some (.ref (wB w + 52)), some (.ref (wB w + h1)), some (.int a2.1), some (.int q17), some (.int q27)]) dX7_tellsSum_30 (Nat.le_of_ble_eq_true rfl) (Nat.le_of_ble_eq_true rfl) rfl ?_
      refine V_iload_n (pc := 32) dX7_tellsSum_32 rfl rfl ?_
      refine V_iconst (pc := 33) (v := (-1 : Int32)) dX7_tellsSum_33 rfl ?_
      refine V_icmp_ne (pc := 34) (tgt := 45) dX7_tellsSum_34 (by decide) ?_ ?_
      · exact hJ45 a2.1 q17 q27 a2.2
      · refine V_iload (pc := 37) dX7_tellsSum_37 rfl ?_
        refine V_iconst (pc := 39) (v := (-1 : Int32)) dX7_tellsSum_39 rfl ?_
        refine V_icmp_ne (pc := 40) (tgt := 45) dX7_tellsSum_40 (by decide) ?_ ?_
        · exact hJ45 a2.1 q17 q27 a2.2
        · refine V_exit r2 ?_
          refine V_iconst (pc := 43) (v := (0 : Int32)) dX7_tellsSum_43 rfl ?_
          exact V_iretz (pc := 44) dX7_tellsSum_44 rfl rfl (hk := fun h => h)
  refine V_iconst (pc := 0) (v := (0 : Int32)) dX7_tellsSum_0 rfl ?_
  refine V_istore_n (pc := 1) (vs' := [some (.ref (wB w + 52)), some (.ref (wB w + h1)), some (.int (0 : Int32)), none, none]) dX7_tellsSum_1 rfl (Nat.le_of_ble_eq_true rfl) (Nat.le_of_ble_eq_true rfl) rfl ?_
  exact hL2 n ((0 : Int32), σ)
def IH_gt (d : Nat) (r : RT_gt) : Prop := (∀ (w : TG) (h1 : Nat) (p2 : Int32) (k_h1 : kd h1 = 6) (σ : MS), MC (mr_X7_tellsAtom d) w [.ref (wB w + 52), .ref (wB w + h1), .int p2] σ (r.1 h1 p2 σ)) ∧ (∀ (w : TG) (h1 : Nat) (p2 : Int32) (k_h1 : kd h1 = 6) (σ : MS), MC (mr_X7_tellsCondition d) w [.ref (wB w + 52), .ref (wB w + h1), .int p2] σ (r.2 h1 p2 σ))
def J_X7_tellsAtom_185 (r : RT_gt) (n : Nat) (h1 : Nat) (t0 : Int32) (σ : MS) : Option (Int32 × MS) := (if t0 = (-1 : Int32) then some ((0 : Int32), σ) else ((f_X9_advance n  σ).bind (fun q199 => ((f_X7_tellsSum n h1 q199.2).bind (fun q204 => ((f_X6_addStep h1 t0 q204.2).bind (fun q212 => (if q204.1 = 0 ∨ q204.1 = 1 then some (q204.1, q212.2) else none))))))))
def J_X7_tellsAtom_81 (r : RT_gt) (n : Nat) (h1 : Nat) (t0 : Int32) (σ : MS) : Option (Int32 × MS) := (if t0 = 0 ∨ t0 = 1 then some (t0, σ) else none)
def J_X7_tellsAtom_80 (r : RT_gt) (n : Nat) (h1 : Nat) (σ : MS) : Option (Int32 × MS) := J_X7_tellsAtom_81 r n h1 (0 : Int32) σ
def J_X7_tellsAtom_34 (r : RT_gt) (n : Nat) (h1 : Nat) (v2 : Int32) (v3 : Int32) (σ : MS) : Option (Int32 × MS) := (if v2 < (6 : Int32) then ((f_X9_advance n  σ).bind (fun q46 => (if v3 = 0 then ((r.2 h1 (v2 + (1 : Int32)) q46.2).bind (fun q58 => (if q58.1 = 0 then J_X7_tellsAtom_80 r n h1 q58.2 else ((f_X9_skipSign n (41 : Int32) q58.2).bind (fun q70 => (if q70.1 = 0 then J_X7_tellsAtom_80 r n h1 q70.2 else J_X7_tellsAtom_81 r n h1 (1 : Int32) q70.2)))))) else ((r.1 h1 (v2 + (1 : Int32)) q46.2).bind (fun q87 => ((f_X6_addStep h1 (2000 : Int32) q87.2).bind (fun q96 => (if q87.1 = 0 ∨ q87.1 = 1 then some (q87.1, q96.2) else none)))))))) else some ((0 : Int32), σ))
def J_X7_tellsAtom_17 (r : RT_gt) (n : Nat) (h1 : Nat) (v2 : Int32) (t0 : Int32) (σ : MS) : Option (Int32 × MS) := (if t0 = 0 then ((f_X9_isSign (40 : Int32) σ).bind (fun q28 => (if q28 = 0 then ((f_X9_wordAmong n 31 σ).bind (fun q108 => (if q108 = (-1 : Int32) then ((f_X7_tellsSum n h1 σ).bind (fun q140 => (if q140.1 = 0 then some ((0 : Int32), q140.2) else ((f_X9_isSign (60 : Int32) q140.2).bind (fun q154 => (if q154 = 0 then ((f_X9_isSign (62 : Int32) q140.2).bind (fun q172 => (if q172 = 0 then J_X7_tellsAtom_185 r n h1 (-1 : Int32) q140.2 else J_X7_tellsAtom_185 r n h1 (2005 : Int32) q140.2))) else J_X7_tellsAtom_185 r n h1 (2004 : Int32) q140.2)))))) else ((f_X6_addStep h1 ((1006 : Int32) + q108) σ).bind (fun q126 => ((f_X9_advance n  q126.2).bind (fun q133 => some ((1 : Int32), q133.2)))))))) else J_X7_tellsAtom_34 r n h1 v2 t0 σ))) else J_X7_tellsAtom_34 r n h1 v2 t0 σ)
def F_X7_tellsAtom (r : RT_gt) (n : Nat) (h1 : Nat) (p2 : Int32) (σ : MS) : Option (Int32 × MS) := ((f_X9_wordAmong n 30 σ).bind (fun q6 => (if q6 = 0 then J_X7_tellsAtom_17 r n h1 p2 (1 : Int32) σ else J_X7_tellsAtom_17 r n h1 p2 (0 : Int32) σ)))
def J_X7_tellsCondition_85 (r : RT_gt) (n : Nat) (h1 : Nat) (v2 : Int32) (v3 : Int32) (v4 : Int32) (v5 : Int32) (σ : MS) : Option ((Int32 × Int32 × Int32 × MS) ⊕ (Int32 × MS)) := some (.inl (v3, v4, (v5 + (1 : Int32)), σ))
def J_X7_tellsCondition_69 (r : RT_gt) (n : Nat) (h1 : Nat) (v2 : Int32) (v4 : Int32) (v5 : Int32) (σ : MS) : Option ((Int32 × Int32 × Int32 × MS) ⊕ (Int32 × MS)) := ((f_X9_skipWord n 29 σ).bind (fun q75 => (if q75.1 = 0 then (some ((1 : Int32), q75.2)).map Sum.inr else J_X7_tellsCondition_85 r n h1 v2 q75.1 v4 v5 q75.2)))
def J_X7_tellsCondition_39 (r : RT_gt) (n : Nat) (h1 : Nat) (v2 : Int32) (v3 : Int32) (v5 : Int32) (σ : MS) : Option ((Int32 × Int32 × Int32 × MS) ⊕ (Int32 × MS)) := ((f_X9_skipWord n 28 σ).bind (fun q45 => (if q45.1 = 0 then (if v3 = 0 then J_X7_tellsCondition_69 r n h1 v2 q45.1 v5 q45.2 else ((f_X6_addStep h1 (2002 : Int32) q45.2).bind (fun q66 => J_X7_tellsCondition_69 r n h1 v2 q45.1 v5 q66.2))) else J_X7_tellsCondition_85 r n h1 v2 v3 q45.1 v5 q45.2)))
def L_X7_tellsCondition_8 (r : RT_gt) (n : Nat) (h1 : Nat) (v2 : Int32) (σ : MS) (a8 : Int32 × Int32 × Int32 × MS) : Option ((Int32 × Int32 × Int32 × MS) ⊕ (Int32 × MS)) := (if (400 : Int32) ≤ a8.2.2.1 then (some ((0 : Int32), a8.2.2.2)).map Sum.inr else ((r.1 h1 v2 a8.2.2.2).bind (fun q19 => (if q19.1 = 0 then (some ((0 : Int32), q19.2)).map Sum.inr else (if a8.2.1 = 0 then J_X7_tellsCondition_39 r n h1 v2 a8.1 a8.2.2.1 q19.2 else ((f_X6_addStep h1 (2001 : Int32) q19.2).bind (fun q36 => J_X7_tellsCondition_39 r n h1 v2 a8.1 a8.2.2.1 q36.2)))))))
def F_X7_tellsCondition (r : RT_gt) (n : Nat) (h1 : Nat) (p2 : Int32) (σ : MS) : Option (Int32 × MS) := itr (L_X7_tellsCondition_8 r n h1 p2 σ) n ((0 : Int32), (0 : Int32), (0 : Int32), σ)
set_option maxRecDepth 20000 in
set_option maxHeartbeats 2000000 in
theorem cst_X7_tellsAtom (n d : Nat) (r : RT_gt) (ih : IH_gt d r) (w : TG) (h1 : Nat) (p2 : Int32) (k_h1 : kd h1 = 6) (σ : MS) : MC (mr_X7_tellsAtom (d + 1)) w [.ref (wB w + 52), .ref (wB w + h1), .int p2] σ (F_X7_tellsAtom r n h1 p2 σ) := by
  refine V_meth (by decide +kernel) (Nat.le_of_ble_eq_true rfl) (by intro v hv; simp only [List.mem_cons, List.not_mem_nil, or_false] at hv; rcases hv with rfl | rfl | rfl <;> rfl) (fun g x => ?_)
  show VV (mr_X7_tellsAtom (d + 1)) w g 0 0 (QM (mr_X7_tellsAtom (d + 1)) w g x) (fun b : Int32 × MS => b = x) 0 [some (.ref (wB w + 52)), some (.ref (wB w + h1)), some (.int p2), none, none, none, none] [] σ (F_X7_tellsAtom r n h1 p2 σ)
  have hJ185 : ∀ (t0 : Int32) (σ : MS), VV (mr_X7_tellsAtom (d + 1)) w g 0 0 (QM (mr_X7_tellsAtom (d + 1)) w g x) (fun b : Int32 × MS => b = x) 185 [some (.ref (wB w + 52)), some (.ref (wB w + h1)), none, none, none, none, none] [.int t0] σ (J_X7_tellsAtom_185 r n h1 t0 σ) := by
    intro t0 σ
    refine V_istore (pc := 185) (vs' := [some (.ref (wB w + 52)), some (.ref (wB w + h1)), none, none, none, some (.int t0), none]) dX7_tellsAtom_185 (Nat.le_of_ble_eq_true rfl) (Nat.le_of_ble_eq_true rfl) rfl ?_
    refine V_iload (pc := 187) dX7_tellsAtom_187 rfl ?_
    refine V_iconst (pc := 189) (v := (-1 : Int32)) dX7_tellsAtom_189 rfl ?_
    refine V_icmp_ne (pc := 190) (tgt := 195) dX7_tellsAtom_190 (by decide) ?_ ?_
    · refine V_aload_n (pc := 195) dX7_tellsAtom_195 rfl rfl ?_
      refine V_getr (pc := 196) (t := 1) fk_X7_9 rfl dX7_tellsAtom_196 kc_52 rfl ?_
      refine V_callVv (pc := 199) (As := []) (rest := []) (c_X9_advance w n  σ) cw_X7_41 rfl rfl dX7_tellsAtom_199 kc_1 rfl ⟨by simp only [mr_X7_tellsAtom, m_X9_advance]; omega, by simp only [mr_X7_tellsAtom, m_X9_advance]; omega⟩ rfl rfl (Nat.le_of_ble_eq_true rfl) (Nat.le_of_ble_eq_true rfl) (Nat.le_of_ble_eq_true rfl) rfl (fun q199 => ?_)
      refine V_aload_n (pc := 202) dX7_tellsAtom_202 rfl rfl ?_
      refine V_aload_n (pc := 203) dX7_tellsAtom_203 rfl rfl ?_
      refine V_callVi (pc := 204) (As := [.ref (wB w + h1)]) (rest := []) (c_X7_tellsSum w n h1 k_h1 q199.2) cw_X7_80 rfl rfl dX7_tellsAtom_204 kc_52 rfl ⟨by simp only [mr_X7_tellsAtom, m_X7_tellsSum]; omega, by simp only [mr_X7_tellsAtom, m_X7_tellsSum]; omega⟩ rfl rfl (Nat.le_of_ble_eq_true rfl) (Nat.le_of_ble_eq_true rfl) (Nat.le_of_ble_eq_true rfl) rfl (fun q204 => ?_)
      refine V_istore (pc := 207) (vs' := [some (.ref (wB w + 52)), some (.ref (wB w + h1)), none, none, none, some (.int t0), some (.int q204.1)]) dX7_tellsAtom_207 (Nat.le_of_ble_eq_true rfl) (Nat.le_of_ble_eq_true rfl) rfl ?_
      refine V_aload_n (pc := 209) dX7_tellsAtom_209 rfl rfl ?_
      refine V_iload (pc := 210) dX7_tellsAtom_210 rfl ?_
      refine V_callVv (pc := 212) (As := [.int t0]) (rest := []) (c_X6_addStep w h1 t0 k_h1 q204.2) cw_X7_65 rfl rfl dX7_tellsAtom_212 k_h1 rfl ⟨by simp only [mr_X7_tellsAtom, m_X6_addStep]; omega, by simp only [mr_X7_tellsAtom, m_X6_addStep]; omega⟩ rfl rfl (Nat.le_of_ble_eq_true rfl) (Nat.le_of_ble_eq_true rfl) (Nat.le_of_ble_eq_true rfl) rfl (fun q212 => ?_)
      refine V_iload (pc := 215) dX7_tellsAtom_215 rfl ?_
      exact V_iretZ (pc := 217) dX7_tellsAtom_217 rfl (hk := fun h => h)
    · refine V_iconst (pc := 193) (v := (0 : Int32)) dX7_tellsAtom_193 rfl ?_
      exact V_iretz (pc := 194) dX7_tellsAtom_194 rfl rfl (hk := fun h => h)
  have hJ81 : ∀ (t0 : Int32) (σ : MS), VV (mr_X7_tellsAtom (d + 1)) w g 0 0 (QM (mr_X7_tellsAtom (d + 1)) w g x) (fun b : Int32 × MS => b = x) 81 [none, none, none, none, none, none, none] [.int t0] σ (J_X7_tellsAtom_81 r n h1 t0 σ) := by
    intro t0 σ
    exact V_iretZ (pc := 81) dX7_tellsAtom_81 rfl (hk := fun h => h)
  have hJ80 : ∀ (σ : MS), VV (mr_X7_tellsAtom (d + 1)) w g 0 0 (QM (mr_X7_tellsAtom (d + 1)) w g x) (fun b : Int32 × MS => b = x) 80 [none, none, none, none, none, none, none] [] σ (J_X7_tellsAtom_80 r n h1 σ) := by
    intro σ
    refine V_iconst (pc := 80) (v := (0 : Int32)) dX7_tellsAtom_80 rfl ?_
    exact hJ81 (0 : Int32) σ
  have hJ34 : ∀ (v3 : Int32) (σ : MS), VV (mr_X7_tellsAtom (d + 1)) w g 0 0 (QM (mr_X7_tellsAtom (d + 1)) w g x) (fun b : Int32 × MS => b = x) 34 [some (.ref (wB w + 52)), some (.ref (wB w + h1)), some (.int p2), some (.int v3), none, none, none] [] σ (J_X7_tellsAtom_34 r n h1 p2 v3 σ) := by
    intro v3 σ
    refine V_iload_n (pc := 34) dX7_tellsAtom_34 rfl rfl ?_
    refine V_bipush (pc := 35) (v := (6 : Int32)) dX7_tellsAtom_35 rfl ?_
    refine V_icmp_lt (pc := 37) (tgt := 42) dX7_tellsAtom_37 (by decide) ?_ ?_
    · refine V_aload_n (pc := 42) dX7_tellsAtom_42 rfl rfl ?_
      refine V_getr (pc := 43) (t := 1) fk_X7_9 rfl dX7_tellsAtom_43 kc_52 rfl ?_
      refine V_callVv (pc := 46) (As := []) (rest := []) (c_X9_advance w n  σ) cw_X7_41 rfl rfl dX7_tellsAtom_46 kc_1 rfl ⟨by simp only [mr_X7_tellsAtom, m_X9_advance]; omega, by simp only [mr_X7_tellsAtom, m_X9_advance]; omega⟩ rfl rfl (Nat.le_of_ble_eq_true rfl) (Nat.le_of_ble_eq_true rfl) (Nat.le_of_ble_eq_true rfl) rfl (fun q46 => ?_)
      refine V_iload_n (pc := 49) dX7_tellsAtom_49 rfl rfl ?_
      refine V_if_ne (pc := 50) (tgt := 82) dX7_tellsAtom_50 (by decide) ?_ ?_
      · refine V_aload_n (pc := 82) dX7_tellsAtom_82 rfl rfl ?_
        refine V_aload_n (pc := 83) dX7_tellsAtom_83 rfl rfl ?_
        refine V_iload_n (pc := 84) dX7_tellsAtom_84 rfl rfl ?_
        refine V_iconst (pc := 85) (v := (1 : Int32)) dX7_tellsAtom_85 rfl ?_
        refine V_iadd (pc := 86) dX7_tellsAtom_86 ?_
        refine V_callVi (pc := 87) (As := [.ref (wB w + h1), .int (p2 + (1 : Int32))]) (rest := []) (ih.1 w h1 (p2 + (1 : Int32)) k_h1 q46.2) cw_X7_62 rfl rfl dX7_tellsAtom_87 kc_52 rfl ⟨by simp only [mr_X7_tellsAtom, mr_X7_tellsAtom]; omega, by simp only [mr_X7_tellsAtom, mr_X7_tellsAtom]; omega⟩ rfl rfl (Nat.le_of_ble_eq_true rfl) (Nat.le_of_ble_eq_true rfl) (Nat.le_of_ble_eq_true rfl) rfl (fun q87 => ?_)
        refine V_istore (pc := 90) (vs' := [some (.ref (wB w + 52)), some (.ref (wB w + h1)), some (.int p2), some (.int v3), some (.int q87.1), none, none]) dX7_tellsAtom_90 (Nat.le_of_ble_eq_true rfl) (Nat.le_of_ble_eq_true rfl) rfl ?_
        refine V_aload_n (pc := 92) dX7_tellsAtom_92 rfl rfl ?_
        refine V_sipush (pc := 93) (v := (2000 : Int32)) dX7_tellsAtom_93 rfl ?_
        refine V_callVv (pc := 96) (As := [.int (2000 : Int32)]) (rest := []) (c_X6_addStep w h1 (2000 : Int32) k_h1 q87.2) cw_X7_65 rfl rfl dX7_tellsAtom_96 k_h1 rfl ⟨by simp only [mr_X7_tellsAtom, m_X6_addStep]; omega, by simp only [mr_X7_tellsAtom, m_X6_addStep]; omega⟩ rfl rfl (Nat.le_of_ble_eq_true rfl) (Nat.le_of_ble_eq_true rfl) (Nat.le_of_ble_eq_true rfl) rfl (fun q96 => ?_)
        refine V_iload (pc := 99) dX7_tellsAtom_99 rfl ?_
        exact V_iretZ (pc := 101) dX7_tellsAtom_101 rfl (hk := fun h => h)
      · refine V_aload_n (pc := 53) dX7_tellsAtom_53 rfl rfl ?_
        refine V_aload_n (pc := 54) dX7_tellsAtom_54 rfl rfl ?_
        refine V_iload_n (pc := 55) dX7_tellsAtom_55 rfl rfl ?_
        refine V_iconst (pc := 56) (v := (1 : Int32)) dX7_tellsAtom_56 rfl ?_
        refine V_iadd (pc := 57) dX7_tellsAtom_57 ?_
        refine V_callVi (pc := 58) (As := [.ref (wB w + h1), .int (p2 + (1 : Int32))]) (rest := []) (ih.2 w h1 (p2 + (1 : Int32)) k_h1 q46.2) cw_X7_54 rfl rfl dX7_tellsAtom_58 kc_52 rfl ⟨by simp only [mr_X7_tellsAtom, mr_X7_tellsCondition]; omega, by simp only [mr_X7_tellsAtom, mr_X7_tellsCondition]; omega⟩ rfl rfl (Nat.le_of_ble_eq_true rfl) (Nat.le_of_ble_eq_true rfl) (Nat.le_of_ble_eq_true rfl) rfl (fun q58 => ?_)
        refine V_if_eq (pc := 61) (tgt := 80) dX7_tellsAtom_61 (by decide) ?_ ?_
        · refine V_sub (vs' := [none, none, none, none, none, none, none]) (show vless _ _ from trivial) rfl ?_
          exact hJ80 q58.2
        · refine V_aload_n (pc := 64) dX7_tellsAtom_64 rfl rfl ?_
          refine V_getr (pc := 65) (t := 1) fk_X7_9 rfl dX7_tellsAtom_65 kc_52 rfl ?_
          refine V_bipush (pc := 68) (v := (41 : Int32)) dX7_tellsAtom_68 rfl ?_
          refine V_callVi (pc := 70) (As := [.int (41 : Int32)]) (rest := []) (c_X9_skipSign w n (41 : Int32) q58.2) cw_X7_31 rfl rfl dX7_tellsAtom_70 kc_1 rfl ⟨by simp only [mr_X7_tellsAtom, m_X9_skipSign]; omega, by simp only [mr_X7_tellsAtom, m_X9_skipSign]; omega⟩ rfl rfl (Nat.le_of_ble_eq_true rfl) (Nat.le_of_ble_eq_true rfl) (Nat.le_of_ble_eq_true rfl) rfl (fun q70 => ?_)
          refine V_if_eq (pc := 73) (tgt := 80) dX7_tellsAtom_73 (by decide) ?_ ?_
          · refine V_sub (vs' := [none, none, none, none, none, none, none]) (show vless _ _ from trivial) rfl ?_
            exact hJ80 q70.2
          · refine V_iconst (pc := 76) (v := (1 : Int32)) dX7_tellsAtom_76 rfl ?_
            refine V_goto (pc := 77) (tgt := 81) dX7_tellsAtom_77 (by decide) ?_
            refine V_sub (vs' := [none, none, none, none, none, none, none]) (show vless _ _ from trivial) rfl ?_
            exact hJ81 (1 : Int32) q70.2
    · refine V_iconst (pc := 40) (v := (0 : Int32)) dX7_tellsAtom_40 rfl ?_
      exact V_iretz (pc := 41) dX7_tellsAtom_41 rfl rfl (hk := fun h => h)
  have hJ17 : ∀ (t0 : Int32) (σ : MS), VV (mr_X7_tellsAtom (d + 1)) w g 0 0 (QM (mr_X7_tellsAtom (d + 1)) w g x) (fun b : Int32 × MS => b = x) 17 [some (.ref (wB w + 52)), some (.ref (wB w + h1)), some (.int p2), none, none, none, none] [.int t0] σ (J_X7_tellsAtom_17 r n h1 p2 t0 σ) := by
    intro t0 σ
    refine V_istore_n (pc := 17) (vs' := [some (.ref (wB w + 52)), some (.ref (wB w + h1)), some (.int p2), some (.int t0), none, none, none]) dX7_tellsAtom_17 rfl (Nat.le_of_ble_eq_true rfl) (Nat.le_of_ble_eq_true rfl) rfl ?_
    refine V_iload_n (pc := 18) dX7_tellsAtom_18 rfl rfl ?_
    refine V_if_ne (pc := 19) (tgt := 34) dX7_tellsAtom_19 (by decide) ?_ ?_
    · exact hJ34 t0 σ
    · refine V_aload_n (pc := 22) dX7_tellsAtom_22 rfl rfl ?_
      refine V_getr (pc := 23) (t := 1) fk_X7_9 rfl dX7_tellsAtom_23 kc_52 rfl ?_
      refine V_bipush (pc := 26) (v := (40 : Int32)) dX7_tellsAtom_26 rfl ?_
      refine V_callVpi (pc := 28) (As := [.int (40 : Int32)]) (rest := []) (c_X9_isSign w (40 : Int32) σ) cw_X7_75 rfl rfl dX7_tellsAtom_28 kc_1 rfl ⟨by simp only [mr_X7_tellsAtom, m_X9_isSign]; omega, by simp only [mr_X7_tellsAtom, m_X9_isSign]; omega⟩ rfl rfl (Nat.le_of_ble_eq_true rfl) (Nat.le_of_ble_eq_true rfl) (Nat.le_of_ble_eq_true rfl) rfl (fun q28 => ?_)
      refine V_if_eq (pc := 31) (tgt := 102) dX7_tellsAtom_31 (by decide) ?_ ?_
      · refine V_aload_n (pc := 102) dX7_tellsAtom_102 rfl rfl ?_
        refine V_getr (pc := 103) (t := 1) fk_X7_9 rfl dX7_tellsAtom_103 kc_52 rfl ?_
        refine V_ldcS (pc := 106) (i := 31) (tx := "wed bound") dX7_tellsAtom_106 rfl (by decide +kernel) ?_
        refine V_callVpi (pc := 108) (As := [.ref (wS w 31)]) (rest := []) (c_X9_wordAmong w n 31 (by decide) σ) cw_X7_37 rfl rfl dX7_tellsAtom_108 kc_1 rfl ⟨by simp only [mr_X7_tellsAtom, m_X9_wordAmong]; omega, by simp only [mr_X7_tellsAtom, m_X9_wordAmong]; omega⟩ rfl rfl (Nat.le_of_ble_eq_true rfl) (Nat.le_of_ble_eq_true rfl) (Nat.le_of_ble_eq_true rfl) rfl (fun q108 => ?_)
        refine V_istore (pc := 111) (vs' := [some (.ref (wB w + 52)), some (.ref (wB w + h1)), some (.int p2), some (.int t0), some (.int q108), none, none]) dX7_tellsAtom_111 (Nat.le_of_ble_eq_true rfl) (Nat.le_of_ble_eq_true rfl) rfl ?_
        refine V_iload (pc := 113) dX7_tellsAtom_113 rfl ?_
        refine V_iconst (pc := 115) (v := (-1 : Int32)) dX7_tellsAtom_115 rfl ?_
        refine V_icmp_eq (pc := 116) (tgt := 138) dX7_tellsAtom_116 (by decide) ?_ ?_
        · refine V_aload_n (pc := 138) dX7_tellsAtom_138 rfl rfl ?_
          refine V_aload_n (pc := 139) dX7_tellsAtom_139 rfl rfl ?_
          refine V_callVi (pc := 140) (As := [.ref (wB w + h1)]) (rest := []) (c_X7_tellsSum w n h1 k_h1 σ) cw_X7_80 rfl rfl dX7_tellsAtom_140 kc_52 rfl ⟨by simp only [mr_X7_tellsAtom, m_X7_tellsSum]; omega, by simp only [mr_X7_tellsAtom, m_X7_tellsSum]; omega⟩ rfl rfl (Nat.le_of_ble_eq_true rfl) (Nat.le_of_ble_eq_true rfl) (Nat.le_of_ble_eq_true rfl) rfl (fun q140 => ?_)
          refine V_if_ne (pc := 143) (tgt := 148) dX7_tellsAtom_143 (by decide) ?_ ?_
          · refine V_aload_n (pc := 148) dX7_tellsAtom_148 rfl rfl ?_
            refine V_getr (pc := 149) (t := 1) fk_X7_9 rfl dX7_tellsAtom_149 kc_52 rfl ?_
            refine V_bipush (pc := 152) (v := (60 : Int32)) dX7_tellsAtom_152 rfl ?_
            refine V_callVpi (pc := 154) (As := [.int (60 : Int32)]) (rest := []) (c_X9_isSign w (60 : Int32) q140.2) cw_X7_75 rfl rfl dX7_tellsAtom_154 kc_1 rfl ⟨by simp only [mr_X7_tellsAtom, m_X9_isSign]; omega, by simp only [mr_X7_tellsAtom, m_X9_isSign]; omega⟩ rfl rfl (Nat.le_of_ble_eq_true rfl) (Nat.le_of_ble_eq_true rfl) (Nat.le_of_ble_eq_true rfl) rfl (fun q154 => ?_)
            refine V_if_eq (pc := 157) (tgt := 166) dX7_tellsAtom_157 (by decide) ?_ ?_
            · refine V_aload_n (pc := 166) dX7_tellsAtom_166 rfl rfl ?_
              refine V_getr (pc := 167) (t := 1) fk_X7_9 rfl dX7_tellsAtom_167 kc_52 rfl ?_
              refine V_bipush (pc := 170) (v := (62 : Int32)) dX7_tellsAtom_170 rfl ?_
              refine V_callVpi (pc := 172) (As := [.int (62 : Int32)]) (rest := []) (c_X9_isSign w (62 : Int32) q140.2) cw_X7_75 rfl rfl dX7_tellsAtom_172 kc_1 rfl ⟨by simp only [mr_X7_tellsAtom, m_X9_isSign]; omega, by simp only [mr_X7_tellsAtom, m_X9_isSign]; omega⟩ rfl rfl (Nat.le_of_ble_eq_true rfl) (Nat.le_of_ble_eq_true rfl) (Nat.le_of_ble_eq_true rfl) rfl (fun q172 => ?_)
              refine V_if_eq (pc := 175) (tgt := 184) dX7_tellsAtom_175 (by decide) ?_ ?_
              · refine V_iconst (pc := 184) (v := (-1 : Int32)) dX7_tellsAtom_184 rfl ?_
                refine V_sub (vs' := [some (.ref (wB w + 52)), some (.ref (wB w + h1)), none, none, none, none, none]) (show vless _ _ from ⟨rfl, ⟨rfl, trivial⟩⟩) rfl ?_
                exact hJ185 (-1 : Int32) q140.2
              · refine V_sipush (pc := 178) (v := (2005 : Int32)) dX7_tellsAtom_178 rfl ?_
                refine V_goto (pc := 181) (tgt := 185) dX7_tellsAtom_181 (by decide) ?_
                refine V_sub (vs' := [some (.ref (wB w + 52)), some (.ref (wB w + h1)), none, none, none, none, none]) (show vless _ _ from ⟨rfl, ⟨rfl, trivial⟩⟩) rfl ?_
                exact hJ185 (2005 : Int32) q140.2
            · refine V_sipush (pc := 160) (v := (2004 : Int32)) dX7_tellsAtom_160 rfl ?_
              refine V_goto (pc := 163) (tgt := 185) dX7_tellsAtom_163 (by decide) ?_
              refine V_sub (vs' := [some (.ref (wB w + 52)), some (.ref (wB w + h1)), none, none, none, none, none]) (show vless _ _ from ⟨rfl, ⟨rfl, trivial⟩⟩) rfl ?_
              exact hJ185 (2004 : Int32) q140.2
          · refine V_iconst (pc := 146) (v := (0 : Int32)) dX7_tellsAtom_146 rfl ?_
            exact V_iretz (pc := 147) dX7_tellsAtom_147 rfl rfl (hk := fun h => h)
        · refine V_aload_n (pc := 119) dX7_tellsAtom_119 rfl rfl ?_
          refine V_sipush (pc := 120) (v := (1006 : Int32)) dX7_tellsAtom_120 rfl ?_
          refine V_iload (pc := 123) dX7_tellsAtom_123 rfl ?_
          refine V_iadd (pc := 125) dX7_tellsAtom_125 ?_
          refine V_callVv (pc := 126) (As := [.int ((1006 : Int32) + q108)]) (rest := []) (c_X6_addStep w h1 ((1006 : Int32) + q108) k_h1 σ) cw_X7_65 rfl rfl dX7_tellsAtom_126 k_h1 rfl ⟨by simp only [mr_X7_tellsAtom, m_X6_addStep]; omega, by simp only [mr_X7_tellsAtom, m_X6_addStep]; omega⟩ rfl rfl (Nat.le_of_ble_eq_true rfl) (Nat.le_of_ble_eq_true rfl) (Nat.le_of_ble_eq_true rfl) rfl (fun q126 => ?_)
          refine V_aload_n (pc := 129) dX7_tellsAtom_129 rfl rfl ?_
          refine V_getr (pc := 130) (t := 1) fk_X7_9 rfl dX7_tellsAtom_130 kc_52 rfl ?_
          refine V_callVv (pc := 133) (As := []) (rest := []) (c_X9_advance w n  q126.2) cw_X7_41 rfl rfl dX7_tellsAtom_133 kc_1 rfl ⟨by simp only [mr_X7_tellsAtom, m_X9_advance]; omega, by simp only [mr_X7_tellsAtom, m_X9_advance]; omega⟩ rfl rfl (Nat.le_of_ble_eq_true rfl) (Nat.le_of_ble_eq_true rfl) (Nat.le_of_ble_eq_true rfl) rfl (fun q133 => ?_)
          refine V_iconst (pc := 136) (v := (1 : Int32)) dX7_tellsAtom_136 rfl ?_
          exact V_iretz (pc := 137) dX7_tellsAtom_137 rfl rfl (hk := fun h => h)
      · exact hJ34 t0 σ
  refine V_aload_n (pc := 0) dX7_tellsAtom_0 rfl rfl ?_
  refine V_getr (pc := 1) (t := 1) fk_X7_9 rfl dX7_tellsAtom_1 kc_52 rfl ?_
  refine V_ldcS (pc := 4) (i := 30) (tx := "not") dX7_tellsAtom_4 rfl (by decide +kernel) ?_
  refine V_callVpi (pc := 6) (As := [.ref (wS w 30)]) (rest := []) (c_X9_wordAmong w n 30 (by decide) σ) cw_X7_37 rfl rfl dX7_tellsAtom_6 kc_1 rfl ⟨by simp only [mr_X7_tellsAtom, m_X9_wordAmong]; omega, by simp only [mr_X7_tellsAtom, m_X9_wordAmong]; omega⟩ rfl rfl (Nat.le_of_ble_eq_true rfl) (Nat.le_of_ble_eq_true rfl) (Nat.le_of_ble_eq_true rfl) rfl (fun q6 => ?_)
  refine V_if_ne (pc := 9) (tgt := 16) dX7_tellsAtom_9 (by decide) ?_ ?_
  · refine V_iconst (pc := 16) (v := (0 : Int32)) dX7_tellsAtom_16 rfl ?_
    exact hJ17 (0 : Int32) σ
  · refine V_iconst (pc := 12) (v := (1 : Int32)) dX7_tellsAtom_12 rfl ?_
    refine V_goto (pc := 13) (tgt := 17) dX7_tellsAtom_13 (by decide) ?_
    exact hJ17 (1 : Int32) σ
set_option maxRecDepth 20000 in
set_option maxHeartbeats 2000000 in
theorem cst_X7_tellsCondition (n d : Nat) (r : RT_gt) (ih : IH_gt d r) (w : TG) (h1 : Nat) (p2 : Int32) (k_h1 : kd h1 = 6) (σ : MS) : MC (mr_X7_tellsCondition (d + 1)) w [.ref (wB w + 52), .ref (wB w + h1), .int p2] σ (F_X7_tellsCondition r n h1 p2 σ) := by
  refine V_meth (by decide +kernel) (Nat.le_of_ble_eq_true rfl) (by intro v hv; simp only [List.mem_cons, List.not_mem_nil, or_false] at hv; rcases hv with rfl | rfl | rfl <;> rfl) (fun g x => ?_)
  show VV (mr_X7_tellsCondition (d + 1)) w g 0 0 (QM (mr_X7_tellsCondition (d + 1)) w g x) (fun b : Int32 × MS => b = x) 0 [some (.ref (wB w + 52)), some (.ref (wB w + h1)), some (.int p2), none, none, none] [] σ (F_X7_tellsCondition r n h1 p2 σ)
  have hL8 : ∀  (n0 : Nat) (a : Int32 × Int32 × Int32 × MS), VV (mr_X7_tellsCondition (d + 1)) w g 0 0 (QM (mr_X7_tellsCondition (d + 1)) w g x) (fun b : Int32 × MS => b = x) 8 [some (.ref (wB w + 52)), some (.ref (wB w + h1)), some (.int p2), some (.int a.1), some (.int a.2.1), some (.int a.2.2.1)] [] a.2.2.2 (itr (L_X7_tellsCondition_8 r n h1 p2 σ) n0 a) := by
    refine V_itr (vf := fun a : Int32 × Int32 × Int32 × MS => [some (.ref (wB w + 52)), some (.ref (wB w + h1)), some (.int p2), some (.int a.1), some (.int a.2.1), some (.int a.2.2.1)]) (sf := fun a : Int32 × Int32 × Int32 × MS => a.2.2.2) (fun κ8 b8 r8 a8 => ?_)
    show VV (mr_X7_tellsCondition (d + 1)) w g 0 0 (QM (mr_X7_tellsCondition (d + 1)) w g x) κ8 8 [some (.ref (wB w + 52)), some (.ref (wB w + h1)), some (.int p2), some (.int a8.1), some (.int a8.2.1), some (.int a8.2.2.1)] [] a8.2.2.2 (L_X7_tellsCondition_8 r n h1 p2 σ a8)
    have hJ85 : ∀ (v3 : Int32) (v4 : Int32) (v5 : Int32) (σ : MS), VV (mr_X7_tellsCondition (d + 1)) w g 0 0 (QM (mr_X7_tellsCondition (d + 1)) w g x) κ8 85 [some (.ref (wB w + 52)), some (.ref (wB w + h1)), some (.int p2), some (.int v3), some (.int v4), some (.int v5)] [] σ (J_X7_tellsCondition_85 r n h1 p2 v3 v4 v5 σ) := by
      intro v3 v4 v5 σ
      refine V_iinc (pc := 85) (v := (v5 + (1 : Int32))) (vs' := [some (.ref (wB w + 52)), some (.ref (wB w + h1)), some (.int p2), some (.int v3), some (.int v4), some (.int (v5 + (1 : Int32)))]) dX7_tellsCondition_85 (Nat.le_of_ble_eq_true rfl) rfl rfl rfl ?_
      refine V_goto (pc := 88) (tgt := 8) dX7_tellsCondition_88 (by decide) ?_
      exact V_back (b8 (v3, v4, (v5 + (1 : Int32)), σ))
    have hJ69 : ∀ (v4 : Int32) (v5 : Int32) (σ : MS), VV (mr_X7_tellsCondition (d + 1)) w g 0 0 (QM (mr_X7_tellsCondition (d + 1)) w g x) κ8 69 [some (.ref (wB w + 52)), some (.ref (wB w + h1)), some (.int p2), none, some (.int v4), some (.int v5)] [] σ (J_X7_tellsCondition_69 r n h1 p2 v4 v5 σ) := by
      intro v4 v5 σ
      refine V_aload_n (pc := 69) dX7_tellsCondition_69 rfl rfl ?_
      refine V_getr (pc := 70) (t := 1) fk_X7_9 rfl dX7_tellsCondition_70 kc_52 rfl ?_
      refine V_ldcS (pc := 73) (i := 29) (tx := "or") dX7_tellsCondition_73 rfl (by decide +kernel) ?_
      refine V_callVi (pc := 75) (As := [.ref (wS w 29)]) (rest := []) (c_X9_skipWord w n 29 (by decide) σ) cw_X7_50 rfl rfl dX7_tellsCondition_75 kc_1 rfl ⟨by simp only [mr_X7_tellsCondition, m_X9_skipWord]; omega, by simp only [mr_X7_tellsCondition, m_X9_skipWord]; omega⟩ rfl rfl (Nat.le_of_ble_eq_true rfl) (Nat.le_of_ble_eq_true rfl) (Nat.le_of_ble_eq_true rfl) rfl (fun q75 => ?_)
      refine V_istore_n (pc := 78) (vs' := [some (.ref (wB w + 52)), some (.ref (wB w + h1)), some (.int p2), some (.int q75.1), some (.int v4), some (.int v5)]) dX7_tellsCondition_78 rfl (Nat.le_of_ble_eq_true rfl) (Nat.le_of_ble_eq_true rfl) rfl ?_
      refine V_iload_n (pc := 79) dX7_tellsCondition_79 rfl rfl ?_
      refine V_if_ne (pc := 80) (tgt := 85) dX7_tellsCondition_80 (by decide) ?_ ?_
      · exact hJ85 q75.1 v4 v5 q75.2
      · refine V_exit r8 ?_
        refine V_iconst (pc := 83) (v := (1 : Int32)) dX7_tellsCondition_83 rfl ?_
        exact V_iretz (pc := 84) dX7_tellsCondition_84 rfl rfl (hk := fun h => h)
    have hJ39 : ∀ (v3 : Int32) (v5 : Int32) (σ : MS), VV (mr_X7_tellsCondition (d + 1)) w g 0 0 (QM (mr_X7_tellsCondition (d + 1)) w g x) κ8 39 [some (.ref (wB w + 52)), some (.ref (wB w + h1)), some (.int p2), some (.int v3), none, some (.int v5)] [] σ (J_X7_tellsCondition_39 r n h1 p2 v3 v5 σ) := by
      intro v3 v5 σ
      refine V_aload_n (pc := 39) dX7_tellsCondition_39 rfl rfl ?_
      refine V_getr (pc := 40) (t := 1) fk_X7_9 rfl dX7_tellsCondition_40 kc_52 rfl ?_
      refine V_ldcS (pc := 43) (i := 28) (tx := "and") dX7_tellsCondition_43 rfl (by decide +kernel) ?_
      refine V_callVi (pc := 45) (As := [.ref (wS w 28)]) (rest := []) (c_X9_skipWord w n 28 (by decide) σ) cw_X7_50 rfl rfl dX7_tellsCondition_45 kc_1 rfl ⟨by simp only [mr_X7_tellsCondition, m_X9_skipWord]; omega, by simp only [mr_X7_tellsCondition, m_X9_skipWord]; omega⟩ rfl rfl (Nat.le_of_ble_eq_true rfl) (Nat.le_of_ble_eq_true rfl) (Nat.le_of_ble_eq_true rfl) rfl (fun q45 => ?_)
      refine V_istore (pc := 48) (vs' := [some (.ref (wB w + 52)), some (.ref (wB w + h1)), some (.int p2), some (.int v3), some (.int q45.1), some (.int v5)]) dX7_tellsCondition_48 (Nat.le_of_ble_eq_true rfl) (Nat.le_of_ble_eq_true rfl) rfl ?_
      refine V_iload (pc := 50) dX7_tellsCondition_50 rfl ?_
      refine V_if_eq (pc := 52) (tgt := 58) dX7_tellsCondition_52 (by decide) ?_ ?_
      · refine V_iload_n (pc := 58) dX7_tellsCondition_58 rfl rfl ?_
        refine V_if_eq (pc := 59) (tgt := 69) dX7_tellsCondition_59 (by decide) ?_ ?_
        · refine V_sub (vs' := [some (.ref (wB w + 52)), some (.ref (wB w + h1)), some (.int p2), none, some (.int q45.1), some (.int v5)]) (show vless _ _ from ⟨rfl, ⟨rfl, ⟨rfl, ⟨rfl, ⟨rfl, trivial⟩⟩⟩⟩⟩) rfl ?_
          exact hJ69 q45.1 v5 q45.2
        · refine V_aload_n (pc := 62) dX7_tellsCondition_62 rfl rfl ?_
          refine V_sipush (pc := 63) (v := (2002 : Int32)) dX7_tellsCondition_63 rfl ?_
          refine V_callVv (pc := 66) (As := [.int (2002 : Int32)]) (rest := []) (c_X6_addStep w h1 (2002 : Int32) k_h1 q45.2) cw_X7_65 rfl rfl dX7_tellsCondition_66 k_h1 rfl ⟨by simp only [mr_X7_tellsCondition, m_X6_addStep]; omega, by simp only [mr_X7_tellsCondition, m_X6_addStep]; omega⟩ rfl rfl (Nat.le_of_ble_eq_true rfl) (Nat.le_of_ble_eq_true rfl) (Nat.le_of_ble_eq_true rfl) rfl (fun q66 => ?_)
          refine V_sub (vs' := [some (.ref (wB w + 52)), some (.ref (wB w + h1)), some (.int p2), none, some (.int q45.1), some (.int v5)]) (show vless _ _ from ⟨rfl, ⟨rfl, ⟨rfl, ⟨rfl, ⟨rfl, trivial⟩⟩⟩⟩⟩) rfl ?_
          exact hJ69 q45.1 v5 q66.2
      · refine V_goto (pc := 55) (tgt := 85) dX7_tellsCondition_55 (by decide) ?_
        exact hJ85 v3 q45.1 v5 q45.2
    refine V_iload (pc := 8) dX7_tellsCondition_8 rfl ?_
    refine V_sipush (pc := 10) (v := (400 : Int32)) dX7_tellsCondition_10 rfl ?_
    refine V_icmp_ge (pc := 13) (tgt := 91) dX7_tellsCondition_13 (by decide) ?_ ?_
    · refine V_exit r8 ?_
      refine V_iconst (pc := 91) (v := (0 : Int32)) dX7_tellsCondition_91 rfl ?_
      exact V_iretz (pc := 92) dX7_tellsCondition_92 rfl rfl (hk := fun h => h)
    · refine V_aload_n (pc := 16) dX7_tellsCondition_16 rfl rfl ?_
      refine V_aload_n (pc := 17) dX7_tellsCondition_17 rfl rfl ?_
      refine V_iload_n (pc := 18) dX7_tellsCondition_18 rfl rfl ?_
      refine V_callVi (pc := 19) (As := [.ref (wB w + h1), .int p2]) (rest := []) (ih.1 w h1 p2 k_h1 a8.2.2.2) cw_X7_62 rfl rfl dX7_tellsCondition_19 kc_52 rfl ⟨by simp only [mr_X7_tellsCondition, mr_X7_tellsAtom]; omega, by simp only [mr_X7_tellsCondition, mr_X7_tellsAtom]; omega⟩ rfl rfl (Nat.le_of_ble_eq_true rfl) (Nat.le_of_ble_eq_true rfl) (Nat.le_of_ble_eq_true rfl) rfl (fun q19 => ?_)
      refine V_if_ne (pc := 22) (tgt := 27) dX7_tellsCondition_22 (by decide) ?_ ?_
      · refine V_iload (pc := 27) dX7_tellsCondition_27 rfl ?_
        refine V_if_eq (pc := 29) (tgt := 39) dX7_tellsCondition_29 (by decide) ?_ ?_
        · refine V_sub (vs' := [some (.ref (wB w + 52)), some (.ref (wB w + h1)), some (.int p2), some (.int a8.1), none, some (.int a8.2.2.1)]) (show vless _ _ from ⟨rfl, ⟨rfl, ⟨rfl, ⟨rfl, ⟨rfl, trivial⟩⟩⟩⟩⟩) rfl ?_
          exact hJ39 a8.1 a8.2.2.1 q19.2
        · refine V_aload_n (pc := 32) dX7_tellsCondition_32 rfl rfl ?_
          refine V_sipush (pc := 33) (v := (2001 : Int32)) dX7_tellsCondition_33 rfl ?_
          refine V_callVv (pc := 36) (As := [.int (2001 : Int32)]) (rest := []) (c_X6_addStep w h1 (2001 : Int32) k_h1 q19.2) cw_X7_65 rfl rfl dX7_tellsCondition_36 k_h1 rfl ⟨by simp only [mr_X7_tellsCondition, m_X6_addStep]; omega, by simp only [mr_X7_tellsCondition, m_X6_addStep]; omega⟩ rfl rfl (Nat.le_of_ble_eq_true rfl) (Nat.le_of_ble_eq_true rfl) (Nat.le_of_ble_eq_true rfl) rfl (fun q36 => ?_)
          refine V_sub (vs' := [some (.ref (wB w + 52)), some (.ref (wB w + h1)), some (.int p2), some (.int a8.1), none, some (.int a8.2.2.1)]) (show vless _ _ from ⟨rfl, ⟨rfl, ⟨rfl, ⟨rfl, ⟨rfl, trivial⟩⟩⟩⟩⟩) rfl ?_
          exact hJ39 a8.1 a8.2.2.1 q36.2
      · refine V_exit r8 ?_
        refine V_iconst (pc := 25) (v := (0 : Int32)) dX7_tellsCondition_25 rfl ?_
        exact V_iretz (pc := 26) dX7_tellsCondition_26 rfl rfl (hk := fun h => h)
  refine V_iconst (pc := 0) (v := (0 : Int32)) dX7_tellsCondition_0 rfl ?_
  refine V_istore_n (pc := 1) (vs' := [some (.ref (wB w + 52)), some (.ref (wB w + h1)), some (.int p2), some (.int (0 : Int32)), none, none]) dX7_tellsCondition_1 rfl (Nat.le_of_ble_eq_true rfl) (Nat.le_of_ble_eq_true rfl) rfl ?_
  refine V_iconst (pc := 2) (v := (0 : Int32)) dX7_tellsCondition_2 rfl ?_
  refine V_istore (pc := 3) (vs' := [some (.ref (wB w + 52)), some (.ref (wB w + h1)), some (.int p2), some (.int (0 : Int32)), some (.int (0 : Int32)), none]) dX7_tellsCondition_3 (Nat.le_of_ble_eq_true rfl) (Nat.le_of_ble_eq_true rfl) rfl ?_
  refine V_iconst (pc := 5) (v := (0 : Int32)) dX7_tellsCondition_5 rfl ?_
  refine V_istore (pc := 6) (vs' := [some (.ref (wB w + 52)), some (.ref (wB w + h1)), some (.int p2), some (.int (0 : Int32)), some (.int (0 : Int32)), some (.int (0 : Int32))]) dX7_tellsCondition_6 (Nat.le_of_ble_eq_true rfl) (Nat.le_of_ble_eq_true rfl) rfl ?_
  exact hL8 n ((0 : Int32), (0 : Int32), (0 : Int32), σ)
def G_gt (n : Nat) : Nat → RT_gt
  | 0 => ((fun _ _ _ => none), (fun _ _ _ => none))
  | d + 1 => (F_X7_tellsAtom (G_gt n d) n, F_X7_tellsCondition (G_gt n d) n)
theorem cg_gt (n : Nat) : ∀ d, IH_gt d (G_gt n d) := by
  intro d
  induction d with
  | zero => exact ⟨fun _ _ _ _ _ _ _ _ h => by cases h, fun _ _ _ _ _ _ _ _ h => by cases h⟩
  | succ d ih => exact ⟨cst_X7_tellsAtom n d _ ih, cst_X7_tellsCondition n d _ ih⟩
def f_X7_tellsAtom (n : Nat) (h1 : Nat) (p2 : Int32) (σ : MS) : Option (Int32 × MS) := (G_gt n 30).1 h1 p2 σ
theorem c_X7_tellsAtom (w : TG) (n : Nat) (h1 : Nat) (p2 : Int32) (k_h1 : kd h1 = 6) (σ : MS) : MC m_X7_tellsAtom w [.ref (wB w + 52), .ref (wB w + h1), .int p2] σ (f_X7_tellsAtom n h1 p2 σ) := (cg_gt n 30).1 w h1 p2 k_h1 σ
def f_X7_tellsCondition (n : Nat) (h1 : Nat) (p2 : Int32) (σ : MS) : Option (Int32 × MS) := (G_gt n 30).2 h1 p2 σ
theorem c_X7_tellsCondition (w : TG) (n : Nat) (h1 : Nat) (p2 : Int32) (k_h1 : kd h1 = 6) (σ : MS) : MC m_X7_tellsCondition w [.ref (wB w + 52), .ref (wB w + h1), .int p2] σ (f_X7_tellsCondition n h1 p2 σ) := (cg_gt n 30).2 w h1 p2 k_h1 σ
def J_X6_addLine_59 (h0 : Nat) (σ : MS) : Option (Int32 × MS) := some (0, σ)
def f_X6_addLine (h0 : Nat) (p1 : Int32) (p2 : Int32) (σ : MS) : Option (Int32 × MS) := (if (σ h0 0) < 0 then J_X6_addLine_59 h0 σ else (if (12 : Int32) ≤ (σ h0 0) then J_X6_addLine_59 h0 σ else (if inb (σ h0 0) 12 then ltM (mu σ (h0 + 1) (ix (σ h0 0)) p1) (fun s25 => (if inb (s25 h0 0) 12 then ltM (mu s25 (h0 + 2) (ix (s25 h0 0)) p2) (fun s35 => (if inb (s35 h0 0) 12 then ltM (mu s35 (h0 + 3) (ix (s35 h0 0)) (s35 h0 1)) (fun s48 => (ltM (mu s48 h0 0 ((s48 h0 0) + (1 : Int32))) (fun s56 => J_X6_addLine_59 h0 s56))) else none)) else none)) else none)))
set_option maxRecDepth 20000 in
set_option maxHeartbeats 2000000 in
theorem c_X6_addLine (w : TG) (h0 : Nat) (p1 : Int32) (p2 : Int32) (k_h0 : kd h0 = 6) (σ : MS) : MC m_X6_addLine w [.ref (wB w + h0), .int p1, .int p2] σ (f_X6_addLine h0 p1 p2 σ) := by
  refine V_meth (by decide +kernel) (Nat.le_of_ble_eq_true rfl) (by intro v hv; simp only [List.mem_cons, List.not_mem_nil, or_false] at hv; rcases hv with rfl | rfl | rfl <;> rfl) (fun g x => ?_)
  show VV m_X6_addLine w g 0 0 (QM m_X6_addLine w g x) (fun b : Int32 × MS => b = x) 0 [some (.ref (wB w + h0)), some (.int p1), some (.int p2)] [] σ (f_X6_addLine h0 p1 p2 σ)
  have hJ59 : ∀ (σ : MS), VV m_X6_addLine w g 0 0 (QM m_X6_addLine w g x) (fun b : Int32 × MS => b = x) 59 [none, none, none] [] σ (J_X6_addLine_59 h0 σ) := by
    intro σ
    exact V_ret (pc := 59) dX6_addLine_59 rfl (hk := fun h => h)
  refine V_aload_n (pc := 0) dX6_addLine_0 rfl rfl ?_
  refine V_geti (pc := 1) fk_X6_9 rfl dX6_addLine_1 k_h0 rfl ?_
  refine V_if_lt (pc := 4) (tgt := 59) dX6_addLine_4 (by decide) ?_ ?_
  · refine V_sub (vs' := [none, none, none]) (show vless _ _ from trivial) rfl ?_
    exact hJ59 σ
  · refine V_aload_n (pc := 7) dX6_addLine_7 rfl rfl ?_
    refine V_geti (pc := 8) fk_X6_9 rfl dX6_addLine_8 k_h0 rfl ?_
    refine V_bipush (pc := 11) (v := (12 : Int32)) dX6_addLine_11 rfl ?_
    refine V_icmp_ge (pc := 13) (tgt := 59) dX6_addLine_13 (by decide) ?_ ?_
    · refine V_sub (vs' := [none, none, none]) (show vless _ _ from trivial) rfl ?_
      exact hJ59 σ
    · refine V_aload_n (pc := 16) dX6_addLine_16 rfl rfl ?_
      refine V_getr (pc := 17) (t := (h0 + 1)) fk_X6_15 rfl dX6_addLine_17 k_h0 rfl ?_
      refine V_aload_n (pc := 20) dX6_addLine_20 rfl rfl ?_
      refine V_geti (pc := 21) fk_X6_9 rfl dX6_addLine_21 k_h0 rfl ?_
      refine V_iload_n (pc := 24) dX6_addLine_24 rfl rfl ?_
      refine V_iast (pc := 25) (n := 12) dX6_addLine_25 (lA1 k_h0).1 (lA1 k_h0).2 (fun s25 => ?_)
      refine V_aload_n (pc := 26) dX6_addLine_26 rfl rfl ?_
      refine V_getr (pc := 27) (t := (h0 + 2)) fk_X6_19 rfl dX6_addLine_27 k_h0 rfl ?_
      refine V_aload_n (pc := 30) dX6_addLine_30 rfl rfl ?_
      refine V_geti (pc := 31) fk_X6_9 rfl dX6_addLine_31 k_h0 rfl ?_
      refine V_iload_n (pc := 34) dX6_addLine_34 rfl rfl ?_
      refine V_iast (pc := 35) (n := 12) dX6_addLine_35 (lA2 k_h0).1 (lA2 k_h0).2 (fun s35 => ?_)
      refine V_aload_n (pc := 36) dX6_addLine_36 rfl rfl ?_
      refine V_getr (pc := 37) (t := (h0 + 3)) fk_X6_22 rfl dX6_addLine_37 k_h0 rfl ?_
      refine V_aload_n (pc := 40) dX6_addLine_40 rfl rfl ?_
      refine V_geti (pc := 41) fk_X6_9 rfl dX6_addLine_41 k_h0 rfl ?_
      refine V_aload_n (pc := 44) dX6_addLine_44 rfl rfl ?_
      refine V_geti (pc := 45) fk_X6_34 rfl dX6_addLine_45 k_h0 rfl ?_
      refine V_iast (pc := 48) (n := 12) dX6_addLine_48 (lA3 k_h0).1 (lA3 k_h0).2 (fun s48 => ?_)
      refine V_aload_n (pc := 49) dX6_addLine_49 rfl rfl ?_
      refine V_dup (pc := 50) dX6_addLine_50 rfl ?_
      refine V_geti (pc := 51) fk_X6_9 rfl dX6_addLine_51 k_h0 rfl ?_
      refine V_iconst (pc := 54) (v := (1 : Int32)) dX6_addLine_54 rfl ?_
      refine V_iadd (pc := 55) dX6_addLine_55 ?_
      refine V_puti (pc := 56) fp_X6_9 rfl dX6_addLine_56 k_h0 rfl (fun s56 => ?_)
      refine V_sub (vs' := [none, none, none]) (show vless _ _ from trivial) rfl ?_
      exact hJ59 s56
def J_X7_tellsLine_72 (n : Nat) (h1 : Nat) (v2 : Int32) (v3 : Int32) (σ : MS) : Option (Int32 × MS) := ((f_X6_addLine h1 v2 v3 σ).bind (fun q75 => some ((1 : Int32), q75.2)))
def f_X7_tellsLine (n : Nat) (h1 : Nat) (σ : MS) : Option (Int32 × MS) := ((f_X9_wordAmong n 26 σ).bind (fun q6 => (if q6 = (-1 : Int32) then some ((0 : Int32), σ) else ((f_X9_advance n  σ).bind (fun q21 => ((f_X9_number n (0 : Int32) (99 : Int32) q21.2).bind (fun q31 => (if q31 = (-1 : Int32) then some ((0 : Int32), q21.2) else ((f_X9_advance n  q21.2).bind (fun q46 => ((f_X9_skipWord n 27 q46.2).bind (fun q55 => (if q55.1 = 0 then J_X7_tellsLine_72 n h1 q6 q31 q55.2 else ((f_X7_tellsCondition n h1 (0 : Int32) q55.2).bind (fun q64 => (if q64.1 = 0 then some ((0 : Int32), q64.2) else J_X7_tellsLine_72 n h1 q6 q31 q64.2))))))))))))))))
set_option maxRecDepth 20000 in
set_option maxHeartbeats 2000000 in
theorem c_X7_tellsLine (w : TG) (n : Nat) (h1 : Nat) (k_h1 : kd h1 = 6) (σ : MS) : MC m_X7_tellsLine w [.ref (wB w + 52), .ref (wB w + h1)] σ (f_X7_tellsLine n h1 σ) := by
  refine V_meth (by decide +kernel) (Nat.le_of_ble_eq_true rfl) (by intro v hv; simp only [List.mem_cons, List.not_mem_nil, or_false] at hv; rcases hv with rfl | rfl <;> rfl) (fun g x => ?_)
  show VV m_X7_tellsLine w g 0 0 (QM m_X7_tellsLine w g x) (fun b : Int32 × MS => b = x) 0 [some (.ref (wB w + 52)), some (.ref (wB w + h1)), none, none] [] σ (f_X7_tellsLine n h1 σ)
  have hJ72 : ∀ (v2 : Int32) (v3 : Int32) (σ : MS), VV m_X7_tellsLine w g 0 0 (QM m_X7_tellsLine w g x) (fun b : Int32 × MS => b = x) 72 [none, some (.ref (wB w + h1)), some (.int v2), some (.int v3)] [] σ (J_X7_tellsLine_72 n h1 v2 v3 σ) := by
    intro v2 v3 σ
    refine V_aload_n (pc := 72) dX7_tellsLine_72 rfl rfl ?_
    refine V_iload_n (pc := 73) dX7_tellsLine_73 rfl rfl ?_
    refine V_iload_n (pc := 74) dX7_tellsLine_74 rfl rfl ?_
    refine V_callVv (pc := 75) (As := [.int v2, .int v3]) (rest := []) (c_X6_addLine w h1 v2 v3 k_h1 σ) cw_X7_58 rfl rfl dX7_tellsLine_75 k_h1 rfl ⟨Nat.le_of_ble_eq_true rfl, Nat.le_of_ble_eq_true rfl⟩ rfl rfl (Nat.le_of_ble_eq_true rfl) (Nat.le_of_ble_eq_true rfl) (Nat.le_of_ble_eq_true rfl) rfl (fun q75 => ?_)
    refine V_iconst (pc := 78) (v := (1 : Int32)) dX7_tellsLine_78 rfl ?_
    exact V_iretz (pc := 79) dX7_tellsLine_79 rfl rfl (hk := fun h => h)
  refine V_aload_n (pc := 0) dX7_tellsLine_0 rfl rfl ?_
  refine V_getr (pc := 1) (t := 1) fk_X7_9 rfl dX7_tellsLine_1 kc_52 rfl ?_
  refine V_ldcS (pc := 4) (i := 26) (tx := "bind last suspect") dX7_tellsLine_4 rfl (by decide +kernel) ?_
  refine V_callVpi (pc := 6) (As := [.ref (wS w 26)]) (rest := []) (c_X9_wordAmong w n 26 (by decide) σ) cw_X7_37 rfl rfl dX7_tellsLine_6 kc_1 rfl ⟨Nat.le_of_ble_eq_true rfl, Nat.le_of_ble_eq_true rfl⟩ rfl rfl (Nat.le_of_ble_eq_true rfl) (Nat.le_of_ble_eq_true rfl) (Nat.le_of_ble_eq_true rfl) rfl (fun q6 => ?_)
  refine V_istore_n (pc := 9) (vs' := [some (.ref (wB w + 52)), some (.ref (wB w + h1)), some (.int q6), none]) dX7_tellsLine_9 rfl (Nat.le_of_ble_eq_true rfl) (Nat.le_of_ble_eq_true rfl) rfl ?_
  refine V_iload_n (pc := 10) dX7_tellsLine_10 rfl rfl ?_
  refine V_iconst (pc := 11) (v := (-1 : Int32)) dX7_tellsLine_11 rfl ?_
  refine V_icmp_ne (pc := 12) (tgt := 17) dX7_tellsLine_12 (by decide) ?_ ?_
  · refine V_aload_n (pc := 17) dX7_tellsLine_17 rfl rfl ?_
    refine V_getr (pc := 18) (t := 1) fk_X7_9 rfl dX7_tellsLine_18 kc_52 rfl ?_
    refine V_callVv (pc := 21) (As := []) (rest := []) (c_X9_advance w n  σ) cw_X7_41 rfl rfl dX7_tellsLine_21 kc_1 rfl ⟨Nat.le_of_ble_eq_true rfl, Nat.le_of_ble_eq_true rfl⟩ rfl rfl (Nat.le_of_ble_eq_true rfl) (Nat.le_of_ble_eq_true rfl) (Nat.le_of_ble_eq_true rfl) rfl (fun q21 => ?_)
    refine V_aload_n (pc := 24) dX7_tellsLine_24 rfl rfl ?_
    refine V_getr (pc := 25) (t := 1) fk_X7_9 rfl dX7_tellsLine_25 kc_52 rfl ?_
    refine V_iconst (pc := 28) (v := (0 : Int32)) dX7_tellsLine_28 rfl ?_
    refine V_bipush (pc := 29) (v := (99 : Int32)) dX7_tellsLine_29 rfl ?_
    refine V_callVpi (pc := 31) (As := [.int (0 : Int32), .int (99 : Int32)]) (rest := []) (c_X9_number w n (0 : Int32) (99 : Int32) q21.2) cw_X7_44 rfl rfl dX7_tellsLine_31 kc_1 rfl ⟨Nat.le_of_ble_eq_true rfl, Nat.le_of_ble_eq_true rfl⟩ rfl rfl (Nat.le_of_ble_eq_true rfl) (Nat.le_of_ble_eq_true rfl) (Nat.le_of_ble_eq_true rfl) rfl (fun q31 => ?_)
    refine V_istore_n (pc := 34) (vs' := [some (.ref (wB w + 52)), some (.ref (wB w + h1)), some (.int q6), some (.int q31)]) dX7_tellsLine_34 rfl (Nat.le_of_ble_eq_true rfl) (Nat.le_of_ble_eq_true rfl) rfl ?_
    refine V_iload_n (pc := 35) dX7_tellsLine_35 rfl rfl ?_
    refine V_iconst (pc := 36) (v := (-1 : Int32)) dX7_tellsLine_36 rfl ?_
    refine V_icmp_ne (pc := 37) (tgt := 42) dX7_tellsLine_37 (by decide) ?_ ?_
    · refine V_aload_n (pc := 42) dX7_tellsLine_42 rfl rfl ?_
      refine V_getr (pc := 43) (t := 1) fk_X7_9 rfl dX7_tellsLine_43 kc_52 rfl ?_
      refine V_callVv (pc := 46) (As := []) (rest := []) (c_X9_advance w n  q21.2) cw_X7_41 rfl rfl dX7_tellsLine_46 kc_1 rfl ⟨Nat.le_of_ble_eq_true rfl, Nat.le_of_ble_eq_true rfl⟩ rfl rfl (Nat.le_of_ble_eq_true rfl) (Nat.le_of_ble_eq_true rfl) (Nat.le_of_ble_eq_true rfl) rfl (fun q46 => ?_)
      refine V_aload_n (pc := 49) dX7_tellsLine_49 rfl rfl ?_
      refine V_getr (pc := 50) (t := 1) fk_X7_9 rfl dX7_tellsLine_50 kc_52 rfl ?_
      refine V_ldcS (pc := 53) (i := 27) (tx := "if") dX7_tellsLine_53 rfl (by decide +kernel) ?_
      refine V_callVi (pc := 55) (As := [.ref (wS w 27)]) (rest := []) (c_X9_skipWord w n 27 (by decide) q46.2) cw_X7_50 rfl rfl dX7_tellsLine_55 kc_1 rfl ⟨Nat.le_of_ble_eq_true rfl, Nat.le_of_ble_eq_true rfl⟩ rfl rfl (Nat.le_of_ble_eq_true rfl) (Nat.le_of_ble_eq_true rfl) (Nat.le_of_ble_eq_true rfl) rfl (fun q55 => ?_)
      refine V_if_eq (pc := 58) (tgt := 72) dX7_tellsLine_58 (by decide) ?_ ?_
      · refine V_sub (vs' := [none, some (.ref (wB w + h1)), some (.int q6), some (.int q31)]) (show vless _ _ from ⟨rfl, ⟨rfl, ⟨rfl, trivial⟩⟩⟩) rfl ?_
        exact hJ72 q6 q31 q55.2
      · refine V_aload_n (pc := 61) dX7_tellsLine_61 rfl rfl ?_
        refine V_aload_n (pc := 62) dX7_tellsLine_62 rfl rfl ?_
        refine V_iconst (pc := 63) (v := (0 : Int32)) dX7_tellsLine_63 rfl ?_
        refine V_callVi (pc := 64) (As := [.ref (wB w + h1), .int (0 : Int32)]) (rest := []) (c_X7_tellsCondition w n h1 (0 : Int32) k_h1 q55.2) cw_X7_54 rfl rfl dX7_tellsLine_64 kc_52 rfl ⟨Nat.le_of_ble_eq_true rfl, Nat.le_of_ble_eq_true rfl⟩ rfl rfl (Nat.le_of_ble_eq_true rfl) (Nat.le_of_ble_eq_true rfl) (Nat.le_of_ble_eq_true rfl) rfl (fun q64 => ?_)
        refine V_if_ne (pc := 67) (tgt := 72) dX7_tellsLine_67 (by decide) ?_ ?_
        · refine V_sub (vs' := [none, some (.ref (wB w + h1)), some (.int q6), some (.int q31)]) (show vless _ _ from ⟨rfl, ⟨rfl, ⟨rfl, trivial⟩⟩⟩) rfl ?_
          exact hJ72 q6 q31 q64.2
        · refine V_iconst (pc := 70) (v := (0 : Int32)) dX7_tellsLine_70 rfl ?_
          exact V_iretz (pc := 71) dX7_tellsLine_71 rfl rfl (hk := fun h => h)
    · refine V_iconst (pc := 40) (v := (0 : Int32)) dX7_tellsLine_40 rfl ?_
      exact V_iretz (pc := 41) dX7_tellsLine_41 rfl rfl (hk := fun h => h)
  · refine V_iconst (pc := 15) (v := (0 : Int32)) dX7_tellsLine_15 rfl ?_
    exact V_iretz (pc := 16) dX7_tellsLine_16 rfl rfl (hk := fun h => h)
def L_X7_tells_25 (n : Nat) (h1 : Nat) (σ : MS) (a25 : Int32 × MS) : Option ((Int32 × MS) ⊕ (Int32 × MS)) := (if (12 : Int32) ≤ a25.1 then (some ((0 : Int32), a25.2)).map Sum.inr else ((f_X7_tellsLine n h1 a25.2).bind (fun q33 => (if q33.1 = 0 then (some ((0 : Int32), q33.2)).map Sum.inr else ((f_X9_isOver  q33.2).bind (fun q45 => (if q45 = 0 then ((f_X9_skipSign n (59 : Int32) q33.2).bind (fun q59 => (if q59.1 = 0 then (some ((0 : Int32), q59.2)).map Sum.inr else some (.inl ((a25.1 + (1 : Int32)), q59.2))))) else (some ((1 : Int32), q33.2)).map Sum.inr)))))))
def f_X7_tells (n : Nat) (h1 : Nat) (σ : MS) : Option (Int32 × MS) := ((f_X6_begin h1 σ).bind (fun q1 => ((f_X9_begin n  q1.2).bind (fun q8 => ((f_X9_isOver  q8.2).bind (fun q15 => (if q15 = 0 then itr (L_X7_tells_25 n h1 σ) n ((0 : Int32), q8.2) else some ((1 : Int32), q8.2))))))))
set_option maxRecDepth 20000 in
set_option maxHeartbeats 2000000 in
theorem c_X7_tells (w : TG) (n : Nat) (h1 : Nat) (k_h1 : kd h1 = 6) (σ : MS) : MC m_X7_tells w [.ref (wB w + 52), .ref (wB w + h1)] σ (f_X7_tells n h1 σ) := by
  refine V_meth (by decide +kernel) (Nat.le_of_ble_eq_true rfl) (by intro v hv; simp only [List.mem_cons, List.not_mem_nil, or_false] at hv; rcases hv with rfl | rfl <;> rfl) (fun g x => ?_)
  show VV m_X7_tells w g 0 0 (QM m_X7_tells w g x) (fun b : Int32 × MS => b = x) 0 [some (.ref (wB w + 52)), some (.ref (wB w + h1)), none] [] σ (f_X7_tells n h1 σ)
  have hL25 : ∀  (n0 : Nat) (a : Int32 × MS), VV m_X7_tells w g 0 0 (QM m_X7_tells w g x) (fun b : Int32 × MS => b = x) 25 [some (.ref (wB w + 52)), some (.ref (wB w + h1)), some (.int a.1)] [] a.2 (itr (L_X7_tells_25 n h1 σ) n0 a) := by
    refine V_itr (vf := fun a : Int32 × MS => [some (.ref (wB w + 52)), some (.ref (wB w + h1)), some (.int a.1)]) (sf := fun a : Int32 × MS => a.2) (fun κ25 b25 r25 a25 => ?_)
    show VV m_X7_tells w g 0 0 (QM m_X7_tells w g x) κ25 25 [some (.ref (wB w + 52)), some (.ref (wB w + h1)), some (.int a25.1)] [] a25.2 (L_X7_tells_25 n h1 σ a25)
    refine V_iload_n (pc := 25) dX7_tells_25 rfl rfl ?_
    refine V_bipush (pc := 26) (v := (12 : Int32)) dX7_tells_26 rfl ?_
    refine V_icmp_ge (pc := 28) (tgt := 73) dX7_tells_28 (by decide) ?_ ?_
    · refine V_exit r25 ?_
      refine V_iconst (pc := 73) (v := (0 : Int32)) dX7_tells_73 rfl ?_
      exact V_iretz (pc := 74) dX7_tells_74 rfl rfl (hk := fun h => h)
    · refine V_aload_n (pc := 31) dX7_tells_31 rfl rfl ?_
      refine V_aload_n (pc := 32) dX7_tells_32 rfl rfl ?_
      refine V_callVi (pc := 33) (As := [.ref (wB w + h1)]) (rest := []) (c_X7_tellsLine w n h1 k_h1 a25.2) cw_X7_27 rfl rfl dX7_tells_33 kc_52 rfl ⟨Nat.le_of_ble_eq_true rfl, Nat.le_of_ble_eq_true rfl⟩ rfl rfl (Nat.le_of_ble_eq_true rfl) (Nat.le_of_ble_eq_true rfl) (Nat.le_of_ble_eq_true rfl) rfl (fun q33 => ?_)
      refine V_if_ne (pc := 36) (tgt := 41) dX7_tells_36 (by decide) ?_ ?_
      · refine V_aload_n (pc := 41) dX7_tells_41 rfl rfl ?_
        refine V_getr (pc := 42) (t := 1) fk_X7_9 rfl dX7_tells_42 kc_52 rfl ?_
        refine V_callVpi (pc := 45) (As := []) (rest := []) (c_X9_isOver w  q33.2) cw_X7_23 rfl rfl dX7_tells_45 kc_1 rfl ⟨Nat.le_of_ble_eq_true rfl, Nat.le_of_ble_eq_true rfl⟩ rfl rfl (Nat.le_of_ble_eq_true rfl) (Nat.le_of_ble_eq_true rfl) (Nat.le_of_ble_eq_true rfl) rfl (fun q45 => ?_)
        refine V_if_eq (pc := 48) (tgt := 53) dX7_tells_48 (by decide) ?_ ?_
        · refine V_aload_n (pc := 53) dX7_tells_53 rfl rfl ?_
          refine V_getr (pc := 54) (t := 1) fk_X7_9 rfl dX7_tells_54 kc_52 rfl ?_
          refine V_bipush (pc := 57) (v := (59 : Int32)) dX7_tells_57 rfl ?_
          refine V_callVi (pc := 59) (As := [.int (59 : Int32)]) (rest := []) (c_X9_skipSign w n (59 : Int32) q33.2) cw_X7_31 rfl rfl dX7_tells_59 kc_1 rfl ⟨Nat.le_of_ble_eq_true rfl, Nat.le_of_ble_eq_true rfl⟩ rfl rfl (Nat.le_of_ble_eq_true rfl) (Nat.le_of_ble_eq_true rfl) (Nat.le_of_ble_eq_true rfl) rfl (fun q59 => ?_)
          refine V_if_ne (pc := 62) (tgt := 67) dX7_tells_62 (by decide) ?_ ?_
          · refine V_iinc (pc := 67) (v := (a25.1 + (1 : Int32))) (vs' := [some (.ref (wB w + 52)), some (.ref (wB w + h1)), some (.int (a25.1 + (1 : Int32)))]) dX7_tells_67 (Nat.le_of_ble_eq_true rfl) rfl rfl rfl ?_
            refine V_goto (pc := 70) (tgt := 25) dX7_tells_70 (by decide) ?_
            exact V_back (b25 ((a25.1 + (1 : Int32)), q59.2))
          · refine V_exit r25 ?_
            refine V_iconst (pc := 65) (v := (0 : Int32)) dX7_tells_65 rfl ?_
            exact V_iretz (pc := 66) dX7_tells_66 rfl rfl (hk := fun h => h)
        · refine V_exit r25 ?_
          refine V_iconst (pc := 51) (v := (1 : Int32)) dX7_tells_51 rfl ?_
          exact V_iretz (pc := 52) dX7_tells_52 rfl rfl (hk := fun h => h)
      · refine V_exit r25 ?_
        refine V_iconst (pc := 39) (v := (0 : Int32)) dX7_tells_39 rfl ?_
        exact V_iretz (pc := 40) dX7_tells_40 rfl rfl (hk := fun h => h)
  refine V_aload_n (pc := 0) dX7_tells_0 rfl rfl ?_
  refine V_callVv (pc := 1) (As := []) (rest := []) (c_X6_begin w h1 k_h1 σ) cw_X7_15 rfl rfl dX7_tells_1 k_h1 rfl ⟨Nat.le_of_ble_eq_true rfl, Nat.le_of_ble_eq_true rfl⟩ rfl rfl (Nat.le_of_ble_eq_true rfl) (Nat.le_of_ble_eq_true rfl) (Nat.le_of_ble_eq_true rfl) rfl (fun q1 => ?_)
  refine V_aload_n (pc := 4) dX7_tells_4 rfl rfl ?_
  refine V_getr (pc := 5) (t := 1) fk_X7_9 rfl dX7_tells_5 kc_52 rfl ?_
  refine V_callVv (pc := 8) (As := []) (rest := []) (c_X9_begin w n  q1.2) cw_X7_20 rfl rfl dX7_tells_8 kc_1 rfl ⟨Nat.le_of_ble_eq_true rfl, Nat.le_of_ble_eq_true rfl⟩ rfl rfl (Nat.le_of_ble_eq_true rfl) (Nat.le_of_ble_eq_true rfl) (Nat.le_of_ble_eq_true rfl) rfl (fun q8 => ?_)
  refine V_aload_n (pc := 11) dX7_tells_11 rfl rfl ?_
  refine V_getr (pc := 12) (t := 1) fk_X7_9 rfl dX7_tells_12 kc_52 rfl ?_
  refine V_callVpi (pc := 15) (As := []) (rest := []) (c_X9_isOver w  q8.2) cw_X7_23 rfl rfl dX7_tells_15 kc_1 rfl ⟨Nat.le_of_ble_eq_true rfl, Nat.le_of_ble_eq_true rfl⟩ rfl rfl (Nat.le_of_ble_eq_true rfl) (Nat.le_of_ble_eq_true rfl) (Nat.le_of_ble_eq_true rfl) rfl (fun q15 => ?_)
  refine V_if_eq (pc := 18) (tgt := 23) dX7_tells_18 (by decide) ?_ ?_
  · refine V_iconst (pc := 23) (v := (0 : Int32)) dX7_tells_23 rfl ?_
    refine V_istore_n (pc := 24) (vs' := [some (.ref (wB w + 52)), some (.ref (wB w + h1)), some (.int (0 : Int32))]) dX7_tells_24 rfl (Nat.le_of_ble_eq_true rfl) (Nat.le_of_ble_eq_true rfl) rfl ?_
    exact hL25 n ((0 : Int32), q8.2)
  · refine V_iconst (pc := 21) (v := (1 : Int32)) dX7_tells_21 rfl ?_
    exact V_iretz (pc := 22) dX7_tells_22 rfl rfl (hk := fun h => h)
def f_X6_become (h0 : Nat) (h1 : Nat) (σ : MS) : Option (Int32 × MS) := (ltM (mu σ h0 0 (σ h1 0)) (fun s5 => (ltM (mu s5 h0 1 (s5 h1 1)) (fun s13 => (ltM (mcp s13 (h1 + 1) (h0 + 1) 12) (fun s31 => (ltM (mcp s31 (h1 + 2) (h0 + 2) 12) (fun s49 => (ltM (mcp s49 (h1 + 3) (h0 + 3) 12) (fun s67 => (ltM (mcp s67 (h1 + 4) (h0 + 4) 400) (fun s85 => some (0, s85)))))))))))))
set_option maxRecDepth 20000 in
set_option maxHeartbeats 2000000 in
theorem c_X6_become (w : TG) (h0 : Nat) (h1 : Nat) (k_h0 : kd h0 = 6) (k_h1 : kd h1 = 6) (σ : MS) : MC m_X6_become w [.ref (wB w + h0), .ref (wB w + h1)] σ (f_X6_become h0 h1 σ) := by
  refine V_meth (by decide +kernel) (Nat.le_of_ble_eq_true rfl) (by intro v hv; simp only [List.mem_cons, List.not_mem_nil, or_false] at hv; rcases hv with rfl | rfl <;> rfl) (fun g x => ?_)
  show VV m_X6_become w g 0 0 (QM m_X6_become w g x) (fun b : Int32 × MS => b = x) 0 [some (.ref (wB w + h0)), some (.ref (wB w + h1))] [] σ (f_X6_become h0 h1 σ)
  refine V_aload_n (pc := 0) dX6_become_0 rfl rfl ?_
  refine V_aload_n (pc := 1) dX6_become_1 rfl rfl ?_
  refine V_geti (pc := 2) fk_X6_9 rfl dX6_become_2 k_h1 rfl ?_
  refine V_puti (pc := 5) fp_X6_9 rfl dX6_become_5 k_h0 rfl (fun s5 => ?_)
  refine V_aload_n (pc := 8) dX6_become_8 rfl rfl ?_
  refine V_aload_n (pc := 9) dX6_become_9 rfl rfl ?_
  refine V_geti (pc := 10) fk_X6_34 rfl dX6_become_10 k_h1 rfl ?_
  refine V_puti (pc := 13) fp_X6_34 rfl dX6_become_13 k_h0 rfl (fun s13 => ?_)
  refine V_aload_n (pc := 16) dX6_become_16 rfl rfl ?_
  refine V_getr (pc := 17) (t := (h1 + 1)) fk_X6_15 rfl dX6_become_17 k_h1 rfl ?_
  refine V_iconst (pc := 20) (v := (0 : Int32)) dX6_become_20 rfl ?_
  refine V_aload_n (pc := 21) dX6_become_21 rfl rfl ?_
  refine V_getr (pc := 22) (t := (h0 + 1)) fk_X6_15 rfl dX6_become_22 k_h0 rfl ?_
  refine V_iconst (pc := 25) (v := (0 : Int32)) dX6_become_25 rfl ?_
  refine V_aload_n (pc := 26) dX6_become_26 rfl rfl ?_
  refine V_getr (pc := 27) (t := (h0 + 1)) fk_X6_15 rfl dX6_become_27 k_h0 rfl ?_
  refine V_alen (pc := 30) (v := 12) dX6_become_30 (lA1 k_h0).1 (by rw [(lA1 k_h0).2]; rfl) ?_
  refine V_copy (pc := 31) (N := 12) dX6_become_31 rfl cpw_X6_37 (Nat.le_of_ble_eq_true rfl) (by decide +kernel) (lA1 k_h1).1 (lA1 k_h0).1 (lA1 k_h1).2 (lA1 k_h0).2 rfl (by decide) (fun s31 => ?_)
  refine V_aload_n (pc := 34) dX6_become_34 rfl rfl ?_
  refine V_getr (pc := 35) (t := (h1 + 2)) fk_X6_19 rfl dX6_become_35 k_h1 rfl ?_
  refine V_iconst (pc := 38) (v := (0 : Int32)) dX6_become_38 rfl ?_
  refine V_aload_n (pc := 39) dX6_become_39 rfl rfl ?_
  refine V_getr (pc := 40) (t := (h0 + 2)) fk_X6_19 rfl dX6_become_40 k_h0 rfl ?_
  refine V_iconst (pc := 43) (v := (0 : Int32)) dX6_become_43 rfl ?_
  refine V_aload_n (pc := 44) dX6_become_44 rfl rfl ?_
  refine V_getr (pc := 45) (t := (h0 + 2)) fk_X6_19 rfl dX6_become_45 k_h0 rfl ?_
  refine V_alen (pc := 48) (v := 12) dX6_become_48 (lA2 k_h0).1 (by rw [(lA2 k_h0).2]; rfl) ?_
  refine V_copy (pc := 49) (N := 12) dX6_become_49 rfl cpw_X6_37 (Nat.le_of_ble_eq_true rfl) (by decide +kernel) (lA2 k_h1).1 (lA2 k_h0).1 (lA2 k_h1).2 (lA2 k_h0).2 rfl (by decide) (fun s49 => ?_)
  refine V_aload_n (pc := 52) dX6_become_52 rfl rfl ?_
  refine V_getr (pc := 53) (t := (h1 + 3)) fk_X6_22 rfl dX6_become_53 k_h1 rfl ?_
  refine V_iconst (pc := 56) (v := (0 : Int32)) dX6_become_56 rfl ?_
  refine V_aload_n (pc := 57) dX6_become_57 rfl rfl ?_
  refine V_getr (pc := 58) (t := (h0 + 3)) fk_X6_22 rfl dX6_become_58 k_h0 rfl ?_
  refine V_iconst (pc := 61) (v := (0 : Int32)) dX6_become_61 rfl ?_
  refine V_aload_n (pc := 62) dX6_become_62 rfl rfl ?_
  refine V_getr (pc := 63) (t := (h0 + 3)) fk_X6_22 rfl dX6_become_63 k_h0 rfl ?_
  refine V_alen (pc := 66) (v := 12) dX6_become_66 (lA3 k_h0).1 (by rw [(lA3 k_h0).2]; rfl) ?_
  refine V_copy (pc := 67) (N := 12) dX6_become_67 rfl cpw_X6_37 (Nat.le_of_ble_eq_true rfl) (by decide +kernel) (lA3 k_h1).1 (lA3 k_h0).1 (lA3 k_h1).2 (lA3 k_h0).2 rfl (by decide) (fun s67 => ?_)
  refine V_aload_n (pc := 70) dX6_become_70 rfl rfl ?_
  refine V_getr (pc := 71) (t := (h1 + 4)) fk_X6_25 rfl dX6_become_71 k_h1 rfl ?_
  refine V_iconst (pc := 74) (v := (0 : Int32)) dX6_become_74 rfl ?_
  refine V_aload_n (pc := 75) dX6_become_75 rfl rfl ?_
  refine V_getr (pc := 76) (t := (h0 + 4)) fk_X6_25 rfl dX6_become_76 k_h0 rfl ?_
  refine V_iconst (pc := 79) (v := (0 : Int32)) dX6_become_79 rfl ?_
  refine V_aload_n (pc := 80) dX6_become_80 rfl rfl ?_
  refine V_getr (pc := 81) (t := (h0 + 4)) fk_X6_25 rfl dX6_become_81 k_h0 rfl ?_
  refine V_alen (pc := 84) (v := 400) dX6_become_84 (lA4 k_h0).1 (by rw [(lA4 k_h0).2]; rfl) ?_
  refine V_copy (pc := 85) (N := 400) dX6_become_85 rfl cpw_X6_37 (Nat.le_of_ble_eq_true rfl) (by decide +kernel) (lA4 k_h1).1 (lA4 k_h0).1 (lA4 k_h1).2 (lA4 k_h0).2 rfl (by decide) (fun s85 => ?_)
  exact V_ret (pc := 88) dX6_become_88 rfl (hk := fun h => h)
def J_X8_gladder_75 (n : Nat) (v1 : Int32) (v3 : Int32) (v4 : Int32) (v5 : Int32) (σ : MS) : Option ((Int32 × Int32) ⊕ (Int32)) := some (.inl (v4, (v5 + (1 : Int32))))
def L_X8_gladder_34 (n : Nat) (v1 : Int32) (v3 : Int32) (σ : MS) (a34 : Int32 × Int32) : Option ((Int32 × Int32) ⊕ (Int32)) := (if (σ 3 0) ≤ a34.2 then (some a34.1).map Sum.inr else (if a34.2 = v1 then J_X8_gladder_75 n v1 v3 a34.1 a34.2 σ else ((f_X4_likingOf 3 v1 a34.2 σ).bind (fun q59 => (if q59 ≤ v3 then J_X8_gladder_75 n v1 v3 a34.1 a34.2 σ else J_X8_gladder_75 n v1 v3 (a34.1 ||| (shlI (1 : Int32) a34.2)) a34.2 σ)))))
def J_X8_gladder_27 (n : Nat) (v1 : Int32) (t0 : Int32) (σ : MS) : Option (Int32) := itr (L_X8_gladder_34 n v1 t0 σ) n ((0 : Int32), (0 : Int32))
def f_X8_gladder (n : Nat) (p1 : Int32) (σ : MS) : Option (Int32) := ((f_X4_closest n 3 p1 σ).bind (fun q5 => (if q5 = (-1 : Int32) then J_X8_gladder_27 n p1 (0 : Int32) σ else ((f_X4_likingOf 3 p1 q5 σ).bind (fun q24 => J_X8_gladder_27 n p1 q24 σ)))))
set_option maxRecDepth 20000 in
set_option maxHeartbeats 2000000 in
theorem c_X8_gladder (w : TG) (n : Nat) (p1 : Int32) (σ : MS) : MC m_X8_gladder w [.ref (wB w + 56), .int p1] σ ((f_X8_gladder n p1 σ).map (fun r => (r, σ))) := by
  refine V_methp (by decide +kernel) (Nat.le_of_ble_eq_true rfl) (by intro v hv; simp only [List.mem_cons, List.not_mem_nil, or_false] at hv; rcases hv with rfl | rfl <;> rfl) (fun g x => ?_)
  show VV m_X8_gladder w g 0 0 (QM m_X8_gladder w g x) (fun b : Int32 => (b, σ) = x) 0 [some (.ref (wB w + 56)), some (.int p1), none, none, none, none] [] σ (f_X8_gladder n p1 σ)
  have hL34 : ∀ (v3 : Int32) (n0 : Nat) (a : Int32 × Int32), VV m_X8_gladder w g 0 0 (QM m_X8_gladder w g x) (fun b : Int32 => (b, σ) = x) 34 [some (.ref (wB w + 56)), some (.int p1), none, some (.int v3), some (.int a.1), some (.int a.2)] [] σ (itr (L_X8_gladder_34 n p1 v3 σ) n0 a) := by
    intro v3
    refine V_itr (vf := fun a : Int32 × Int32 => [some (.ref (wB w + 56)), some (.int p1), none, some (.int v3), some (.int a.1), some (.int a.2)]) (sf := fun a : Int32 × Int32 => σ) (fun κ34 b34 r34 a34 => ?_)
    show VV m_X8_gladder w g 0 0 (QM m_X8_gladder w g x) κ34 34 [some (.ref (wB w + 56)), some (.int p1), none, some (.int v3), some (.int a34.1), some (.int a34.2)] [] σ (L_X8_gladder_34 n p1 v3 σ a34)
    have hJ75 : ∀ (v4 : Int32) (v5 : Int32), VV m_X8_gladder w g 0 0 (QM m_X8_gladder w g x) κ34 75 [some (.ref (wB w + 56)), some (.int p1), none, some (.int v3), some (.int v4), some (.int v5)] [] σ (J_X8_gladder_75 n p1 v3 v4 v5 σ) := by
      intro v4 v5
      refine V_iinc (pc := 75) (v := (v5 + (1 : Int32))) (vs' := [some (.ref (wB w + 56)), some (.int p1), none, some (.int v3), some (.int v4), some (.int (v5 + (1 : Int32)))]) dX8_gladder_75 (Nat.le_of_ble_eq_true rfl) rfl rfl rfl ?_
      refine V_goto (pc := 78) (tgt := 34) dX8_gladder_78 (by decide) ?_
      exact V_back (b34 (v4, (v5 + (1 : Int32))))
    refine V_iload (pc := 34) dX8_gladder_34 rfl ?_
    refine V_aload_n (pc := 36) dX8_gladder_36 rfl rfl ?_
    refine V_getr (pc := 37) (t := 3) fk_X8_18 rfl dX8_gladder_37 kc_56 rfl ?_
    refine V_geti (pc := 40) fk_X8_32 rfl dX8_gladder_40 kc_3 rfl ?_
    refine V_icmp_ge (pc := 43) (tgt := 81) dX8_gladder_43 (by decide) ?_ ?_
    · refine V_exit r34 ?_
      refine V_iload (pc := 81) dX8_gladder_81 rfl ?_
      exact V_ireti (pc := 83) dX8_gladder_83 rfl (hk := fun h => h)
    · refine V_iload (pc := 46) dX8_gladder_46 rfl ?_
      refine V_iload_n (pc := 48) dX8_gladder_48 rfl rfl ?_
      refine V_icmp_eq (pc := 49) (tgt := 75) dX8_gladder_49 (by decide) ?_ ?_
      · exact hJ75 a34.1 a34.2
      · refine V_aload_n (pc := 52) dX8_gladder_52 rfl rfl ?_
        refine V_getr (pc := 53) (t := 3) fk_X8_18 rfl dX8_gladder_53 kc_56 rfl ?_
        refine V_iload_n (pc := 56) dX8_gladder_56 rfl rfl ?_
        refine V_iload (pc := 57) dX8_gladder_57 rfl ?_
        refine V_callVpi (pc := 59) (As := [.int p1, .int a34.2]) (rest := []) (c_X4_likingOf w 3 p1 a34.2 kc_3 σ) cw_X8_28 rfl rfl dX8_gladder_59 kc_3 rfl ⟨Nat.le_of_ble_eq_true rfl, Nat.le_of_ble_eq_true rfl⟩ rfl rfl (Nat.le_of_ble_eq_true rfl) (Nat.le_of_ble_eq_true rfl) (Nat.le_of_ble_eq_true rfl) rfl (fun q59 => ?_)
        refine V_iload_n (pc := 62) dX8_gladder_62 rfl rfl ?_
        refine V_icmp_le (pc := 63) (tgt := 75) dX8_gladder_63 (by decide) ?_ ?_
        · exact hJ75 a34.1 a34.2
        · refine V_iload (pc := 66) dX8_gladder_66 rfl ?_
          refine V_iconst (pc := 68) (v := (1 : Int32)) dX8_gladder_68 rfl ?_
          refine V_iload (pc := 69) dX8_gladder_69 rfl ?_
          refine V_ishl (pc := 71) dX8_gladder_71 ?_
          refine V_ior (pc := 72) dX8_gladder_72 ?_
          refine V_istore (pc := 73) (vs' := [some (.ref (wB w + 56)), some (.int p1), none, some (.int v3), some (.int (a34.1 ||| (shlI (1 : Int32) a34.2))), some (.int a34.2)]) dX8_gladder_73 (Nat.le_of_ble_eq_true rfl) (Nat.le_of_ble_eq_true rfl) rfl ?_
          exact hJ75 (a34.1 ||| (shlI (1 : Int32) a34.2)) a34.2
  have hJ27 : ∀ (t0 : Int32), VV m_X8_gladder w g 0 0 (QM m_X8_gladder w g x) (fun b : Int32 => (b, σ) = x) 27 [some (.ref (wB w + 56)), some (.int p1), none, none, none, none] [.int t0] σ (J_X8_gladder_27 n p1 t0 σ) := by
    intro t0
    refine V_istore_n (pc := 27) (vs' := [some (.ref (wB w + 56)), some (.int p1), none, some (.int t0), none, none]) dX8_gladder_27 rfl (Nat.le_of_ble_eq_true rfl) (Nat.le_of_ble_eq_true rfl) rfl ?_
    refine V_iconst (pc := 28) (v := (0 : Int32)) dX8_gladder_28 rfl ?_
    refine V_istore (pc := 29) (vs' := [some (.ref (wB w + 56)), some (.int p1), none, some (.int t0), some (.int (0 : Int32)), none]) dX8_gladder_29 (Nat.le_of_ble_eq_true rfl) (Nat.le_of_ble_eq_true rfl) rfl ?_
    refine V_iconst (pc := 31) (v := (0 : Int32)) dX8_gladder_31 rfl ?_
    refine V_istore (pc := 32) (vs' := [some (.ref (wB w + 56)), some (.int p1), none, some (.int t0), some (.int (0 : Int32)), some (.int (0 : Int32))]) dX8_gladder_32 (Nat.le_of_ble_eq_true rfl) (Nat.le_of_ble_eq_true rfl) rfl ?_
    exact hL34 t0 n ((0 : Int32), (0 : Int32))
  refine V_aload_n (pc := 0) dX8_gladder_0 rfl rfl ?_
  refine V_getr (pc := 1) (t := 3) fk_X8_18 rfl dX8_gladder_1 kc_56 rfl ?_
  refine V_iload_n (pc := 4) dX8_gladder_4 rfl rfl ?_
  refine V_callVpi (pc := 5) (As := [.int p1]) (rest := []) (c_X4_closest w n 3 p1 kc_3 σ) cw_X8_22 rfl rfl dX8_gladder_5 kc_3 rfl ⟨Nat.le_of_ble_eq_true rfl, Nat.le_of_ble_eq_true rfl⟩ rfl rfl (Nat.le_of_ble_eq_true rfl) (Nat.le_of_ble_eq_true rfl) (Nat.le_of_ble_eq_true rfl) rfl (fun q5 => ?_)
  refine V_istore_n (pc := 8) (vs' := [some (.ref (wB w + 56)), some (.int p1), some (.int q5), none, none, none]) dX8_gladder_8 rfl (Nat.le_of_ble_eq_true rfl) (Nat.le_of_ble_eq_true rfl) rfl ?_
  refine V_iload_n (pc := 9) dX8_gladder_9 rfl rfl ?_
  refine V_iconst (pc := 10) (v := (-1 : Int32)) dX8_gladder_10 rfl ?_
  refine V_icmp_ne (pc := 11) (tgt := 18) dX8_gladder_11 (by decide) ?_ ?_
  · refine V_aload_n (pc := 18) dX8_gladder_18 rfl rfl ?_
    refine V_getr (pc := 19) (t := 3) fk_X8_18 rfl dX8_gladder_19 kc_56 rfl ?_
    refine V_iload_n (pc := 22) dX8_gladder_22 rfl rfl ?_
    refine V_iload_n (pc := 23) dX8_gladder_23 rfl rfl ?_
    refine V_callVpi (pc := 24) (As := [.int p1, .int q5]) (rest := []) (c_X4_likingOf w 3 p1 q5 kc_3 σ) cw_X8_28 rfl rfl dX8_gladder_24 kc_3 rfl ⟨Nat.le_of_ble_eq_true rfl, Nat.le_of_ble_eq_true rfl⟩ rfl rfl (Nat.le_of_ble_eq_true rfl) (Nat.le_of_ble_eq_true rfl) (Nat.le_of_ble_eq_true rfl) rfl (fun q24 => ?_)
    refine V_sub (vs' := [some (.ref (wB w + 56)), some (.int p1), none, none, none, none]) (show vless _ _ from ⟨rfl, ⟨rfl, trivial⟩⟩) rfl ?_
    exact hJ27 q24
  · refine V_iconst (pc := 14) (v := (0 : Int32)) dX8_gladder_14 rfl ?_
    refine V_goto (pc := 15) (tgt := 27) dX8_gladder_15 (by decide) ?_
    refine V_sub (vs' := [some (.ref (wB w + 56)), some (.int p1), none, none, none, none]) (show vless _ _ from ⟨rfl, ⟨rfl, trivial⟩⟩) rfl ?_
    exact hJ27 (0 : Int32)
def J_X6_consider_101 (h0 : Nat) (h1 : Nat) (t0 : Int32) (t1 : Int32) (σ : MS) : Option (Int32 × MS) := (if inb t1 8 then ltM (mu σ (h0 + 5) (ix t1) t0) (fun s101 => some (0, s101)) else none)
def J_X6_consider_80 (h0 : Nat) (h1 : Nat) (v2 : Int32) (v3 : Int32) (t0 : Int32) (t1 : Int32) (σ : MS) : Option (Int32 × MS) := (if inb t1 8 then ltM (mu σ (h0 + 5) (ix t1) t0) (fun s80 => ((f_X4_holds h1 v2 v3 s80).bind (fun q90 => (if q90 = 0 then J_X6_consider_101 h0 h1 (0 : Int32) (7 : Int32) s80 else J_X6_consider_101 h0 h1 (1 : Int32) (7 : Int32) s80)))) else none)
def f_X6_consider (h0 : Nat) (h1 : Nat) (p2 : Int32) (p3 : Int32) (p4 : Int32) (p5 : Int32) (σ : MS) : Option (Int32 × MS) := (ltM (mu σ (h0 + 5) 0 p2) (fun s6 => (ltM (mu s6 (h0 + 5) 1 p3) (fun s13 => (ltM (mu s13 (h0 + 5) 2 p4) (fun s21 => (ltM (mu s21 (h0 + 5) 3 p5) (fun s29 => ((f_X4_likingOf h1 p2 p3 s29).bind (fun q38 => ((f_X4_likingOf h1 p3 p2 s29).bind (fun q44 => (ltM (mu s29 (h0 + 5) 4 (q38 + q44)) (fun s48 => (ltM (mu s48 (h0 + 5) 5 (s48 h1 5)) (fun s58 => (if inb p2 8 then (if (s58 (h1 + 2) (ix p2)) = p3 then J_X6_consider_80 h0 h1 p2 p3 (1 : Int32) (6 : Int32) s58 else J_X6_consider_80 h0 h1 p2 p3 (0 : Int32) (6 : Int32) s58) else none)))))))))))))))))
set_option maxRecDepth 20000 in
set_option maxHeartbeats 2000000 in
theorem c_X6_consider (w : TG) (h0 : Nat) (h1 : Nat) (p2 : Int32) (p3 : Int32) (p4 : Int32) (p5 : Int32) (k_h0 : kd h0 = 6) (k_h1 : kd h1 = 4) (σ : MS) : MC m_X6_consider w [.ref (wB w + h0), .ref (wB w + h1), .int p2, .int p3, .int p4, .int p5] σ (f_X6_consider h0 h1 p2 p3 p4 p5 σ) := by
  refine V_meth (by decide +kernel) (Nat.le_of_ble_eq_true rfl) (by intro v hv; simp only [List.mem_cons, List.not_mem_nil, or_false] at hv; rcases hv with rfl | rfl | rfl | rfl | rfl | rfl <;> rfl) (fun g x => ?_)
  show VV m_X6_consider w g 0 0 (QM m_X6_consider w g x) (fun b : Int32 × MS => b = x) 0 [some (.ref (wB w + h0)), some (.ref (wB w + h1)), some (.int p2), some (.int p3), some (.int p4), some (.int p5)] [] σ (f_X6_consider h0 h1 p2 p3 p4 p5 σ)
  have hJ101 : ∀ (t0 : Int32) (t1 : Int32) (σ : MS), VV m_X6_consider w g 0 0 (QM m_X6_consider w g x) (fun b : Int32 × MS => b = x) 101 [none, none, none, none, none, none] [.int t0, .int t1, .ref (wB w + (h0 + 5))] σ (J_X6_consider_101 h0 h1 t0 t1 σ) := by
    intro t0 t1 σ
    refine V_iast (pc := 101) (n := 8) dX6_consider_101 (lA5 k_h0).1 (lA5 k_h0).2 (fun s101 => ?_)
    exact V_ret (pc := 102) dX6_consider_102 rfl (hk := fun h => h)
  have hJ80 : ∀ (t0 : Int32) (t1 : Int32) (σ : MS), VV m_X6_consider w g 0 0 (QM m_X6_consider w g x) (fun b : Int32 × MS => b = x) 80 [some (.ref (wB w + h0)), some (.ref (wB w + h1)), some (.int p2), some (.int p3), none, none] [.int t0, .int t1, .ref (wB w + (h0 + 5))] σ (J_X6_consider_80 h0 h1 p2 p3 t0 t1 σ) := by
    intro t0 t1 σ
    refine V_iast (pc := 80) (n := 8) dX6_consider_80 (lA5 k_h0).1 (lA5 k_h0).2 (fun s80 => ?_)
    refine V_aload_n (pc := 81) dX6_consider_81 rfl rfl ?_
    refine V_getr (pc := 82) (t := (h0 + 5)) fk_X6_28 rfl dX6_consider_82 k_h0 rfl ?_
    refine V_bipush (pc := 85) (v := (7 : Int32)) dX6_consider_85 rfl ?_
    refine V_aload_n (pc := 87) dX6_consider_87 rfl rfl ?_
    refine V_iload_n (pc := 88) dX6_consider_88 rfl rfl ?_
    refine V_iload_n (pc := 89) dX6_consider_89 rfl rfl ?_
    refine V_callVpi (pc := 90) (As := [.int p2, .int p3]) (rest := [.int (7 : Int32), .ref (wB w + (h0 + 5))]) (c_X4_holds w h1 p2 p3 k_h1 s80) cw_X6_74 rfl rfl dX6_consider_90 k_h1 rfl ⟨Nat.le_of_ble_eq_true rfl, Nat.le_of_ble_eq_true rfl⟩ rfl rfl (Nat.le_of_ble_eq_true rfl) (Nat.le_of_ble_eq_true rfl) (Nat.le_of_ble_eq_true rfl) rfl (fun q90 => ?_)
    refine V_if_eq (pc := 93) (tgt := 100) dX6_consider_93 (by decide) ?_ ?_
    · refine V_iconst (pc := 100) (v := (0 : Int32)) dX6_consider_100 rfl ?_
      refine V_sub (vs' := [none, none, none, none, none, none]) (show vless _ _ from trivial) rfl ?_
      exact hJ101 (0 : Int32) (7 : Int32) s80
    · refine V_iconst (pc := 96) (v := (1 : Int32)) dX6_consider_96 rfl ?_
      refine V_goto (pc := 97) (tgt := 101) dX6_consider_97 (by decide) ?_
      refine V_sub (vs' := [none, none, none, none, none, none]) (show vless _ _ from trivial) rfl ?_
      exact hJ101 (1 : Int32) (7 : Int32) s80
  refine V_aload_n (pc := 0) dX6_consider_0 rfl rfl ?_
  refine V_getr (pc := 1) (t := (h0 + 5)) fk_X6_28 rfl dX6_consider_1 k_h0 rfl ?_
  refine V_iconst (pc := 4) (v := (0 : Int32)) dX6_consider_4 rfl ?_
  refine V_iload_n (pc := 5) dX6_consider_5 rfl rfl ?_
  refine V_iastC (pc := 6) (n := 8) dX6_consider_6 (lA5 k_h0).1 (lA5 k_h0).2 (by decide) (fun s6 => ?_)
  refine V_aload_n (pc := 7) dX6_consider_7 rfl rfl ?_
  refine V_getr (pc := 8) (t := (h0 + 5)) fk_X6_28 rfl dX6_consider_8 k_h0 rfl ?_
  refine V_iconst (pc := 11) (v := (1 : Int32)) dX6_consider_11 rfl ?_
  refine V_iload_n (pc := 12) dX6_consider_12 rfl rfl ?_
  refine V_iastC (pc := 13) (n := 8) dX6_consider_13 (lA5 k_h0).1 (lA5 k_h0).2 (by decide) (fun s13 => ?_)
  refine V_aload_n (pc := 14) dX6_consider_14 rfl rfl ?_
  refine V_getr (pc := 15) (t := (h0 + 5)) fk_X6_28 rfl dX6_consider_15 k_h0 rfl ?_
  refine V_iconst (pc := 18) (v := (2 : Int32)) dX6_consider_18 rfl ?_
  refine V_iload (pc := 19) dX6_consider_19 rfl ?_
  refine V_iastC (pc := 21) (n := 8) dX6_consider_21 (lA5 k_h0).1 (lA5 k_h0).2 (by decide) (fun s21 => ?_)
  refine V_aload_n (pc := 22) dX6_consider_22 rfl rfl ?_
  refine V_getr (pc := 23) (t := (h0 + 5)) fk_X6_28 rfl dX6_consider_23 k_h0 rfl ?_
  refine V_iconst (pc := 26) (v := (3 : Int32)) dX6_consider_26 rfl ?_
  refine V_iload (pc := 27) dX6_consider_27 rfl ?_
  refine V_iastC (pc := 29) (n := 8) dX6_consider_29 (lA5 k_h0).1 (lA5 k_h0).2 (by decide) (fun s29 => ?_)
  refine V_aload_n (pc := 30) dX6_consider_30 rfl rfl ?_
  refine V_getr (pc := 31) (t := (h0 + 5)) fk_X6_28 rfl dX6_consider_31 k_h0 rfl ?_
  refine V_iconst (pc := 34) (v := (4 : Int32)) dX6_consider_34 rfl ?_
  refine V_aload_n (pc := 35) dX6_consider_35 rfl rfl ?_
  refine V_iload_n (pc := 36) dX6_consider_36 rfl rfl ?_
  refine V_iload_n (pc := 37) dX6_consider_37 rfl rfl ?_
  refine V_callVpi (pc := 38) (As := [.int p2, .int p3]) (rest := [.int (4 : Int32), .ref (wB w + (h0 + 5))]) (c_X4_likingOf w h1 p2 p3 k_h1 s29) cw_X6_65 rfl rfl dX6_consider_38 k_h1 rfl ⟨Nat.le_of_ble_eq_true rfl, Nat.le_of_ble_eq_true rfl⟩ rfl rfl (Nat.le_of_ble_eq_true rfl) (Nat.le_of_ble_eq_true rfl) (Nat.le_of_ble_eq_true rfl) rfl (fun q38 => ?_)
  refine V_aload_n (pc := 41) dX6_consider_41 rfl rfl ?_
  refine V_iload_n (pc := 42) dX6_consider_42 rfl rfl ?_
  refine V_iload_n (pc := 43) dX6_consider_43 rfl rfl ?_
  refine V_callVpi (pc := 44) (As := [.int p3, .int p2]) (rest := [.int q38, .int (4 : Int32), .ref (wB w + (h0 + 5))]) (c_X4_likingOf w h1 p3 p2 k_h1 s29) cw_X6_65 rfl rfl dX6_consider_44 k_h1 rfl ⟨Nat.le_of_ble_eq_true rfl, Nat.le_of_ble_eq_true rfl⟩ rfl rfl (Nat.le_of_ble_eq_true rfl) (Nat.le_of_ble_eq_true rfl) (Nat.le_of_ble_eq_true rfl) rfl (fun q44 => ?_)
  refine V_iadd (pc := 47) dX6_consider_47 ?_
  refine V_iastC (pc := 48) (n := 8) dX6_consider_48 (lA5 k_h0).1 (lA5 k_h0).2 (by decide) (fun s48 => ?_)
  refine V_aload_n (pc := 49) dX6_consider_49 rfl rfl ?_
  refine V_getr (pc := 50) (t := (h0 + 5)) fk_X6_28 rfl dX6_consider_50 k_h0 rfl ?_
  refine V_iconst (pc := 53) (v := (5 : Int32)) dX6_consider_53 rfl ?_
  refine V_aload_n (pc := 54) dX6_consider_54 rfl rfl ?_
  refine V_geti (pc := 55) fk_X6_68 rfl dX6_consider_55 k_h1 rfl ?_
  refine V_iastC (pc := 58) (n := 8) dX6_consider_58 (lA5 k_h0).1 (lA5 k_h0).2 (by decide) (fun s58 => ?_)
  refine V_aload_n (pc := 59) dX6_consider_59 rfl rfl ?_
  refine V_getr (pc := 60) (t := (h0 + 5)) fk_X6_28 rfl dX6_consider_60 k_h0 rfl ?_
  refine V_bipush (pc := 63) (v := (6 : Int32)) dX6_consider_63 rfl ?_
  refine V_aload_n (pc := 65) dX6_consider_65 rfl rfl ?_
  refine V_getr (pc := 66) (t := (h1 + 2)) fk_X6_71 rfl dX6_consider_66 k_h1 rfl ?_
  refine V_iload_n (pc := 69) dX6_consider_69 rfl rfl ?_
  refine V_iald (pc := 70) (n := 8) dX6_consider_70 (hA2 k_h1).1 (hA2 k_h1).2 ?_
  refine V_iload_n (pc := 71) dX6_consider_71 rfl rfl ?_
  refine V_icmp_ne (pc := 72) (tgt := 79) dX6_consider_72 (by decide) ?_ ?_
  · refine V_iconst (pc := 79) (v := (0 : Int32)) dX6_consider_79 rfl ?_
    refine V_sub (vs' := [some (.ref (wB w + h0)), some (.ref (wB w + h1)), some (.int p2), some (.int p3), none, none]) (show vless _ _ from ⟨rfl, ⟨rfl, ⟨rfl, ⟨rfl, trivial⟩⟩⟩⟩) rfl ?_
    exact hJ80 (0 : Int32) (6 : Int32) s58
  · refine V_iconst (pc := 75) (v := (1 : Int32)) dX6_consider_75 rfl ?_
    refine V_goto (pc := 76) (tgt := 80) dX6_consider_76 (by decide) ?_
    refine V_sub (vs' := [some (.ref (wB w + h0)), some (.ref (wB w + h1)), some (.int p2), some (.int p3), none, none]) (show vless _ _ from ⟨rfl, ⟨rfl, ⟨rfl, ⟨rfl, trivial⟩⟩⟩⟩) rfl ?_
    exact hJ80 (1 : Int32) (6 : Int32) s58
def J_X6_joined_65 (t0 : Int32) (σ : MS) : Option (Int32) := some t0
def J_X6_joined_54 (t0 : Int32) (σ : MS) : Option (Int32) := some t0
def f_X6_joined (p0 : Int32) (p1 : Int32) (p2 : Int32) (σ : MS) : Option (Int32) := (if p0 = (2001 : Int32) then some (p1 &&& p2) else (if p0 = (2002 : Int32) then some (p1 ||| p2) else (if p0 = (2003 : Int32) then some (p1 + p2) else (if p0 = (2004 : Int32) then (if p2 ≤ p1 then J_X6_joined_54 (0 : Int32) σ else J_X6_joined_54 (1 : Int32) σ) else (if p1 ≤ p2 then J_X6_joined_65 (0 : Int32) σ else J_X6_joined_65 (1 : Int32) σ)))))
set_option maxRecDepth 20000 in
set_option maxHeartbeats 2000000 in
theorem c_X6_joined (w : TG) (p0 : Int32) (p1 : Int32) (p2 : Int32) (σ : MS) : MC m_X6_joined w [.int p0, .int p1, .int p2] σ ((f_X6_joined p0 p1 p2 σ).map (fun r => (r, σ))) := by
  refine V_methp (by decide +kernel) (Nat.le_of_ble_eq_true rfl) (by intro v hv; simp only [List.mem_cons, List.not_mem_nil, or_false] at hv; rcases hv with rfl | rfl | rfl <;> rfl) (fun g x => ?_)
  show VV m_X6_joined w g 0 0 (QM m_X6_joined w g x) (fun b : Int32 => (b, σ) = x) 0 [some (.int p0), some (.int p1), some (.int p2)] [] σ (f_X6_joined p0 p1 p2 σ)
  have hJ65 : ∀ (t0 : Int32), VV m_X6_joined w g 0 0 (QM m_X6_joined w g x) (fun b : Int32 => (b, σ) = x) 65 [none, none, none] [.int t0] σ (J_X6_joined_65 t0 σ) := by
    intro t0
    exact V_ireti (pc := 65) dX6_joined_65 rfl (hk := fun h => h)
  have hJ54 : ∀ (t0 : Int32), VV m_X6_joined w g 0 0 (QM m_X6_joined w g x) (fun b : Int32 => (b, σ) = x) 54 [none, none, none] [.int t0] σ (J_X6_joined_54 t0 σ) := by
    intro t0
    exact V_ireti (pc := 54) dX6_joined_54 rfl (hk := fun h => h)
  refine V_iload_n (pc := 0) dX6_joined_0 rfl rfl ?_
  refine V_ite (c := p0 = (2001 : Int32)) (fun hx => ?_) (fun hx2001 => ?_)
  · refine V_tabIn (pc := 1) (x := p0) (tgt := 32) dX6_joined_1 (by rw [hx]; decide) (by rw [hx]; decide) (by rw [hx]; rfl) (by decide) ?_
    refine V_iload_n (pc := 32) dX6_joined_32 rfl rfl ?_
    refine V_iload_n (pc := 33) dX6_joined_33 rfl rfl ?_
    refine V_iand (pc := 34) dX6_joined_34 ?_
    exact V_ireti (pc := 35) dX6_joined_35 rfl (hk := fun h => h)
  refine V_ite (c := p0 = (2002 : Int32)) (fun hx => ?_) (fun hx2002 => ?_)
  · refine V_tabIn (pc := 1) (x := p0) (tgt := 36) dX6_joined_1 (by rw [hx]; decide) (by rw [hx]; decide) (by rw [hx]; rfl) (by decide) ?_
    refine V_iload_n (pc := 36) dX6_joined_36 rfl rfl ?_
    refine V_iload_n (pc := 37) dX6_joined_37 rfl rfl ?_
    refine V_ior (pc := 38) dX6_joined_38 ?_
    exact V_ireti (pc := 39) dX6_joined_39 rfl (hk := fun h => h)
  refine V_ite (c := p0 = (2003 : Int32)) (fun hx => ?_) (fun hx2003 => ?_)
  · refine V_tabIn (pc := 1) (x := p0) (tgt := 40) dX6_joined_1 (by rw [hx]; decide) (by rw [hx]; decide) (by rw [hx]; rfl) (by decide) ?_
    refine V_iload_n (pc := 40) dX6_joined_40 rfl rfl ?_
    refine V_iload_n (pc := 41) dX6_joined_41 rfl rfl ?_
    refine V_iadd (pc := 42) dX6_joined_42 ?_
    exact V_ireti (pc := 43) dX6_joined_43 rfl (hk := fun h => h)
  refine V_ite (c := p0 = (2004 : Int32)) (fun hx => ?_) (fun hx2004 => ?_)
  · refine V_tabIn (pc := 1) (x := p0) (tgt := 44) dX6_joined_1 (by rw [hx]; decide) (by rw [hx]; decide) (by rw [hx]; rfl) (by decide) ?_
    refine V_iload_n (pc := 44) dX6_joined_44 rfl rfl ?_
    refine V_iload_n (pc := 45) dX6_joined_45 rfl rfl ?_
    refine V_icmp_ge (pc := 46) (tgt := 53) dX6_joined_46 (by decide) ?_ ?_
    · refine V_iconst (pc := 53) (v := (0 : Int32)) dX6_joined_53 rfl ?_
      refine V_sub (vs' := [none, none, none]) (show vless _ _ from trivial) rfl ?_
      exact hJ54 (0 : Int32)
    · refine V_iconst (pc := 49) (v := (1 : Int32)) dX6_joined_49 rfl ?_
      refine V_goto (pc := 50) (tgt := 54) dX6_joined_50 (by decide) ?_
      refine V_sub (vs' := [none, none, none]) (show vless _ _ from trivial) rfl ?_
      exact hJ54 (1 : Int32)
  refine V_tabOut (pc := 1) (tgt := 55) dX6_joined_1 (tabout p0 2001 2004 (by decide) (by decide) (fun k h1 h2 => ?_)) (by decide) ?_
  · rcases (show k = 2001 ∨ k = 2002 ∨ k = 2003 ∨ k = 2004 by omega) with rfl | rfl | rfl | rfl
    · exact hx2001
    · exact hx2002
    · exact hx2003
    · exact hx2004
  · refine V_iload_n (pc := 55) dX6_joined_55 rfl rfl ?_
    refine V_iload_n (pc := 56) dX6_joined_56 rfl rfl ?_
    refine V_icmp_le (pc := 57) (tgt := 64) dX6_joined_57 (by decide) ?_ ?_
    · refine V_iconst (pc := 64) (v := (0 : Int32)) dX6_joined_64 rfl ?_
      refine V_sub (vs' := [none, none, none]) (show vless _ _ from trivial) rfl ?_
      exact hJ65 (0 : Int32)
    · refine V_iconst (pc := 60) (v := (1 : Int32)) dX6_joined_60 rfl ?_
      refine V_goto (pc := 61) (tgt := 65) dX6_joined_61 (by decide) ?_
      refine V_sub (vs' := [none, none, none]) (show vless _ _ from trivial) rfl ?_
      exact hJ65 (1 : Int32)
def J_X6_isTrue_182 (n : Nat) (h0 : Nat) (t0 : Int32) (σ : MS) : Option (Int32 × MS) := (if t0 = 0 ∨ t0 = 1 then some (t0, σ) else none)
def J_X6_isTrue_177 (n : Nat) (h0 : Nat) (σ : MS) : Option (Int32 × MS) := J_X6_isTrue_182 n h0 (1 : Int32) σ
def J_X6_isTrue_158 (n : Nat) (h0 : Nat) (v1 : Int32) (v2 : Int32) (v3 : Int32) (σ : MS) : Option ((Int32 × Int32 × MS) ⊕ (Int32 × MS)) := some (.inl (v2, (v3 + (1 : Int32)), σ))
def J_X6_isTrue_83 (n : Nat) (h0 : Nat) (v1 : Int32) (v2 : Int32) (v3 : Int32) (t0 : Int32) (t1 : Int32) (σ : MS) : Option ((Int32 × Int32 × MS) ⊕ (Int32 × MS)) := (if inb t1 32 then ltM (mu σ (h0 + 6) (ix t1) t0) (fun s83 => J_X6_isTrue_158 n h0 v1 (v2 + (1 : Int32)) v3 s83) else none)
def L_X6_isTrue_19 (n : Nat) (h0 : Nat) (v1 : Int32) (σ : MS) (a19 : Int32 × Int32 × MS) : Option ((Int32 × Int32 × MS) ⊕ (Int32 × MS)) := (if inb v1 12 then (if (a19.2.2 (h0 + 3) (ix v1)) ≤ a19.2.1 then ((if a19.1 = 0 then J_X6_isTrue_177 n h0 a19.2.2 else (if (a19.2.2 (h0 + 6) 0) = 0 then J_X6_isTrue_182 n h0 (0 : Int32) a19.2.2 else J_X6_isTrue_177 n h0 a19.2.2))).map Sum.inr else (if inb a19.2.1 400 then (if (2000 : Int32) ≤ (a19.2.2 (h0 + 4) (ix a19.2.1)) then (if (a19.2.2 (h0 + 4) (ix a19.2.1)) = (2000 : Int32) then (if a19.1 ≤ 0 then J_X6_isTrue_158 n h0 v1 a19.1 a19.2.1 a19.2.2 else (if inb (a19.1 - (1 : Int32)) 32 then (if inb (a19.1 - (1 : Int32)) 32 then ltM (mu a19.2.2 (h0 + 6) (ix (a19.1 - (1 : Int32))) ((1 : Int32) - (a19.2.2 (h0 + 6) (ix (a19.1 - (1 : Int32)))))) (fun s119 => J_X6_isTrue_158 n h0 v1 a19.1 a19.2.1 s119) else none) else none)) else (if a19.1 ≤ (1 : Int32) then J_X6_isTrue_158 n h0 v1 a19.1 a19.2.1 a19.2.2 else (if inb ((a19.1 + (-1 : Int32)) - (1 : Int32)) 32 then (if inb (a19.1 + (-1 : Int32)) 32 then ((f_X6_joined (a19.2.2 (h0 + 4) (ix a19.2.1)) (a19.2.2 (h0 + 6) (ix ((a19.1 + (-1 : Int32)) - (1 : Int32)))) (a19.2.2 (h0 + 6) (ix (a19.1 + (-1 : Int32)))) a19.2.2).bind (fun q154 => (if inb ((a19.1 + (-1 : Int32)) - (1 : Int32)) 32 then ltM (mu a19.2.2 (h0 + 6) (ix ((a19.1 + (-1 : Int32)) - (1 : Int32))) q154) (fun s157 => J_X6_isTrue_158 n h0 v1 (a19.1 + (-1 : Int32)) a19.2.1 s157) else none))) else none) else none))) else (if (32 : Int32) ≤ a19.1 then J_X6_isTrue_158 n h0 v1 a19.1 a19.2.1 a19.2.2 else (if (1000 : Int32) ≤ (a19.2.2 (h0 + 4) (ix a19.2.1)) then (if inb ((a19.2.2 (h0 + 4) (ix a19.2.1)) - (1000 : Int32)) 8 then J_X6_isTrue_83 n h0 v1 a19.1 a19.2.1 (a19.2.2 (h0 + 5) (ix ((a19.2.2 (h0 + 4) (ix a19.2.1)) - (1000 : Int32)))) a19.1 a19.2.2 else none) else J_X6_isTrue_83 n h0 v1 a19.1 a19.2.1 (a19.2.2 (h0 + 4) (ix a19.2.1)) a19.1 a19.2.2))) else none)) else none)
def J_X6_isTrue_18 (n : Nat) (h0 : Nat) (v1 : Int32) (v2 : Int32) (t0 : Int32) (σ : MS) : Option (Int32 × MS) := itr (L_X6_isTrue_19 n h0 v1 σ) n (v2, t0, σ)
def f_X6_isTrue (n : Nat) (h0 : Nat) (p1 : Int32) (σ : MS) : Option (Int32 × MS) := (if p1 = 0 then J_X6_isTrue_18 n h0 p1 (0 : Int32) (0 : Int32) σ else (if inb (p1 - (1 : Int32)) 12 then J_X6_isTrue_18 n h0 p1 (0 : Int32) (σ (h0 + 3) (ix (p1 - (1 : Int32)))) σ else none))
set_option maxRecDepth 20000 in
set_option maxHeartbeats 2000000 in
theorem c_X6_isTrue (w : TG) (n : Nat) (h0 : Nat) (p1 : Int32) (k_h0 : kd h0 = 6) (σ : MS) : MC m_X6_isTrue w [.ref (wB w + h0), .int p1] σ (f_X6_isTrue n h0 p1 σ) := by
  refine V_meth (by decide +kernel) (Nat.le_of_ble_eq_true rfl) (by intro v hv; simp only [List.mem_cons, List.not_mem_nil, or_false] at hv; rcases hv with rfl | rfl <;> rfl) (fun g x => ?_)
  show VV m_X6_isTrue w g 0 0 (QM m_X6_isTrue w g x) (fun b : Int32 × MS => b = x) 0 [some (.ref (wB w + h0)), some (.int p1), none, none, none] [] σ (f_X6_isTrue n h0 p1 σ)
  have hJ182 : ∀ (t0 : Int32) (σ : MS), VV m_X6_isTrue w g 0 0 (QM m_X6_isTrue w g x) (fun b : Int32 × MS => b = x) 182 [none, none, none, none, none] [.int t0] σ (J_X6_isTrue_182 n h0 t0 σ) := by
    intro t0 σ
    exact V_iretZ (pc := 182) dX6_isTrue_182 rfl (hk := fun h => h)
  have hJ177 : ∀ (σ : MS), VV m_X6_isTrue w g 0 0 (QM m_X6_isTrue w g x) (fun b : Int32 × MS => b = x) 177 [none, none, none, none, none] [] σ (J_X6_isTrue_177 n h0 σ) := by
    intro σ
    refine V_iconst (pc := 177) (v := (1 : Int32)) dX6_isTrue_177 rfl ?_
    refine V_goto (pc := 178) (tgt := 182) dX6_isTrue_178 (by decide) ?_
    exact hJ182 (1 : Int32) σ
  have hL19 : ∀  (n0 : Nat) (a : Int32 × Int32 × MS), VV m_X6_isTrue w g 0 0 (QM m_X6_isTrue w g x) (fun b : Int32 × MS => b = x) 19 [some (.ref (wB w + h0)), some (.int p1), some (.int a.1), some (.int a.2.1), none] [] a.2.2 (itr (L_X6_isTrue_19 n h0 p1 σ) n0 a) := by
    refine V_itr (vf := fun a : Int32 × Int32 × MS => [some (.ref (wB w + h0)), some (.int p1), some (.int a.1), some (.int a.2.1), none]) (sf := fun a : Int32 × Int32 × MS => a.2.2) (fun κ19 b19 r19 a19 => ?_)
    show VV m_X6_isTrue w g 0 0 (QM m_X6_isTrue w g x) κ19 19 [some (.ref (wB w + h0)), some (.int p1), some (.int a19.1), some (.int a19.2.1), none] [] a19.2.2 (L_X6_isTrue_19 n h0 p1 σ a19)
    have hJ158 : ∀ (v2 : Int32) (v3 : Int32) (σ : MS), VV m_X6_isTrue w g 0 0 (QM m_X6_isTrue w g x) κ19 158 [some (.ref (wB w + h0)), some (.int p1), some (.int v2), some (.int v3), none] [] σ (J_X6_isTrue_158 n h0 p1 v2 v3 σ) := by
      intro v2 v3 σ
      refine V_iinc (pc := 158) (v := (v3 + (1 : Int32))) (vs' := [some (.ref (wB w + h0)), some (.int p1), some (.int v2), some (.int (v3 + (1 : Int32))), none]) dX6_isTrue_158 (Nat.le_of_ble_eq_true rfl) rfl rfl rfl ?_
      refine V_goto (pc := 161) (tgt := 19) dX6_isTrue_161 (by decide) ?_
      exact V_back (b19 (v2, (v3 + (1 : Int32)), σ))
    have hJ83 : ∀ (v2 : Int32) (v3 : Int32) (t0 : Int32) (t1 : Int32) (σ : MS), VV m_X6_isTrue w g 0 0 (QM m_X6_isTrue w g x) κ19 83 [some (.ref (wB w + h0)), some (.int p1), some (.int v2), some (.int v3), none] [.int t0, .int t1, .ref (wB w + (h0 + 6))] σ (J_X6_isTrue_83 n h0 p1 v2 v3 t0 t1 σ) := by
      intro v2 v3 t0 t1 σ
      refine V_iast (pc := 83) (n := 32) dX6_isTrue_83 (lA6 k_h0).1 (lA6 k_h0).2 (fun s83 => ?_)
      refine V_iinc (pc := 84) (v := (v2 + (1 : Int32))) (vs' := [some (.ref (wB w + h0)), some (.int p1), some (.int (v2 + (1 : Int32))), some (.int v3), none]) dX6_isTrue_84 (Nat.le_of_ble_eq_true rfl) rfl rfl rfl ?_
      refine V_goto (pc := 87) (tgt := 158) dX6_isTrue_87 (by decide) ?_
      exact hJ158 (v2 + (1 : Int32)) v3 s83
    refine V_iload_n (pc := 19) dX6_isTrue_19 rfl rfl ?_
    refine V_aload_n (pc := 20) dX6_isTrue_20 rfl rfl ?_
    refine V_getr (pc := 21) (t := (h0 + 3)) fk_X6_22 rfl dX6_isTrue_21 k_h0 rfl ?_
    refine V_iload_n (pc := 24) dX6_isTrue_24 rfl rfl ?_
    refine V_iald (pc := 25) (n := 12) dX6_isTrue_25 (lA3 k_h0).1 (lA3 k_h0).2 ?_
    refine V_icmp_ge (pc := 26) (tgt := 164) dX6_isTrue_26 (by decide) ?_ ?_
    · refine V_exit r19 ?_
      refine V_iload_n (pc := 164) dX6_isTrue_164 rfl rfl ?_
      refine V_if_eq (pc := 165) (tgt := 177) dX6_isTrue_165 (by decide) ?_ ?_
      · refine V_sub (vs' := [none, none, none, none, none]) (show vless _ _ from trivial) rfl ?_
        exact hJ177 a19.2.2
      · refine V_aload_n (pc := 168) dX6_isTrue_168 rfl rfl ?_
        refine V_getr (pc := 169) (t := (h0 + 6)) fk_X6_31 rfl dX6_isTrue_169 k_h0 rfl ?_
        refine V_iconst (pc := 172) (v := (0 : Int32)) dX6_isTrue_172 rfl ?_
        refine V_ialdC (pc := 173) (n := 32) dX6_isTrue_173 (lA6 k_h0).1 (lA6 k_h0).2 (by decide) ?_
        refine V_if_eq (pc := 174) (tgt := 181) dX6_isTrue_174 (by decide) ?_ ?_
        · refine V_iconst (pc := 181) (v := (0 : Int32)) dX6_isTrue_181 rfl ?_
          refine V_sub (vs' := [none, none, none, none, none]) (show vless _ _ from trivial) rfl ?_
          exact hJ182 (0 : Int32) a19.2.2
        · refine V_sub (vs' := [none, none, none, none, none]) (show vless _ _ from trivial) rfl ?_
          exact hJ177 a19.2.2
    · refine V_aload_n (pc := 29) dX6_isTrue_29 rfl rfl ?_
      refine V_getr (pc := 30) (t := (h0 + 4)) fk_X6_25 rfl dX6_isTrue_30 k_h0 rfl ?_
      refine V_iload_n (pc := 33) dX6_isTrue_33 rfl rfl ?_
      refine V_iald (pc := 34) (n := 400) dX6_isTrue_34 (lA4 k_h0).1 (lA4 k_h0).2 ?_
      refine V_istore (pc := 35) (vs' := [some (.ref (wB w + h0)), some (.int p1), some (.int a19.1), some (.int a19.2.1), some (.int (a19.2.2 (h0 + 4) (ix a19.2.1)))]) dX6_isTrue_35 (Nat.le_of_ble_eq_true rfl) (Nat.le_of_ble_eq_true rfl) rfl ?_
      refine V_iload (pc := 37) dX6_isTrue_37 rfl ?_
      refine V_sipush (pc := 39) (v := (2000 : Int32)) dX6_isTrue_39 rfl ?_
      refine V_icmp_ge (pc := 42) (tgt := 90) dX6_isTrue_42 (by decide) ?_ ?_
      · refine V_iload (pc := 90) dX6_isTrue_90 rfl ?_
        refine V_sipush (pc := 92) (v := (2000 : Int32)) dX6_isTrue_92 rfl ?_
        refine V_icmp_ne (pc := 95) (tgt := 123) dX6_isTrue_95 (by decide) ?_ ?_
        · refine V_iload_n (pc := 123) dX6_isTrue_123 rfl rfl ?_
          refine V_iconst (pc := 124) (v := (1 : Int32)) dX6_isTrue_124 rfl ?_
          refine V_icmp_le (pc := 125) (tgt := 158) dX6_isTrue_125 (by decide) ?_ ?_
          · refine V_sub (vs' := [some (.ref (wB w + h0)), some (.int p1), some (.int a19.1), some (.int a19.2.1), none]) (show vless _ _ from ⟨rfl, ⟨rfl, ⟨rfl, ⟨rfl, trivial⟩⟩⟩⟩) rfl ?_
            exact hJ158 a19.1 a19.2.1 a19.2.2
          · refine V_iinc (pc := 128) (v := (a19.1 + (-1 : Int32))) (vs' := [some (.ref (wB w + h0)), some (.int p1), some (.int (a19.1 + (-1 : Int32))), some (.int a19.2.1), some (.int (a19.2.2 (h0 + 4) (ix a19.2.1)))]) dX6_isTrue_128 (Nat.le_of_ble_eq_true rfl) rfl rfl rfl ?_
            refine V_aload_n (pc := 131) dX6_isTrue_131 rfl rfl ?_
            refine V_getr (pc := 132) (t := (h0 + 6)) fk_X6_31 rfl dX6_isTrue_132 k_h0 rfl ?_
            refine V_iload_n (pc := 135) dX6_isTrue_135 rfl rfl ?_
            refine V_iconst (pc := 136) (v := (1 : Int32)) dX6_isTrue_136 rfl ?_
            refine V_isub (pc := 137) dX6_isTrue_137 ?_
            refine V_iload (pc := 138) dX6_isTrue_138 rfl ?_
            refine V_aload_n (pc := 140) dX6_isTrue_140 rfl rfl ?_
            refine V_getr (pc := 141) (t := (h0 + 6)) fk_X6_31 rfl dX6_isTrue_141 k_h0 rfl ?_
            refine V_iload_n (pc := 144) dX6_isTrue_144 rfl rfl ?_
            refine V_iconst (pc := 145) (v := (1 : Int32)) dX6_isTrue_145 rfl ?_
            refine V_isub (pc := 146) dX6_isTrue_146 ?_
            refine V_iald (pc := 147) (n := 32) dX6_isTrue_147 (lA6 k_h0).1 (lA6 k_h0).2 ?_
            refine V_aload_n (pc := 148) dX6_isTrue_148 rfl rfl ?_
            refine V_getr (pc := 149) (t := (h0 + 6)) fk_X6_31 rfl dX6_isTrue_149 k_h0 rfl ?_
            refine V_iload_n (pc := 152) dX6_isTrue_152 rfl rfl ?_
            refine V_iald (pc := 153) (n := 32) dX6_isTrue_153 (lA6 k_h0).1 (lA6 k_h0).2 ?_
            refine V_callSpi (pc := 154) (As := [.int (a19.2.2 (h0 + 4) (ix a19.2.1)), .int (a19.2.2 (h0 + 6) (ix ((a19.1 + (-1 : Int32)) - (1 : Int32)))), .int (a19.2.2 (h0 + 6) (ix (a19.1 + (-1 : Int32))))]) (rest := [.int ((a19.1 + (-1 : Int32)) - (1 : Int32)), .ref (wB w + (h0 + 6))]) (c_X6_joined w (a19.2.2 (h0 + 4) (ix a19.2.1)) (a19.2.2 (h0 + 6) (ix ((a19.1 + (-1 : Int32)) - (1 : Int32)))) (a19.2.2 (h0 + 6) (ix (a19.1 + (-1 : Int32)))) a19.2.2) cs_X6_82 rfl rfl dX6_isTrue_154 ⟨Nat.le_of_ble_eq_true rfl, Nat.le_of_ble_eq_true rfl⟩ rfl rfl (Nat.le_of_ble_eq_true rfl) (Nat.le_of_ble_eq_true rfl) (Nat.le_of_ble_eq_true rfl) rfl (fun q154 => ?_)
            refine V_iast (pc := 157) (n := 32) dX6_isTrue_157 (lA6 k_h0).1 (lA6 k_h0).2 (fun s157 => ?_)
            refine V_sub (vs' := [some (.ref (wB w + h0)), some (.int p1), some (.int (a19.1 + (-1 : Int32))), some (.int a19.2.1), none]) (show vless _ _ from ⟨rfl, ⟨rfl, ⟨rfl, ⟨rfl, trivial⟩⟩⟩⟩) rfl ?_
            exact hJ158 (a19.1 + (-1 : Int32)) a19.2.1 s157
        · refine V_iload_n (pc := 98) dX6_isTrue_98 rfl rfl ?_
          refine V_if_le (pc := 99) (tgt := 158) dX6_isTrue_99 (by decide) ?_ ?_
          · refine V_sub (vs' := [some (.ref (wB w + h0)), some (.int p1), some (.int a19.1), some (.int a19.2.1), none]) (show vless _ _ from ⟨rfl, ⟨rfl, ⟨rfl, ⟨rfl, trivial⟩⟩⟩⟩) rfl ?_
            exact hJ158 a19.1 a19.2.1 a19.2.2
          · refine V_aload_n (pc := 102) dX6_isTrue_102 rfl rfl ?_
            refine V_getr (pc := 103) (t := (h0 + 6)) fk_X6_31 rfl dX6_isTrue_103 k_h0 rfl ?_
            refine V_iload_n (pc := 106) dX6_isTrue_106 rfl rfl ?_
            refine V_iconst (pc := 107) (v := (1 : Int32)) dX6_isTrue_107 rfl ?_
            refine V_isub (pc := 108) dX6_isTrue_108 ?_
            refine V_iconst (pc := 109) (v := (1 : Int32)) dX6_isTrue_109 rfl ?_
            refine V_aload_n (pc := 110) dX6_isTrue_110 rfl rfl ?_
            refine V_getr (pc := 111) (t := (h0 + 6)) fk_X6_31 rfl dX6_isTrue_111 k_h0 rfl ?_
            refine V_iload_n (pc := 114) dX6_isTrue_114 rfl rfl ?_
            refine V_iconst (pc := 115) (v := (1 : Int32)) dX6_isTrue_115 rfl ?_
            refine V_isub (pc := 116) dX6_isTrue_116 ?_
            refine V_iald (pc := 117) (n := 32) dX6_isTrue_117 (lA6 k_h0).1 (lA6 k_h0).2 ?_
            refine V_isub (pc := 118) dX6_isTrue_118 ?_
            refine V_iast (pc := 119) (n := 32) dX6_isTrue_119 (lA6 k_h0).1 (lA6 k_h0).2 (fun s119 => ?_)
            refine V_goto (pc := 120) (tgt := 158) dX6_isTrue_120 (by decide) ?_
            refine V_sub (vs' := [some (.ref (wB w + h0)), some (.int p1), some (.int a19.1), some (.int a19.2.1), none]) (show vless _ _ from ⟨rfl, ⟨rfl, ⟨rfl, ⟨rfl, trivial⟩⟩⟩⟩) rfl ?_
            exact hJ158 a19.1 a19.2.1 s119
      · refine V_iload_n (pc := 45) dX6_isTrue_45 rfl rfl ?_
        refine V_aload_n (pc := 46) dX6_isTrue_46 rfl rfl ?_
        refine V_getr (pc := 47) (t := (h0 + 6)) fk_X6_31 rfl dX6_isTrue_47 k_h0 rfl ?_
        refine V_alen (pc := 50) (v := 32) dX6_isTrue_50 (lA6 k_h0).1 (by rw [(lA6 k_h0).2]; rfl) ?_
        refine V_icmp_ge (pc := 51) (tgt := 158) dX6_isTrue_51 (by decide) ?_ ?_
        · refine V_sub (vs' := [some (.ref (wB w + h0)), some (.int p1), some (.int a19.1), some (.int a19.2.1), none]) (show vless _ _ from ⟨rfl, ⟨rfl, ⟨rfl, ⟨rfl, trivial⟩⟩⟩⟩) rfl ?_
          exact hJ158 a19.1 a19.2.1 a19.2.2
        · refine V_aload_n (pc := 54) dX6_isTrue_54 rfl rfl ?_
          refine V_getr (pc := 55) (t := (h0 + 6)) fk_X6_31 rfl dX6_isTrue_55 k_h0 rfl ?_
          refine V_iload_n (pc := 58) dX6_isTrue_58 rfl rfl ?_
          refine V_iload (pc := 59) dX6_isTrue_59 rfl ?_
          refine V_sipush (pc := 61) (v := (1000 : Int32)) dX6_isTrue_61 rfl ?_
          refine V_icmp_ge (pc := 64) (tgt := 72) dX6_isTrue_64 (by decide) ?_ ?_
          · refine V_aload_n (pc := 72) dX6_isTrue_72 rfl rfl ?_
            refine V_getr (pc := 73) (t := (h0 + 5)) fk_X6_28 rfl dX6_isTrue_73 k_h0 rfl ?_
            refine V_iload (pc := 76) dX6_isTrue_76 rfl ?_
            refine V_sipush (pc := 78) (v := (1000 : Int32)) dX6_isTrue_78 rfl ?_
            refine V_isub (pc := 81) dX6_isTrue_81 ?_
            refine V_iald (pc := 82) (n := 8) dX6_isTrue_82 (lA5 k_h0).1 (lA5 k_h0).2 ?_
            refine V_sub (vs' := [some (.ref (wB w + h0)), some (.int p1), some (.int a19.1), some (.int a19.2.1), none]) (show vless _ _ from ⟨rfl, ⟨rfl, ⟨rfl, ⟨rfl, trivial⟩⟩⟩⟩) rfl ?_
            exact hJ83 a19.1 a19.2.1 (a19.2.2 (h0 + 5) (ix ((a19.2.2 (h0 + 4) (ix a19.2.1)) - (1000 : Int32)))) a19.1 a19.2.2
          · refine V_iload (pc := 67) dX6_isTrue_67 rfl ?_
            refine V_goto (pc := 69) (tgt := 83) dX6_isTrue_69 (by decide) ?_
            refine V_sub (vs' := [some (.ref (wB w + h0)), some (.int p1), some (.int a19.1), some (.int a19.2.1), none]) (show vless _ _ from ⟨rfl, ⟨rfl, ⟨rfl, ⟨rfl, trivial⟩⟩⟩⟩) rfl ?_
            exact hJ83 a19.1 a19.2.1 (a19.2.2 (h0 + 4) (ix a19.2.1)) a19.1 a19.2.2
  have hJ18 : ∀ (v2 : Int32) (t0 : Int32) (σ : MS), VV m_X6_isTrue w g 0 0 (QM m_X6_isTrue w g x) (fun b : Int32 × MS => b = x) 18 [some (.ref (wB w + h0)), some (.int p1), some (.int v2), none, none] [.int t0] σ (J_X6_isTrue_18 n h0 p1 v2 t0 σ) := by
    intro v2 t0 σ
    refine V_istore_n (pc := 18) (vs' := [some (.ref (wB w + h0)), some (.int p1), some (.int v2), some (.int t0), none]) dX6_isTrue_18 rfl (Nat.le_of_ble_eq_true rfl) (Nat.le_of_ble_eq_true rfl) rfl ?_
    exact hL19 n (v2, t0, σ)
  refine V_iconst (pc := 0) (v := (0 : Int32)) dX6_isTrue_0 rfl ?_
  refine V_istore_n (pc := 1) (vs' := [some (.ref (wB w + h0)), some (.int p1), some (.int (0 : Int32)), none, none]) dX6_isTrue_1 rfl (Nat.le_of_ble_eq_true rfl) (Nat.le_of_ble_eq_true rfl) rfl ?_
  refine V_iload_n (pc := 2) dX6_isTrue_2 rfl rfl ?_
  refine V_if_ne (pc := 3) (tgt := 10) dX6_isTrue_3 (by decide) ?_ ?_
  · refine V_aload_n (pc := 10) dX6_isTrue_10 rfl rfl ?_
    refine V_getr (pc := 11) (t := (h0 + 3)) fk_X6_22 rfl dX6_isTrue_11 k_h0 rfl ?_
    refine V_iload_n (pc := 14) dX6_isTrue_14 rfl rfl ?_
    refine V_iconst (pc := 15) (v := (1 : Int32)) dX6_isTrue_15 rfl ?_
    refine V_isub (pc := 16) dX6_isTrue_16 ?_
    refine V_iald (pc := 17) (n := 12) dX6_isTrue_17 (lA3 k_h0).1 (lA3 k_h0).2 ?_
    exact hJ18 (0 : Int32) (σ (h0 + 3) (ix (p1 - (1 : Int32)))) σ
  · refine V_iconst (pc := 6) (v := (0 : Int32)) dX6_isTrue_6 rfl ?_
    refine V_goto (pc := 7) (tgt := 18) dX6_isTrue_7 (by decide) ?_
    exact hJ18 (0 : Int32) (0 : Int32) σ
def J_X6_sum_39 (n : Nat) (h0 : Nat) (v1 : Int32) (v2 : Int32) (v3 : Int32) (σ : MS) : Option ((Int32 × Int32 × MS) ⊕ (Int32 × MS)) := some (.inl (v2, (v3 + (1 : Int32)), σ))
def L_X6_sum_4 (n : Nat) (h0 : Nat) (v1 : Int32) (σ : MS) (a4 : Int32 × Int32 × MS) : Option ((Int32 × Int32 × MS) ⊕ (Int32 × MS)) := (if (a4.2.2 h0 0) ≤ a4.2.1 then (some (a4.1, a4.2.2)).map Sum.inr else (if inb a4.2.1 12 then (if (a4.2.2 (h0 + 1) (ix a4.2.1)) = v1 then ((f_X6_isTrue n h0 a4.2.1 a4.2.2).bind (fun q24 => (if q24.1 = 0 then J_X6_sum_39 n h0 v1 a4.1 a4.2.1 q24.2 else (if inb a4.2.1 12 then J_X6_sum_39 n h0 v1 (a4.1 + (q24.2 (h0 + 2) (ix a4.2.1))) a4.2.1 q24.2 else none)))) else J_X6_sum_39 n h0 v1 a4.1 a4.2.1 a4.2.2) else none))
def f_X6_sum (n : Nat) (h0 : Nat) (p1 : Int32) (σ : MS) : Option (Int32 × MS) := itr (L_X6_sum_4 n h0 p1 σ) n ((0 : Int32), (0 : Int32), σ)
set_option maxRecDepth 20000 in
set_option maxHeartbeats 2000000 in
theorem c_X6_sum (w : TG) (n : Nat) (h0 : Nat) (p1 : Int32) (k_h0 : kd h0 = 6) (σ : MS) : MC m_X6_sum w [.ref (wB w + h0), .int p1] σ (f_X6_sum n h0 p1 σ) := by
  refine V_meth (by decide +kernel) (Nat.le_of_ble_eq_true rfl) (by intro v hv; simp only [List.mem_cons, List.not_mem_nil, or_false] at hv; rcases hv with rfl | rfl <;> rfl) (fun g x => ?_)
  show VV m_X6_sum w g 0 0 (QM m_X6_sum w g x) (fun b : Int32 × MS => b = x) 0 [some (.ref (wB w + h0)), some (.int p1), none, none] [] σ (f_X6_sum n h0 p1 σ)
  have hL4 : ∀  (n0 : Nat) (a : Int32 × Int32 × MS), VV m_X6_sum w g 0 0 (QM m_X6_sum w g x) (fun b : Int32 × MS => b = x) 4 [some (.ref (wB w + h0)), some (.int p1), some (.int a.1), some (.int a.2.1)] [] a.2.2 (itr (L_X6_sum_4 n h0 p1 σ) n0 a) := by
    refine V_itr (vf := fun a : Int32 × Int32 × MS => [some (.ref (wB w + h0)), some (.int p1), some (.int a.1), some (.int a.2.1)]) (sf := fun a : Int32 × Int32 × MS => a.2.2) (fun κ4 b4 r4 a4 => ?_)
    show VV m_X6_sum w g 0 0 (QM m_X6_sum w g x) κ4 4 [some (.ref (wB w + h0)), some (.int p1), some (.int a4.1), some (.int a4.2.1)] [] a4.2.2 (L_X6_sum_4 n h0 p1 σ a4)
    have hJ39 : ∀ (v2 : Int32) (v3 : Int32) (σ : MS), VV m_X6_sum w g 0 0 (QM m_X6_sum w g x) κ4 39 [some (.ref (wB w + h0)), some (.int p1), some (.int v2), some (.int v3)] [] σ (J_X6_sum_39 n h0 p1 v2 v3 σ) := by
      intro v2 v3 σ
      refine V_iinc (pc := 39) (v := (v3 + (1 : Int32))) (vs' := [some (.ref (wB w + h0)), some (.int p1), some (.int v2), some (.int (v3 + (1 : Int32)))]) dX6_sum_39 (Nat.le_of_ble_eq_true rfl) rfl rfl rfl ?_
      refine V_goto (pc := 42) (tgt := 4) dX6_sum_42 (by decide) ?_
      exact V_back (b4 (v2, (v3 + (1 : Int32)), σ))
    refine V_iload_n (pc := 4) dX6_sum_4 rfl rfl ?_
    refine V_aload_n (pc := 5) dX6_sum_5 rfl rfl ?_
    refine V_geti (pc := 6) fk_X6_9 rfl dX6_sum_6 k_h0 rfl ?_
    refine V_icmp_ge (pc := 9) (tgt := 45) dX6_sum_9 (by decide) ?_ ?_
    · refine V_exit r4 ?_
      refine V_iload_n (pc := 45) dX6_sum_45 rfl rfl ?_
      exact V_ireti (pc := 46) dX6_sum_46 rfl (hk := fun h => h)
    · refine V_aload_n (pc := 12) dX6_sum_12 rfl rfl ?_
      refine V_getr (pc := 13) (t := (h0 + 1)) fk_X6_15 rfl dX6_sum_13 k_h0 rfl ?_
      refine V_iload_n (pc := 16) dX6_sum_16 rfl rfl ?_
      refine V_iald (pc := 17) (n := 12) dX6_sum_17 (lA1 k_h0).1 (lA1 k_h0).2 ?_
      refine V_iload_n (pc := 18) dX6_sum_18 rfl rfl ?_
      refine V_icmp_ne (pc := 19) (tgt := 39) dX6_sum_19 (by decide) ?_ ?_
      · exact hJ39 a4.1 a4.2.1 a4.2.2
      · refine V_aload_n (pc := 22) dX6_sum_22 rfl rfl ?_
        refine V_iload_n (pc := 23) dX6_sum_23 rfl rfl ?_
        refine V_callVi (pc := 24) (As := [.int a4.2.1]) (rest := []) (c_X6_isTrue w n h0 a4.2.1 k_h0 a4.2.2) cw_X6_78 rfl rfl dX6_sum_24 k_h0 rfl ⟨Nat.le_of_ble_eq_true rfl, Nat.le_of_ble_eq_true rfl⟩ rfl rfl (Nat.le_of_ble_eq_true rfl) (Nat.le_of_ble_eq_true rfl) (Nat.le_of_ble_eq_true rfl) rfl (fun q24 => ?_)
        refine V_if_eq (pc := 27) (tgt := 39) dX6_sum_27 (by decide) ?_ ?_
        · exact hJ39 a4.1 a4.2.1 q24.2
        · refine V_iload_n (pc := 30) dX6_sum_30 rfl rfl ?_
          refine V_aload_n (pc := 31) dX6_sum_31 rfl rfl ?_
          refine V_getr (pc := 32) (t := (h0 + 2)) fk_X6_19 rfl dX6_sum_32 k_h0 rfl ?_
          refine V_iload_n (pc := 35) dX6_sum_35 rfl rfl ?_
          refine V_iald (pc := 36) (n := 12) dX6_sum_36 (lA2 k_h0).1 (lA2 k_h0).2 ?_
          refine V_iadd (pc := 37) dX6_sum_37 ?_
          refine V_istore_n (pc := 38) (vs' := [some (.ref (wB w + h0)), some (.int p1), some (.int (a4.1 + (q24.2 (h0 + 2) (ix a4.2.1)))), some (.int a4.2.1)]) dX6_sum_38 rfl (Nat.le_of_ble_eq_true rfl) (Nat.le_of_ble_eq_true rfl) rfl ?_
          exact hJ39 (a4.1 + (q24.2 (h0 + 2) (ix a4.2.1))) a4.2.1 q24.2
  refine V_iconst (pc := 0) (v := (0 : Int32)) dX6_sum_0 rfl ?_
  refine V_istore_n (pc := 1) (vs' := [some (.ref (wB w + h0)), some (.int p1), some (.int (0 : Int32)), none]) dX6_sum_1 rfl (Nat.le_of_ble_eq_true rfl) (Nat.le_of_ble_eq_true rfl) rfl ?_
  refine V_iconst (pc := 2) (v := (0 : Int32)) dX6_sum_2 rfl ?_
  refine V_istore_n (pc := 3) (vs' := [some (.ref (wB w + h0)), some (.int p1), some (.int (0 : Int32)), some (.int (0 : Int32))]) dX6_sum_3 rfl (Nat.le_of_ble_eq_true rfl) (Nat.le_of_ble_eq_true rfl) rfl ?_
  exact hL4 n ((0 : Int32), (0 : Int32), σ)
def f_X6_bindsBy (n : Nat) (h0 : Nat) (h1 : Nat) (p2 : Int32) (p3 : Int32) (p4 : Int32) (p5 : Int32) (σ : MS) : Option (Int32 × MS) := ((f_X6_consider h0 h1 p2 p3 p4 p5 σ).bind (fun q8 => ((f_X6_sum n h0 (0 : Int32) q8.2).bind (fun q19 => some ((mnI (9 : Int32) ((q8.2 h1 3) + q19.1)), q19.2)))))
set_option maxRecDepth 20000 in
set_option maxHeartbeats 2000000 in
theorem c_X6_bindsBy (w : TG) (n : Nat) (h0 : Nat) (h1 : Nat) (p2 : Int32) (p3 : Int32) (p4 : Int32) (p5 : Int32) (k_h0 : kd h0 = 6) (k_h1 : kd h1 = 4) (σ : MS) : MC m_X6_bindsBy w [.ref (wB w + h0), .ref (wB w + h1), .int p2, .int p3, .int p4, .int p5] σ (f_X6_bindsBy n h0 h1 p2 p3 p4 p5 σ) := by
  refine V_meth (by decide +kernel) (Nat.le_of_ble_eq_true rfl) (by intro v hv; simp only [List.mem_cons, List.not_mem_nil, or_false] at hv; rcases hv with rfl | rfl | rfl | rfl | rfl | rfl <;> rfl) (fun g x => ?_)
  show VV m_X6_bindsBy w g 0 0 (QM m_X6_bindsBy w g x) (fun b : Int32 × MS => b = x) 0 [some (.ref (wB w + h0)), some (.ref (wB w + h1)), some (.int p2), some (.int p3), some (.int p4), some (.int p5)] [] σ (f_X6_bindsBy n h0 h1 p2 p3 p4 p5 σ)
  refine V_aload_n (pc := 0) dX6_bindsBy_0 rfl rfl ?_
  refine V_aload_n (pc := 1) dX6_bindsBy_1 rfl rfl ?_
  refine V_iload_n (pc := 2) dX6_bindsBy_2 rfl rfl ?_
  refine V_iload_n (pc := 3) dX6_bindsBy_3 rfl rfl ?_
  refine V_iload (pc := 4) dX6_bindsBy_4 rfl ?_
  refine V_iload (pc := 6) dX6_bindsBy_6 rfl ?_
  refine V_callVv (pc := 8) (As := [.ref (wB w + h1), .int p2, .int p3, .int p4, .int p5]) (rest := []) (c_X6_consider w h0 h1 p2 p3 p4 p5 k_h0 k_h1 σ) cw_X6_43 rfl rfl dX6_bindsBy_8 k_h0 rfl ⟨Nat.le_of_ble_eq_true rfl, Nat.le_of_ble_eq_true rfl⟩ rfl rfl (Nat.le_of_ble_eq_true rfl) (Nat.le_of_ble_eq_true rfl) (Nat.le_of_ble_eq_true rfl) rfl (fun q8 => ?_)
  refine V_bipush (pc := 11) (v := (9 : Int32)) dX6_bindsBy_11 rfl ?_
  refine V_aload_n (pc := 13) dX6_bindsBy_13 rfl rfl ?_
  refine V_geti (pc := 14) fk_X6_47 rfl dX6_bindsBy_14 k_h1 rfl ?_
  refine V_aload_n (pc := 17) dX6_bindsBy_17 rfl rfl ?_
  refine V_iconst (pc := 18) (v := (0 : Int32)) dX6_bindsBy_18 rfl ?_
  refine V_callVi (pc := 19) (As := [.int (0 : Int32)]) (rest := [.int (q8.2 h1 3), .int (9 : Int32)]) (c_X6_sum w n h0 (0 : Int32) k_h0 q8.2) cw_X6_52 rfl rfl dX6_bindsBy_19 k_h0 rfl ⟨Nat.le_of_ble_eq_true rfl, Nat.le_of_ble_eq_true rfl⟩ rfl rfl (Nat.le_of_ble_eq_true rfl) (Nat.le_of_ble_eq_true rfl) (Nat.le_of_ble_eq_true rfl) rfl (fun q19 => ?_)
  refine V_iadd (pc := 22) dX6_bindsBy_22 ?_
  refine V_mmin (pc := 23) dX6_bindsBy_23 rfl mw_X6_56 (Nat.le_of_ble_eq_true rfl) (Nat.le_of_ble_eq_true rfl) (Nat.le_of_ble_eq_true rfl) (Nat.le_of_ble_eq_true rfl) ?_
  exact V_ireti (pc := 26) dX6_bindsBy_26 rfl (hk := fun h => h)
def f_X6_lastsFor (n : Nat) (h0 : Nat) (h1 : Nat) (p2 : Int32) (p3 : Int32) (p4 : Int32) (p5 : Int32) (σ : MS) : Option (Int32 × MS) := ((f_X6_consider h0 h1 p2 p3 p4 p5 σ).bind (fun q8 => ((f_X6_sum n h0 (1 : Int32) q8.2).bind (fun q17 => some (((q8.2 h1 4) + q17.1), q17.2)))))
set_option maxRecDepth 20000 in
set_option maxHeartbeats 2000000 in
theorem c_X6_lastsFor (w : TG) (n : Nat) (h0 : Nat) (h1 : Nat) (p2 : Int32) (p3 : Int32) (p4 : Int32) (p5 : Int32) (k_h0 : kd h0 = 6) (k_h1 : kd h1 = 4) (σ : MS) : MC m_X6_lastsFor w [.ref (wB w + h0), .ref (wB w + h1), .int p2, .int p3, .int p4, .int p5] σ (f_X6_lastsFor n h0 h1 p2 p3 p4 p5 σ) := by
  refine V_meth (by decide +kernel) (Nat.le_of_ble_eq_true rfl) (by intro v hv; simp only [List.mem_cons, List.not_mem_nil, or_false] at hv; rcases hv with rfl | rfl | rfl | rfl | rfl | rfl <;> rfl) (fun g x => ?_)
  show VV m_X6_lastsFor w g 0 0 (QM m_X6_lastsFor w g x) (fun b : Int32 × MS => b = x) 0 [some (.ref (wB w + h0)), some (.ref (wB w + h1)), some (.int p2), some (.int p3), some (.int p4), some (.int p5)] [] σ (f_X6_lastsFor n h0 h1 p2 p3 p4 p5 σ)
  refine V_aload_n (pc := 0) dX6_lastsFor_0 rfl rfl ?_
  refine V_aload_n (pc := 1) dX6_lastsFor_1 rfl rfl ?_
  refine V_iload_n (pc := 2) dX6_lastsFor_2 rfl rfl ?_
  refine V_iload_n (pc := 3) dX6_lastsFor_3 rfl rfl ?_
  refine V_iload (pc := 4) dX6_lastsFor_4 rfl ?_
  refine V_iload (pc := 6) dX6_lastsFor_6 rfl ?_
  refine V_callVv (pc := 8) (As := [.ref (wB w + h1), .int p2, .int p3, .int p4, .int p5]) (rest := []) (c_X6_consider w h0 h1 p2 p3 p4 p5 k_h0 k_h1 σ) cw_X6_43 rfl rfl dX6_lastsFor_8 k_h0 rfl ⟨Nat.le_of_ble_eq_true rfl, Nat.le_of_ble_eq_true rfl⟩ rfl rfl (Nat.le_of_ble_eq_true rfl) (Nat.le_of_ble_eq_true rfl) (Nat.le_of_ble_eq_true rfl) rfl (fun q8 => ?_)
  refine V_aload_n (pc := 11) dX6_lastsFor_11 rfl rfl ?_
  refine V_geti (pc := 12) fk_X6_62 rfl dX6_lastsFor_12 k_h1 rfl ?_
  refine V_aload_n (pc := 15) dX6_lastsFor_15 rfl rfl ?_
  refine V_iconst (pc := 16) (v := (1 : Int32)) dX6_lastsFor_16 rfl ?_
  refine V_callVi (pc := 17) (As := [.int (1 : Int32)]) (rest := [.int (q8.2 h1 4)]) (c_X6_sum w n h0 (1 : Int32) k_h0 q8.2) cw_X6_52 rfl rfl dX6_lastsFor_17 k_h0 rfl ⟨Nat.le_of_ble_eq_true rfl, Nat.le_of_ble_eq_true rfl⟩ rfl rfl (Nat.le_of_ble_eq_true rfl) (Nat.le_of_ble_eq_true rfl) (Nat.le_of_ble_eq_true rfl) rfl (fun q17 => ?_)
  refine V_iadd (pc := 20) dX6_lastsFor_20 ?_
  exact V_ireti (pc := 21) dX6_lastsFor_21 rfl (hk := fun h => h)
def f_X6_suspectsBy (n : Nat) (h0 : Nat) (h1 : Nat) (p2 : Int32) (p3 : Int32) (σ : MS) : Option (Int32 × MS) := (if (σ h0 0) = (-1 : Int32) then some ((5 : Int32), σ) else ((f_X6_consider h0 h1 p2 p3 (0 : Int32) (0 : Int32) σ).bind (fun q16 => ((f_X6_sum n h0 (2 : Int32) q16.2).bind (fun q21 => some (q21.1, q21.2))))))
set_option maxRecDepth 20000 in
set_option maxHeartbeats 2000000 in
theorem c_X6_suspectsBy (w : TG) (n : Nat) (h0 : Nat) (h1 : Nat) (p2 : Int32) (p3 : Int32) (k_h0 : kd h0 = 6) (k_h1 : kd h1 = 4) (σ : MS) : MC m_X6_suspectsBy w [.ref (wB w + h0), .ref (wB w + h1), .int p2, .int p3] σ (f_X6_suspectsBy n h0 h1 p2 p3 σ) := by
  refine V_meth (by decide +kernel) (Nat.le_of_ble_eq_true rfl) (by intro v hv; simp only [List.mem_cons, List.not_mem_nil, or_false] at hv; rcases hv with rfl | rfl | rfl | rfl <;> rfl) (fun g x => ?_)
  show VV m_X6_suspectsBy w g 0 0 (QM m_X6_suspectsBy w g x) (fun b : Int32 × MS => b = x) 0 [some (.ref (wB w + h0)), some (.ref (wB w + h1)), some (.int p2), some (.int p3)] [] σ (f_X6_suspectsBy n h0 h1 p2 p3 σ)
  refine V_aload_n (pc := 0) dX6_suspectsBy_0 rfl rfl ?_
  refine V_geti (pc := 1) fk_X6_9 rfl dX6_suspectsBy_1 k_h0 rfl ?_
  refine V_iconst (pc := 4) (v := (-1 : Int32)) dX6_suspectsBy_4 rfl ?_
  refine V_icmp_ne (pc := 5) (tgt := 10) dX6_suspectsBy_5 (by decide) ?_ ?_
  · refine V_aload_n (pc := 10) dX6_suspectsBy_10 rfl rfl ?_
    refine V_aload_n (pc := 11) dX6_suspectsBy_11 rfl rfl ?_
    refine V_iload_n (pc := 12) dX6_suspectsBy_12 rfl rfl ?_
    refine V_iload_n (pc := 13) dX6_suspectsBy_13 rfl rfl ?_
    refine V_iconst (pc := 14) (v := (0 : Int32)) dX6_suspectsBy_14 rfl ?_
    refine V_iconst (pc := 15) (v := (0 : Int32)) dX6_suspectsBy_15 rfl ?_
    refine V_callVv (pc := 16) (As := [.ref (wB w + h1), .int p2, .int p3, .int (0 : Int32), .int (0 : Int32)]) (rest := []) (c_X6_consider w h0 h1 p2 p3 (0 : Int32) (0 : Int32) k_h0 k_h1 σ) cw_X6_43 rfl rfl dX6_suspectsBy_16 k_h0 rfl ⟨Nat.le_of_ble_eq_true rfl, Nat.le_of_ble_eq_true rfl⟩ rfl rfl (Nat.le_of_ble_eq_true rfl) (Nat.le_of_ble_eq_true rfl) (Nat.le_of_ble_eq_true rfl) rfl (fun q16 => ?_)
    refine V_aload_n (pc := 19) dX6_suspectsBy_19 rfl rfl ?_
    refine V_iconst (pc := 20) (v := (2 : Int32)) dX6_suspectsBy_20 rfl ?_
    refine V_callVi (pc := 21) (As := [.int (2 : Int32)]) (rest := []) (c_X6_sum w n h0 (2 : Int32) k_h0 q16.2) cw_X6_52 rfl rfl dX6_suspectsBy_21 k_h0 rfl ⟨Nat.le_of_ble_eq_true rfl, Nat.le_of_ble_eq_true rfl⟩ rfl rfl (Nat.le_of_ble_eq_true rfl) (Nat.le_of_ble_eq_true rfl) (Nat.le_of_ble_eq_true rfl) rfl (fun q21 => ?_)
    exact V_ireti (pc := 24) dX6_suspectsBy_24 rfl (hk := fun h => h)
  · refine V_iconst (pc := 8) (v := (5 : Int32)) dX6_suspectsBy_8 rfl ?_
    exact V_ireti (pc := 9) dX6_suspectsBy_9 rfl (hk := fun h => h)
def f_X1_force (n : Nat) (p1 : Int32) (p2 : Int32) (p3 : Int32) (p4 : Int32) (σ : MS) : Option (Int32 × MS) := ((f_X6_bindsBy n 30 3 p1 p2 p3 p4 σ).bind (fun q13 => (if p3 = (0 : Int32) then some (q13.1, q13.2) else (if p3 = (1 : Int32) then some ((q13.1 / (2 : Int32)), q13.2) else (if p3 = (2 : Int32) then some ((mnI (9 : Int32) (q13.1 * (2 : Int32))), q13.2) else some ((0 : Int32), q13.2))))))
set_option maxRecDepth 20000 in
set_option maxHeartbeats 2000000 in
theorem c_X1_force (w : TG) (n : Nat) (p1 : Int32) (p2 : Int32) (p3 : Int32) (p4 : Int32) (σ : MS) : MC m_X1_force w [.ref (wB w + 53), .int p1, .int p2, .int p3, .int p4] σ (f_X1_force n p1 p2 p3 p4 σ) := by
  refine V_meth (by decide +kernel) (Nat.le_of_ble_eq_true rfl) (by intro v hv; simp only [List.mem_cons, List.not_mem_nil, or_false] at hv; rcases hv with rfl | rfl | rfl | rfl | rfl <;> rfl) (fun g x => ?_)
  show VV m_X1_force w g 0 0 (QM m_X1_force w g x) (fun b : Int32 × MS => b = x) 0 [some (.ref (wB w + 53)), some (.int p1), some (.int p2), some (.int p3), some (.int p4), none] [] σ (f_X1_force n p1 p2 p3 p4 σ)
  refine V_aload_n (pc := 0) dX1_force_0 rfl rfl ?_
  refine V_getr (pc := 1) (t := 30) fk_X1_19 rfl dX1_force_1 kc_53 rfl ?_
  refine V_aload_n (pc := 4) dX1_force_4 rfl rfl ?_
  refine V_getr (pc := 5) (t := 3) fk_X1_15 rfl dX1_force_5 kc_53 rfl ?_
  refine V_iload_n (pc := 8) dX1_force_8 rfl rfl ?_
  refine V_iload_n (pc := 9) dX1_force_9 rfl rfl ?_
  refine V_iload_n (pc := 10) dX1_force_10 rfl rfl ?_
  refine V_iload (pc := 11) dX1_force_11 rfl ?_
  refine V_callVi (pc := 13) (As := [.ref (wB w + 3), .int p1, .int p2, .int p3, .int p4]) (rest := []) (c_X6_bindsBy w n 30 3 p1 p2 p3 p4 kc_30 kc_3 σ) cw_X1_62 rfl rfl dX1_force_13 kc_30 rfl ⟨Nat.le_of_ble_eq_true rfl, Nat.le_of_ble_eq_true rfl⟩ rfl rfl (Nat.le_of_ble_eq_true rfl) (Nat.le_of_ble_eq_true rfl) (Nat.le_of_ble_eq_true rfl) rfl (fun q13 => ?_)
  refine V_istore (pc := 16) (vs' := [some (.ref (wB w + 53)), some (.int p1), some (.int p2), some (.int p3), some (.int p4), some (.int q13.1)]) dX1_force_16 (Nat.le_of_ble_eq_true rfl) (Nat.le_of_ble_eq_true rfl) rfl ?_
  refine V_iload_n (pc := 18) dX1_force_18 rfl rfl ?_
  refine V_ite (c := p3 = (0 : Int32)) (fun hx => ?_) (fun hx0 => ?_)
  · refine V_tabIn (pc := 19) (x := p3) (tgt := 44) dX1_force_19 (by rw [hx]; decide) (by rw [hx]; decide) (by rw [hx]; rfl) (by decide) ?_
    refine V_iload (pc := 44) dX1_force_44 rfl ?_
    exact V_ireti (pc := 46) dX1_force_46 rfl (hk := fun h => h)
  refine V_ite (c := p3 = (1 : Int32)) (fun hx => ?_) (fun hx1 => ?_)
  · refine V_tabIn (pc := 19) (x := p3) (tgt := 47) dX1_force_19 (by rw [hx]; decide) (by rw [hx]; decide) (by rw [hx]; rfl) (by decide) ?_
    refine V_iload (pc := 47) dX1_force_47 rfl ?_
    refine V_iconst (pc := 49) (v := (2 : Int32)) dX1_force_49 rfl ?_
    refine V_idiv (pc := 50) dX1_force_50 (by decide) ?_
    exact V_ireti (pc := 51) dX1_force_51 rfl (hk := fun h => h)
  refine V_ite (c := p3 = (2 : Int32)) (fun hx => ?_) (fun hx2 => ?_)
  · refine V_tabIn (pc := 19) (x := p3) (tgt := 52) dX1_force_19 (by rw [hx]; decide) (by rw [hx]; decide) (by rw [hx]; rfl) (by decide) ?_
    refine V_bipush (pc := 52) (v := (9 : Int32)) dX1_force_52 rfl ?_
    refine V_iload (pc := 54) dX1_force_54 rfl ?_
    refine V_iconst (pc := 56) (v := (2 : Int32)) dX1_force_56 rfl ?_
    refine V_imul (pc := 57) dX1_force_57 ?_
    refine V_mmin (pc := 58) dX1_force_58 rfl mw_X1_68 (Nat.le_of_ble_eq_true rfl) (Nat.le_of_ble_eq_true rfl) (Nat.le_of_ble_eq_true rfl) (Nat.le_of_ble_eq_true rfl) ?_
    exact V_ireti (pc := 61) dX1_force_61 rfl (hk := fun h => h)
  refine V_tabOut (pc := 19) (tgt := 62) dX1_force_19 (tabout p3 0 2 (by decide) (by decide) (fun k h1 h2 => ?_)) (by decide) ?_
  · rcases (show k = 0 ∨ k = 1 ∨ k = 2 by omega) with rfl | rfl | rfl
    · exact hx0
    · exact hx1
    · exact hx2
  · refine V_iconst (pc := 62) (v := (0 : Int32)) dX1_force_62 rfl ?_
    exact V_ireti (pc := 63) dX1_force_63 rfl (hk := fun h => h)
def f_X1_reach (n : Nat) (p1 : Int32) (p2 : Int32) (p3 : Int32) (p4 : Int32) (σ : MS) : Option (Int32 × MS) := ((f_X6_lastsFor n 30 3 p1 p2 p3 p4 σ).bind (fun q23 => some ((mnI (9999 : Int32) ((σ 3 5) + q23.1)), q23.2)))
set_option maxRecDepth 20000 in
set_option maxHeartbeats 2000000 in
theorem c_X1_reach (w : TG) (n : Nat) (p1 : Int32) (p2 : Int32) (p3 : Int32) (p4 : Int32) (σ : MS) : MC m_X1_reach w [.ref (wB w + 53), .int p1, .int p2, .int p3, .int p4] σ (f_X1_reach n p1 p2 p3 p4 σ) := by
  refine V_meth (by decide +kernel) (Nat.le_of_ble_eq_true rfl) (by intro v hv; simp only [List.mem_cons, List.not_mem_nil, or_false] at hv; rcases hv with rfl | rfl | rfl | rfl | rfl <;> rfl) (fun g x => ?_)
  show VV m_X1_reach w g 0 0 (QM m_X1_reach w g x) (fun b : Int32 × MS => b = x) 0 [some (.ref (wB w + 53)), some (.int p1), some (.int p2), some (.int p3), some (.int p4)] [] σ (f_X1_reach n p1 p2 p3 p4 σ)
  refine V_sipush (pc := 0) (v := (9999 : Int32)) dX1_reach_0 rfl ?_
  refine V_aload_n (pc := 3) dX1_reach_3 rfl rfl ?_
  refine V_getr (pc := 4) (t := 3) fk_X1_15 rfl dX1_reach_4 kc_53 rfl ?_
  refine V_geti (pc := 7) fk_X1_71 rfl dX1_reach_7 kc_3 rfl ?_
  refine V_aload_n (pc := 10) dX1_reach_10 rfl rfl ?_
  refine V_getr (pc := 11) (t := 30) fk_X1_19 rfl dX1_reach_11 kc_53 rfl ?_
  refine V_aload_n (pc := 14) dX1_reach_14 rfl rfl ?_
  refine V_getr (pc := 15) (t := 3) fk_X1_15 rfl dX1_reach_15 kc_53 rfl ?_
  refine V_iload_n (pc := 18) dX1_reach_18 rfl rfl ?_
  refine V_iload_n (pc := 19) dX1_reach_19 rfl rfl ?_
  refine V_iload_n (pc := 20) dX1_reach_20 rfl rfl ?_
  refine V_iload (pc := 21) dX1_reach_21 rfl ?_
  refine V_callVi (pc := 23) (As := [.ref (wB w + 3), .int p1, .int p2, .int p3, .int p4]) (rest := [.int (σ 3 5), .int (9999 : Int32)]) (c_X6_lastsFor w n 30 3 p1 p2 p3 p4 kc_30 kc_3 σ) cw_X1_74 rfl rfl dX1_reach_23 kc_30 rfl ⟨Nat.le_of_ble_eq_true rfl, Nat.le_of_ble_eq_true rfl⟩ rfl rfl (Nat.le_of_ble_eq_true rfl) (Nat.le_of_ble_eq_true rfl) (Nat.le_of_ble_eq_true rfl) rfl (fun q23 => ?_)
  refine V_iadd (pc := 26) dX1_reach_26 ?_
  refine V_mmin (pc := 27) dX1_reach_27 rfl mw_X1_68 (Nat.le_of_ble_eq_true rfl) (Nat.le_of_ble_eq_true rfl) (Nat.le_of_ble_eq_true rfl) (Nat.le_of_ble_eq_true rfl) ?_
  exact V_ireti (pc := 30) dX1_reach_30 rfl (hk := fun h => h)
def J_X1_changes_98 (n : Nat) (t0 : Int32) (σ : MS) : Option (Int32 × MS) := (if t0 = 0 ∨ t0 = 1 then some (t0, σ) else none)
def J_X1_changes_93 (n : Nat)  (σ : MS) : Option (Int32 × MS) := J_X1_changes_98 n (1 : Int32) σ
def J_X1_changes_79 (n : Nat) (v6 : Int32) (v7 : Int32) (v8 : Int32) (v9 : Int32) (σ : MS) : Option (Int32 × MS) := (if v8 < v6 then J_X1_changes_93 n  σ else (if v7 ≤ v9 then J_X1_changes_98 n (0 : Int32) σ else J_X1_changes_93 n  σ))
def f_X1_changes (n : Nat) (p1 : Int32) (p2 : Int32) (p3 : Int32) (p4 : Int32) (p5 : Int32) (σ : MS) : Option (Int32 × MS) := ((f_X1_force n p1 p2 p3 p4 σ).bind (fun q6 => (if q6.1 = 0 then some ((0 : Int32), q6.2) else ((f_X1_reach n p1 p2 p3 p4 q6.2).bind (fun q24 => ((f_X4_held 3 p1 p2 q24.2).bind (fun q35 => ((f_X4_heldTill 3 p1 p2 q24.2).bind (fun q46 => (if p5 = 0 then J_X1_changes_79 n q6.1 q24.1 q35 q46 q24.2 else ((f_X4_tie 3 p1 p2 (mxI q35 q6.1) (mxI q46 q24.1) q24.2).bind (fun q76 => J_X1_changes_79 n q6.1 q24.1 q35 q46 q76.2))))))))))))
set_option maxRecDepth 20000 in
set_option maxHeartbeats 2000000 in
theorem c_X1_changes (w : TG) (n : Nat) (p1 : Int32) (p2 : Int32) (p3 : Int32) (p4 : Int32) (p5 : Int32) (σ : MS) : MC m_X1_changes w [.ref (wB w + 53), .int p1, .int p2, .int p3, .int p4, .int p5] σ (f_X1_changes n p1 p2 p3 p4 p5 σ) := by
  refine V_meth (by decide +kernel) (Nat.le_of_ble_eq_true rfl) (by intro v hv; simp only [List.mem_cons, List.not_mem_nil, or_false] at hv; rcases hv with rfl | rfl | rfl | rfl | rfl | rfl <;> rfl) (fun g x => ?_)
  show VV m_X1_changes w g 0 0 (QM m_X1_changes w g x) (fun b : Int32 × MS => b = x) 0 [some (.ref (wB w + 53)), some (.int p1), some (.int p2), some (.int p3), some (.int p4), some (.int p5), none, none, none, none] [] σ (f_X1_changes n p1 p2 p3 p4 p5 σ)
  have hJ98 : ∀ (t0 : Int32) (σ : MS), VV m_X1_changes w g 0 0 (QM m_X1_changes w g x) (fun b : Int32 × MS => b = x) 98 [none, none, none, none, none, none, none, none, none, none] [.int t0] σ (J_X1_changes_98 n t0 σ) := by
    intro t0 σ
    exact V_iretZ (pc := 98) dX1_changes_98 rfl (hk := fun h => h)
  have hJ93 : ∀ (σ : MS), VV m_X1_changes w g 0 0 (QM m_X1_changes w g x) (fun b : Int32 × MS => b = x) 93 [none, none, none, none, none, none, none, none, none, none] [] σ (J_X1_changes_93 n  σ) := by
    intro σ
    refine V_iconst (pc := 93) (v := (1 : Int32)) dX1_changes_93 rfl ?_
    refine V_goto (pc := 94) (tgt := 98) dX1_changes_94 (by decide) ?_
    exact hJ98 (1 : Int32) σ
  have hJ79 : ∀ (v6 : Int32) (v7 : Int32) (v8 : Int32) (v9 : Int32) (σ : MS), VV m_X1_changes w g 0 0 (QM m_X1_changes w g x) (fun b : Int32 × MS => b = x) 79 [none, none, none, none, none, none, some (.int v6), some (.int v7), some (.int v8), some (.int v9)] [] σ (J_X1_changes_79 n v6 v7 v8 v9 σ) := by
    intro v6 v7 v8 v9 σ
    refine V_iload (pc := 79) dX1_changes_79 rfl ?_
    refine V_iload (pc := 81) dX1_changes_81 rfl ?_
    refine V_icmp_gt (pc := 83) (tgt := 93) dX1_changes_83 (by decide) ?_ ?_
    · refine V_sub (vs' := [none, none, none, none, none, none, none, none, none, none]) (show vless _ _ from trivial) rfl ?_
      exact hJ93 σ
    · refine V_iload (pc := 86) dX1_changes_86 rfl ?_
      refine V_iload (pc := 88) dX1_changes_88 rfl ?_
      refine V_icmp_le (pc := 90) (tgt := 97) dX1_changes_90 (by decide) ?_ ?_
      · refine V_iconst (pc := 97) (v := (0 : Int32)) dX1_changes_97 rfl ?_
        refine V_sub (vs' := [none, none, none, none, none, none, none, none, none, none]) (show vless _ _ from trivial) rfl ?_
        exact hJ98 (0 : Int32) σ
      · refine V_sub (vs' := [none, none, none, none, none, none, none, none, none, none]) (show vless _ _ from trivial) rfl ?_
        exact hJ93 σ
  refine V_aload_n (pc := 0) dX1_changes_0 rfl rfl ?_
  refine V_iload_n (pc := 1) dX1_changes_1 rfl rfl ?_
  refine V_iload_n (pc := 2) dX1_changes_2 rfl rfl ?_
  refine V_iload_n (pc := 3) dX1_changes_3 rfl rfl ?_
  refine V_iload (pc := 4) dX1_changes_4 rfl ?_
  refine V_callVi (pc := 6) (As := [.int p1, .int p2, .int p3, .int p4]) (rest := []) (c_X1_force w n p1 p2 p3 p4 σ) cw_X1_39 rfl rfl dX1_changes_6 kc_53 rfl ⟨Nat.le_of_ble_eq_true rfl, Nat.le_of_ble_eq_true rfl⟩ rfl rfl (Nat.le_of_ble_eq_true rfl) (Nat.le_of_ble_eq_true rfl) (Nat.le_of_ble_eq_true rfl) rfl (fun q6 => ?_)
  refine V_istore (pc := 9) (vs' := [some (.ref (wB w + 53)), some (.int p1), some (.int p2), some (.int p3), some (.int p4), some (.int p5), some (.int q6.1), none, none, none]) dX1_changes_9 (Nat.le_of_ble_eq_true rfl) (Nat.le_of_ble_eq_true rfl) rfl ?_
  refine V_iload (pc := 11) dX1_changes_11 rfl ?_
  refine V_if_ne (pc := 13) (tgt := 18) dX1_changes_13 (by decide) ?_ ?_
  · refine V_aload_n (pc := 18) dX1_changes_18 rfl rfl ?_
    refine V_iload_n (pc := 19) dX1_changes_19 rfl rfl ?_
    refine V_iload_n (pc := 20) dX1_changes_20 rfl rfl ?_
    refine V_iload_n (pc := 21) dX1_changes_21 rfl rfl ?_
    refine V_iload (pc := 22) dX1_changes_22 rfl ?_
    refine V_callVi (pc := 24) (As := [.int p1, .int p2, .int p3, .int p4]) (rest := []) (c_X1_reach w n p1 p2 p3 p4 q6.2) cw_X1_43 rfl rfl dX1_changes_24 kc_53 rfl ⟨Nat.le_of_ble_eq_true rfl, Nat.le_of_ble_eq_true rfl⟩ rfl rfl (Nat.le_of_ble_eq_true rfl) (Nat.le_of_ble_eq_true rfl) (Nat.le_of_ble_eq_true rfl) rfl (fun q24 => ?_)
    refine V_istore (pc := 27) (vs' := [some (.ref (wB w + 53)), some (.int p1), some (.int p2), some (.int p3), some (.int p4), some (.int p5), some (.int q6.1), some (.int q24.1), none, none]) dX1_changes_27 (Nat.le_of_ble_eq_true rfl) (Nat.le_of_ble_eq_true rfl) rfl ?_
    refine V_aload_n (pc := 29) dX1_changes_29 rfl rfl ?_
    refine V_getr (pc := 30) (t := 3) fk_X1_15 rfl dX1_changes_30 kc_53 rfl ?_
    refine V_iload_n (pc := 33) dX1_changes_33 rfl rfl ?_
    refine V_iload_n (pc := 34) dX1_changes_34 rfl rfl ?_
    refine V_callVpi (pc := 35) (As := [.int p1, .int p2]) (rest := []) (c_X4_held w 3 p1 p2 kc_3 q24.2) cw_X1_46 rfl rfl dX1_changes_35 kc_3 rfl ⟨Nat.le_of_ble_eq_true rfl, Nat.le_of_ble_eq_true rfl⟩ rfl rfl (Nat.le_of_ble_eq_true rfl) (Nat.le_of_ble_eq_true rfl) (Nat.le_of_ble_eq_true rfl) rfl (fun q35 => ?_)
    refine V_istore (pc := 38) (vs' := [some (.ref (wB w + 53)), some (.int p1), some (.int p2), some (.int p3), some (.int p4), some (.int p5), some (.int q6.1), some (.int q24.1), some (.int q35), none]) dX1_changes_38 (Nat.le_of_ble_eq_true rfl) (Nat.le_of_ble_eq_true rfl) rfl ?_
    refine V_aload_n (pc := 40) dX1_changes_40 rfl rfl ?_
    refine V_getr (pc := 41) (t := 3) fk_X1_15 rfl dX1_changes_41 kc_53 rfl ?_
    refine V_iload_n (pc := 44) dX1_changes_44 rfl rfl ?_
    refine V_iload_n (pc := 45) dX1_changes_45 rfl rfl ?_
    refine V_callVpi (pc := 46) (As := [.int p1, .int p2]) (rest := []) (c_X4_heldTill w 3 p1 p2 kc_3 q24.2) cw_X1_50 rfl rfl dX1_changes_46 kc_3 rfl ⟨Nat.le_of_ble_eq_true rfl, Nat.le_of_ble_eq_true rfl⟩ rfl rfl (Nat.le_of_ble_eq_true rfl) (Nat.le_of_ble_eq_true rfl) (Nat.le_of_ble_eq_true rfl) rfl (fun q46 => ?_)
    refine V_istore (pc := 49) (vs' := [some (.ref (wB w + 53)), some (.int p1), some (.int p2), some (.int p3), some (.int p4), some (.int p5), some (.int q6.1), some (.int q24.1), some (.int q35), some (.int q46)]) dX1_changes_49 (Nat.le_of_ble_eq_true rfl) (Nat.le_of_ble_eq_true rfl) rfl ?_
    refine V_iload (pc := 51) dX1_changes_51 rfl ?_
    refine V_if_eq (pc := 53) (tgt := 79) dX1_changes_53 (by decide) ?_ ?_
    · refine V_sub (vs' := [none, none, none, none, none, none, some (.int q6.1), some (.int q24.1), some (.int q35), some (.int q46)]) (show vless _ _ from ⟨rfl, ⟨rfl, ⟨rfl, ⟨rfl, trivial⟩⟩⟩⟩) rfl ?_
      exact hJ79 q6.1 q24.1 q35 q46 q24.2
    · refine V_aload_n (pc := 56) dX1_changes_56 rfl rfl ?_
      refine V_getr (pc := 57) (t := 3) fk_X1_15 rfl dX1_changes_57 kc_53 rfl ?_
      refine V_iload_n (pc := 60) dX1_changes_60 rfl rfl ?_
      refine V_iload_n (pc := 61) dX1_changes_61 rfl rfl ?_
      refine V_iload (pc := 62) dX1_changes_62 rfl ?_
      refine V_iload (pc := 64) dX1_changes_64 rfl ?_
      refine V_mmax (pc := 66) dX1_changes_66 rfl mw_X1_53 (Nat.le_of_ble_eq_true rfl) (Nat.le_of_ble_eq_true rfl) (Nat.le_of_ble_eq_true rfl) (Nat.le_of_ble_eq_true rfl) ?_
      refine V_iload (pc := 69) dX1_changes_69 rfl ?_
      refine V_iload (pc := 71) dX1_changes_71 rfl ?_
      refine V_mmax (pc := 73) dX1_changes_73 rfl mw_X1_53 (Nat.le_of_ble_eq_true rfl) (Nat.le_of_ble_eq_true rfl) (Nat.le_of_ble_eq_true rfl) (Nat.le_of_ble_eq_true rfl) ?_
      refine V_callVv (pc := 76) (As := [.int p1, .int p2, .int (mxI q35 q6.1), .int (mxI q46 q24.1)]) (rest := []) (c_X4_tie w 3 p1 p2 (mxI q35 q6.1) (mxI q46 q24.1) kc_3 q24.2) cw_X1_58 rfl rfl dX1_changes_76 kc_3 rfl ⟨Nat.le_of_ble_eq_true rfl, Nat.le_of_ble_eq_true rfl⟩ rfl rfl (Nat.le_of_ble_eq_true rfl) (Nat.le_of_ble_eq_true rfl) (Nat.le_of_ble_eq_true rfl) rfl (fun q76 => ?_)
      refine V_sub (vs' := [none, none, none, none, none, none, some (.int q6.1), some (.int q24.1), some (.int q35), some (.int q46)]) (show vless _ _ from ⟨rfl, ⟨rfl, ⟨rfl, ⟨rfl, trivial⟩⟩⟩⟩) rfl ?_
      exact hJ79 q6.1 q24.1 q35 q46 q76.2
  · refine V_iconst (pc := 16) (v := (0 : Int32)) dX1_changes_16 rfl ?_
    exact V_iretz (pc := 17) dX1_changes_17 rfl rfl (hk := fun h => h)
def J_X1_pour_80 (n : Nat) (v1 : Int32) (v2 : Int32) (v3 : Int32) (v4 : Int32) (v6 : Int32) (v5 : Int32) (v7 : Int32) (σ : MS) : Option ((Int32 × Int32 × MS) ⊕ ((Int32 × Int32 × MS) ⊕ (Int32 × MS))) := some (.inl (v5, (v7 + (1 : Int32)), σ))
def L_X1_pour_30 (n : Nat) (v1 : Int32) (v2 : Int32) (v3 : Int32) (v4 : Int32) (v6 : Int32) (σ : MS) (a30 : Int32 × Int32 × MS) : Option ((Int32 × Int32 × MS) ⊕ ((Int32 × Int32 × MS) ⊕ (Int32 × MS))) := (if (a30.2.2 3 0) ≤ a30.2.1 then (some (.inl (a30.1, (v6 + (1 : Int32)), a30.2.2))).map Sum.inr else (if (v1 &&& ((shlI (1 : Int32) v6) ||| (shlI (1 : Int32) a30.2.1))) = ((shlI (1 : Int32) v6) ||| (shlI (1 : Int32) a30.2.1)) then ((f_X1_changes n v6 a30.2.1 v2 v4 v3 a30.2.2).bind (fun q71 => (if q71.1 = 0 then J_X1_pour_80 n v1 v2 v3 v4 v6 a30.1 a30.2.1 q71.2 else J_X1_pour_80 n v1 v2 v3 v4 v6 (a30.1 + (1 : Int32)) a30.2.1 q71.2))) else J_X1_pour_80 n v1 v2 v3 v4 v6 a30.1 a30.2.1 a30.2.2))
def L_X1_pour_12 (n : Nat) (v1 : Int32) (v2 : Int32) (v3 : Int32) (v4 : Int32) (σ : MS) (a12 : Int32 × Int32 × MS) : Option ((Int32 × Int32 × MS) ⊕ (Int32 × MS)) := (if (a12.2.2 3 0) ≤ a12.2.1 then (some (a12.1, a12.2.2)).map Sum.inr else itr (L_X1_pour_30 n v1 v2 v3 v4 a12.2.1 σ) n (a12.1, (a12.2.1 + (1 : Int32)), a12.2.2))
def f_X1_pour (n : Nat) (p1 : Int32) (p2 : Int32) (p3 : Int32) (σ : MS) : Option (Int32 × MS) := ((f_J6_bitCount_0f7a4 p1 σ).bind (fun q1 => itr (L_X1_pour_12 n p1 p2 p3 q1 σ) n ((0 : Int32), (0 : Int32), σ)))
set_option maxRecDepth 20000 in
set_option maxHeartbeats 2000000 in
theorem c_X1_pour (w : TG) (n : Nat) (p1 : Int32) (p2 : Int32) (p3 : Int32) (σ : MS) : MC m_X1_pour w [.ref (wB w + 53), .int p1, .int p2, .int p3] σ (f_X1_pour n p1 p2 p3 σ) := by
  refine V_meth (by decide +kernel) (Nat.le_of_ble_eq_true rfl) (by intro v hv; simp only [List.mem_cons, List.not_mem_nil, or_false] at hv; rcases hv with rfl | rfl | rfl | rfl <;> rfl) (fun g x => ?_)
  show VV m_X1_pour w g 0 0 (QM m_X1_pour w g x) (fun b : Int32 × MS => b = x) 0 [some (.ref (wB w + 53)), some (.int p1), some (.int p2), some (.int p3), none, none, none, none, none] [] σ (f_X1_pour n p1 p2 p3 σ)
  have hL12 : ∀ (v4 : Int32) (n0 : Nat) (a : Int32 × Int32 × MS), VV m_X1_pour w g 0 0 (QM m_X1_pour w g x) (fun b : Int32 × MS => b = x) 12 [some (.ref (wB w + 53)), some (.int p1), some (.int p2), some (.int p3), some (.int v4), some (.int a.1), some (.int a.2.1), none, none] [] a.2.2 (itr (L_X1_pour_12 n p1 p2 p3 v4 σ) n0 a) := by
    intro v4
    refine V_itr (vf := fun a : Int32 × Int32 × MS => [some (.ref (wB w + 53)), some (.int p1), some (.int p2), some (.int p3), some (.int v4), some (.int a.1), some (.int a.2.1), none, none]) (sf := fun a : Int32 × Int32 × MS => a.2.2) (fun κ12 b12 r12 a12 => ?_)
    show VV m_X1_pour w g 0 0 (QM m_X1_pour w g x) κ12 12 [some (.ref (wB w + 53)), some (.int p1), some (.int p2), some (.int p3), some (.int v4), some (.int a12.1), some (.int a12.2.1), none, none] [] a12.2.2 (L_X1_pour_12 n p1 p2 p3 v4 σ a12)
    have hL30 : ∀ (v6 : Int32) (n0 : Nat) (a : Int32 × Int32 × MS), VV m_X1_pour w g 0 0 (QM m_X1_pour w g x) κ12 30 [some (.ref (wB w + 53)), some (.int p1), some (.int p2), some (.int p3), some (.int v4), some (.int a.1), some (.int v6), some (.int a.2.1), none] [] a.2.2 (itr (L_X1_pour_30 n p1 p2 p3 v4 v6 σ) n0 a) := by
      intro v6
      refine V_itr (vf := fun a : Int32 × Int32 × MS => [some (.ref (wB w + 53)), some (.int p1), some (.int p2), some (.int p3), some (.int v4), some (.int a.1), some (.int v6), some (.int a.2.1), none]) (sf := fun a : Int32 × Int32 × MS => a.2.2) (fun κ30 b30 r30 a30 => ?_)
      show VV m_X1_pour w g 0 0 (QM m_X1_pour w g x) κ30 30 [some (.ref (wB w + 53)), some (.int p1), some (.int p2), some (.int p3), some (.int v4), some (.int a30.1), some (.int v6), some (.int a30.2.1), none] [] a30.2.2 (L_X1_pour_30 n p1 p2 p3 v4 v6 σ a30)
      have hJ80 : ∀ (v5 : Int32) (v7 : Int32) (σ : MS), VV m_X1_pour w g 0 0 (QM m_X1_pour w g x) κ30 80 [some (.ref (wB w + 53)), some (.int p1), some (.int p2), some (.int p3), some (.int v4), some (.int v5), some (.int v6), some (.int v7), none] [] σ (J_X1_pour_80 n p1 p2 p3 v4 v6 v5 v7 σ) := by
        intro v5 v7 σ
        refine V_iinc (pc := 80) (v := (v7 + (1 : Int32))) (vs' := [some (.ref (wB w + 53)), some (.int p1), some (.int p2), some (.int p3), some (.int v4), some (.int v5), some (.int v6), some (.int (v7 + (1 : Int32))), none]) dX1_pour_80 (Nat.le_of_ble_eq_true rfl) rfl rfl rfl ?_
        refine V_goto (pc := 83) (tgt := 30) dX1_pour_83 (by decide) ?_
        exact V_back (b30 (v5, (v7 + (1 : Int32)), σ))
      refine V_iload (pc := 30) dX1_pour_30 rfl ?_
      refine V_aload_n (pc := 32) dX1_pour_32 rfl rfl ?_
      refine V_getr (pc := 33) (t := 3) fk_X1_15 rfl dX1_pour_33 kc_53 rfl ?_
      refine V_geti (pc := 36) fk_X1_29 rfl dX1_pour_36 kc_3 rfl ?_
      refine V_icmp_ge (pc := 39) (tgt := 86) dX1_pour_39 (by decide) ?_ ?_
      · refine V_exit r30 ?_
        refine V_iinc (pc := 86) (v := (v6 + (1 : Int32))) (vs' := [some (.ref (wB w + 53)), some (.int p1), some (.int p2), some (.int p3), some (.int v4), some (.int a30.1), some (.int (v6 + (1 : Int32))), some (.int a30.2.1), none]) dX1_pour_86 (Nat.le_of_ble_eq_true rfl) rfl rfl rfl ?_
        refine V_goto (pc := 89) (tgt := 12) dX1_pour_89 (by decide) ?_
        refine V_sub (vs' := [some (.ref (wB w + 53)), some (.int p1), some (.int p2), some (.int p3), some (.int v4), some (.int a30.1), some (.int (v6 + (1 : Int32))), none, none]) (show vless _ _ from ⟨rfl, ⟨rfl, ⟨rfl, ⟨rfl, ⟨rfl, ⟨rfl, ⟨rfl, trivial⟩⟩⟩⟩⟩⟩⟩) rfl ?_
        exact V_back (b12 (a30.1, (v6 + (1 : Int32)), a30.2.2))
      · refine V_iconst (pc := 42) (v := (1 : Int32)) dX1_pour_42 rfl ?_
        refine V_iload (pc := 43) dX1_pour_43 rfl ?_
        refine V_ishl (pc := 45) dX1_pour_45 ?_
        refine V_iconst (pc := 46) (v := (1 : Int32)) dX1_pour_46 rfl ?_
        refine V_iload (pc := 47) dX1_pour_47 rfl ?_
        refine V_ishl (pc := 49) dX1_pour_49 ?_
        refine V_ior (pc := 50) dX1_pour_50 ?_
        refine V_istore (pc := 51) (vs' := [some (.ref (wB w + 53)), some (.int p1), some (.int p2), some (.int p3), some (.int v4), some (.int a30.1), some (.int v6), some (.int a30.2.1), some (.int ((shlI (1 : Int32) v6) ||| (shlI (1 : Int32) a30.2.1)))]) dX1_pour_51 (Nat.le_of_ble_eq_true rfl) (Nat.le_of_ble_eq_true rfl) rfl ?_
        refine V_iload_n (pc := 53) dX1_pour_53 rfl rfl ?_
        refine V_iload (pc := 54) dX1_pour_54 rfl ?_
        refine V_iand (pc := 56) dX1_pour_56 ?_
        refine V_iload (pc := 57) dX1_pour_57 rfl ?_
        refine V_icmp_ne (pc := 59) (tgt := 80) dX1_pour_59 (by decide) ?_ ?_
        · refine V_sub (vs' := [some (.ref (wB w + 53)), some (.int p1), some (.int p2), some (.int p3), some (.int v4), some (.int a30.1), some (.int v6), some (.int a30.2.1), none]) (show vless _ _ from ⟨rfl, ⟨rfl, ⟨rfl, ⟨rfl, ⟨rfl, ⟨rfl, ⟨rfl, ⟨rfl, trivial⟩⟩⟩⟩⟩⟩⟩⟩) rfl ?_
          exact hJ80 a30.1 a30.2.1 a30.2.2
        · refine V_aload_n (pc := 62) dX1_pour_62 rfl rfl ?_
          refine V_iload (pc := 63) dX1_pour_63 rfl ?_
          refine V_iload (pc := 65) dX1_pour_65 rfl ?_
          refine V_iload_n (pc := 67) dX1_pour_67 rfl rfl ?_
          refine V_iload (pc := 68) dX1_pour_68 rfl ?_
          refine V_iload_n (pc := 70) dX1_pour_70 rfl rfl ?_
          refine V_callVi (pc := 71) (As := [.int v6, .int a30.2.1, .int p2, .int v4, .int p3]) (rest := []) (c_X1_changes w n v6 a30.2.1 p2 v4 p3 a30.2.2) cw_X1_35 rfl rfl dX1_pour_71 kc_53 rfl ⟨Nat.le_of_ble_eq_true rfl, Nat.le_of_ble_eq_true rfl⟩ rfl rfl (Nat.le_of_ble_eq_true rfl) (Nat.le_of_ble_eq_true rfl) (Nat.le_of_ble_eq_true rfl) rfl (fun q71 => ?_)
          refine V_if_eq (pc := 74) (tgt := 80) dX1_pour_74 (by decide) ?_ ?_
          · refine V_sub (vs' := [some (.ref (wB w + 53)), some (.int p1), some (.int p2), some (.int p3), some (.int v4), some (.int a30.1), some (.int v6), some (.int a30.2.1), none]) (show vless _ _ from ⟨rfl, ⟨rfl, ⟨rfl, ⟨rfl, ⟨rfl, ⟨rfl, ⟨rfl, ⟨rfl, trivial⟩⟩⟩⟩⟩⟩⟩⟩) rfl ?_
            exact hJ80 a30.1 a30.2.1 q71.2
          · refine V_iinc (pc := 77) (v := (a30.1 + (1 : Int32))) (vs' := [some (.ref (wB w + 53)), some (.int p1), some (.int p2), some (.int p3), some (.int v4), some (.int (a30.1 + (1 : Int32))), some (.int v6), some (.int a30.2.1), some (.int ((shlI (1 : Int32) v6) ||| (shlI (1 : Int32) a30.2.1)))]) dX1_pour_77 (Nat.le_of_ble_eq_true rfl) rfl rfl rfl ?_
            refine V_sub (vs' := [some (.ref (wB w + 53)), some (.int p1), some (.int p2), some (.int p3), some (.int v4), some (.int (a30.1 + (1 : Int32))), some (.int v6), some (.int a30.2.1), none]) (show vless _ _ from ⟨rfl, ⟨rfl, ⟨rfl, ⟨rfl, ⟨rfl, ⟨rfl, ⟨rfl, ⟨rfl, trivial⟩⟩⟩⟩⟩⟩⟩⟩) rfl ?_
            exact hJ80 (a30.1 + (1 : Int32)) a30.2.1 q71.2
    refine V_iload (pc := 12) dX1_pour_12 rfl ?_
    refine V_aload_n (pc := 14) dX1_pour_14 rfl rfl ?_
    refine V_getr (pc := 15) (t := 3) fk_X1_15 rfl dX1_pour_15 kc_53 rfl ?_
    refine V_geti (pc := 18) fk_X1_29 rfl dX1_pour_18 kc_3 rfl ?_
    refine V_icmp_ge (pc := 21) (tgt := 92) dX1_pour_21 (by decide) ?_ ?_
    · refine V_exit r12 ?_
      refine V_iload (pc := 92) dX1_pour_92 rfl ?_
      exact V_ireti (pc := 94) dX1_pour_94 rfl (hk := fun h => h)
    · refine V_iload (pc := 24) dX1_pour_24 rfl ?_
      refine V_iconst (pc := 26) (v := (1 : Int32)) dX1_pour_26 rfl ?_
      refine V_iadd (pc := 27) dX1_pour_27 ?_
      refine V_istore (pc := 28) (vs' := [some (.ref (wB w + 53)), some (.int p1), some (.int p2), some (.int p3), some (.int v4), some (.int a12.1), some (.int a12.2.1), some (.int (a12.2.1 + (1 : Int32))), none]) dX1_pour_28 (Nat.le_of_ble_eq_true rfl) (Nat.le_of_ble_eq_true rfl) rfl ?_
      exact hL30 a12.2.1 n (a12.1, (a12.2.1 + (1 : Int32)), a12.2.2)
  refine V_iload_n (pc := 0) dX1_pour_0 rfl rfl ?_
  refine V_callSpi (pc := 1) (As := [.int p1]) (rest := []) (c_J6_bitCount_0f7a4 w p1 σ) cs_X1_23 rfl rfl dX1_pour_1 ⟨Nat.le_of_ble_eq_true rfl, Nat.le_of_ble_eq_true rfl⟩ rfl rfl (Nat.le_of_ble_eq_true rfl) (Nat.le_of_ble_eq_true rfl) (Nat.le_of_ble_eq_true rfl) rfl (fun q1 => ?_)
  refine V_istore (pc := 4) (vs' := [some (.ref (wB w + 53)), some (.int p1), some (.int p2), some (.int p3), some (.int q1), none, none, none, none]) dX1_pour_4 (Nat.le_of_ble_eq_true rfl) (Nat.le_of_ble_eq_true rfl) rfl ?_
  refine V_iconst (pc := 6) (v := (0 : Int32)) dX1_pour_6 rfl ?_
  refine V_istore (pc := 7) (vs' := [some (.ref (wB w + 53)), some (.int p1), some (.int p2), some (.int p3), some (.int q1), some (.int (0 : Int32)), none, none, none]) dX1_pour_7 (Nat.le_of_ble_eq_true rfl) (Nat.le_of_ble_eq_true rfl) rfl ?_
  refine V_iconst (pc := 9) (v := (0 : Int32)) dX1_pour_9 rfl ?_
  refine V_istore (pc := 10) (vs' := [some (.ref (wB w + 53)), some (.int p1), some (.int p2), some (.int p3), some (.int q1), some (.int (0 : Int32)), some (.int (0 : Int32)), none, none]) dX1_pour_10 (Nat.le_of_ble_eq_true rfl) (Nat.le_of_ble_eq_true rfl) rfl ?_
  exact hL12 q1 n ((0 : Int32), (0 : Int32), σ)
def J_X0_move_53 (n : Nat) (h0 : Nat) (v1 : Int32) (v2 : Int32) (σ : MS) : Option ((Int32 × MS) ⊕ (Int32 × MS)) := some (.inl ((v2 + (1 : Int32)), σ))
def J_X0_move_41 (n : Nat) (h0 : Nat) (v1 : Int32) (v2 : Int32) (v3 : Int32) (σ : MS) : Option ((Int32 × MS) ⊕ (Int32 × MS)) := (if inb v3 8 then (if inb v2 8 then ltM (mu σ (h0 + 1) (ix v2) (σ (h0 + 1) (ix v3))) (fun s52 => J_X0_move_53 n h0 v1 v2 s52) else none) else none)
def L_X0_move_2 (n : Nat) (h0 : Nat) (v1 : Int32) (σ : MS) (a2 : Int32 × MS) : Option ((Int32 × MS) ⊕ (Int32 × MS)) := (if (a2.2 h0 0) ≤ a2.1 then (some (0, a2.2)).map Sum.inr else ((f_X4_closest n h0 a2.1 a2.2).bind (fun q12 => (if q12 = (-1 : Int32) then J_X0_move_53 n h0 v1 a2.1 a2.2 else (if v1 = 0 then J_X0_move_41 n h0 v1 a2.1 q12 a2.2 else ((f_X4_draw h0 a2.2).bind (fun q26 => ((f_X4_held h0 a2.1 q12 q26.2).bind (fun q35 => (if q35 ≤ (remI q26.1 (10 : Int32)) then J_X0_move_53 n h0 v1 a2.1 q26.2 else J_X0_move_41 n h0 v1 a2.1 q12 q26.2))))))))))
def f_X0_move (n : Nat) (h0 : Nat) (p1 : Int32) (σ : MS) : Option (Int32 × MS) := itr (L_X0_move_2 n h0 p1 σ) n ((0 : Int32), σ)
set_option maxRecDepth 20000 in
set_option maxHeartbeats 2000000 in
theorem c_X0_move (w : TG) (n : Nat) (h0 : Nat) (p1 : Int32) (k_h0 : kd h0 = 4) (σ : MS) : MC m_X0_move w [.ref (wB w + h0), .int p1] σ (f_X0_move n h0 p1 σ) := by
  refine V_meth (by decide +kernel) (Nat.le_of_ble_eq_true rfl) (by intro v hv; simp only [List.mem_cons, List.not_mem_nil, or_false] at hv; rcases hv with rfl | rfl <;> rfl) (fun g x => ?_)
  show VV m_X0_move w g 0 0 (QM m_X0_move w g x) (fun b : Int32 × MS => b = x) 0 [some (.ref (wB w + h0)), some (.int p1), none, none] [] σ (f_X0_move n h0 p1 σ)
  have hL2 : ∀  (n0 : Nat) (a : Int32 × MS), VV m_X0_move w g 0 0 (QM m_X0_move w g x) (fun b : Int32 × MS => b = x) 2 [some (.ref (wB w + h0)), some (.int p1), some (.int a.1), none] [] a.2 (itr (L_X0_move_2 n h0 p1 σ) n0 a) := by
    refine V_itr (vf := fun a : Int32 × MS => [some (.ref (wB w + h0)), some (.int p1), some (.int a.1), none]) (sf := fun a : Int32 × MS => a.2) (fun κ2 b2 r2 a2 => ?_)
    show VV m_X0_move w g 0 0 (QM m_X0_move w g x) κ2 2 [some (.ref (wB w + h0)), some (.int p1), some (.int a2.1), none] [] a2.2 (L_X0_move_2 n h0 p1 σ a2)
    have hJ53 : ∀ (v2 : Int32) (σ : MS), VV m_X0_move w g 0 0 (QM m_X0_move w g x) κ2 53 [some (.ref (wB w + h0)), some (.int p1), some (.int v2), none] [] σ (J_X0_move_53 n h0 p1 v2 σ) := by
      intro v2 σ
      refine V_iinc (pc := 53) (v := (v2 + (1 : Int32))) (vs' := [some (.ref (wB w + h0)), some (.int p1), some (.int (v2 + (1 : Int32))), none]) dX0_move_53 (Nat.le_of_ble_eq_true rfl) rfl rfl rfl ?_
      refine V_goto (pc := 56) (tgt := 2) dX0_move_56 (by decide) ?_
      exact V_back (b2 ((v2 + (1 : Int32)), σ))
    have hJ41 : ∀ (v2 : Int32) (v3 : Int32) (σ : MS), VV m_X0_move w g 0 0 (QM m_X0_move w g x) κ2 41 [some (.ref (wB w + h0)), some (.int p1), some (.int v2), some (.int v3)] [] σ (J_X0_move_41 n h0 p1 v2 v3 σ) := by
      intro v2 v3 σ
      refine V_aload_n (pc := 41) dX0_move_41 rfl rfl ?_
      refine V_getr (pc := 42) (t := (h0 + 1)) fk_X0_48 rfl dX0_move_42 k_h0 rfl ?_
      refine V_iload_n (pc := 45) dX0_move_45 rfl rfl ?_
      refine V_aload_n (pc := 46) dX0_move_46 rfl rfl ?_
      refine V_getr (pc := 47) (t := (h0 + 1)) fk_X0_48 rfl dX0_move_47 k_h0 rfl ?_
      refine V_iload_n (pc := 50) dX0_move_50 rfl rfl ?_
      refine V_iald (pc := 51) (n := 8) dX0_move_51 (hA1 k_h0).1 (hA1 k_h0).2 ?_
      refine V_iast (pc := 52) (n := 8) dX0_move_52 (hA1 k_h0).1 (hA1 k_h0).2 (fun s52 => ?_)
      refine V_sub (vs' := [some (.ref (wB w + h0)), some (.int p1), some (.int v2), none]) (show vless _ _ from ⟨rfl, ⟨rfl, ⟨rfl, trivial⟩⟩⟩) rfl ?_
      exact hJ53 v2 s52
    refine V_iload_n (pc := 2) dX0_move_2 rfl rfl ?_
    refine V_aload_n (pc := 3) dX0_move_3 rfl rfl ?_
    refine V_geti (pc := 4) fk_X0_34 rfl dX0_move_4 k_h0 rfl ?_
    refine V_icmp_ge (pc := 7) (tgt := 59) dX0_move_7 (by decide) ?_ ?_
    · refine V_exit r2 ?_
      exact V_ret (pc := 59) dX0_move_59 rfl (hk := fun h => h)
    · refine V_aload_n (pc := 10) dX0_move_10 rfl rfl ?_
      refine V_iload_n (pc := 11) dX0_move_11 rfl rfl ?_
      refine V_callVpi (pc := 12) (As := [.int a2.1]) (rest := []) (c_X4_closest w n h0 a2.1 k_h0 a2.2) cw_X0_37 rfl rfl dX0_move_12 k_h0 rfl ⟨Nat.le_of_ble_eq_true rfl, Nat.le_of_ble_eq_true rfl⟩ rfl rfl (Nat.le_of_ble_eq_true rfl) (Nat.le_of_ble_eq_true rfl) (Nat.le_of_ble_eq_true rfl) rfl (fun q12 => ?_)
      refine V_istore_n (pc := 15) (vs' := [some (.ref (wB w + h0)), some (.int p1), some (.int a2.1), some (.int q12)]) dX0_move_15 rfl (Nat.le_of_ble_eq_true rfl) (Nat.le_of_ble_eq_true rfl) rfl ?_
      refine V_iload_n (pc := 16) dX0_move_16 rfl rfl ?_
      refine V_iconst (pc := 17) (v := (-1 : Int32)) dX0_move_17 rfl ?_
      refine V_icmp_eq (pc := 18) (tgt := 53) dX0_move_18 (by decide) ?_ ?_
      · refine V_sub (vs' := [some (.ref (wB w + h0)), some (.int p1), some (.int a2.1), none]) (show vless _ _ from ⟨rfl, ⟨rfl, ⟨rfl, trivial⟩⟩⟩) rfl ?_
        exact hJ53 a2.1 a2.2
      · refine V_iload_n (pc := 21) dX0_move_21 rfl rfl ?_
        refine V_if_eq (pc := 22) (tgt := 41) dX0_move_22 (by decide) ?_ ?_
        · exact hJ41 a2.1 q12 a2.2
        · refine V_aload_n (pc := 25) dX0_move_25 rfl rfl ?_
          refine V_callVi (pc := 26) (As := []) (rest := []) (c_X4_draw w h0 k_h0 a2.2) cw_X0_41 rfl rfl dX0_move_26 k_h0 rfl ⟨Nat.le_of_ble_eq_true rfl, Nat.le_of_ble_eq_true rfl⟩ rfl rfl (Nat.le_of_ble_eq_true rfl) (Nat.le_of_ble_eq_true rfl) (Nat.le_of_ble_eq_true rfl) rfl (fun q26 => ?_)
          refine V_bipush (pc := 29) (v := (10 : Int32)) dX0_move_29 rfl ?_
          refine V_irem (pc := 31) dX0_move_31 (by decide) ?_
          refine V_aload_n (pc := 32) dX0_move_32 rfl rfl ?_
          refine V_iload_n (pc := 33) dX0_move_33 rfl rfl ?_
          refine V_iload_n (pc := 34) dX0_move_34 rfl rfl ?_
          refine V_callVpi (pc := 35) (As := [.int a2.1, .int q12]) (rest := [.int (remI q26.1 (10 : Int32))]) (c_X4_held w h0 a2.1 q12 k_h0 q26.2) cw_X0_45 rfl rfl dX0_move_35 k_h0 rfl ⟨Nat.le_of_ble_eq_true rfl, Nat.le_of_ble_eq_true rfl⟩ rfl rfl (Nat.le_of_ble_eq_true rfl) (Nat.le_of_ble_eq_true rfl) (Nat.le_of_ble_eq_true rfl) rfl (fun q35 => ?_)
          refine V_icmp_ge (pc := 38) (tgt := 53) dX0_move_38 (by decide) ?_ ?_
          · refine V_sub (vs' := [some (.ref (wB w + h0)), some (.int p1), some (.int a2.1), none]) (show vless _ _ from ⟨rfl, ⟨rfl, ⟨rfl, trivial⟩⟩⟩) rfl ?_
            exact hJ53 a2.1 q26.2
          · exact hJ41 a2.1 q12 q26.2
  refine V_iconst (pc := 0) (v := (0 : Int32)) dX0_move_0 rfl ?_
  refine V_istore_n (pc := 1) (vs' := [some (.ref (wB w + h0)), some (.int p1), some (.int (0 : Int32)), none]) dX0_move_1 rfl (Nat.le_of_ble_eq_true rfl) (Nat.le_of_ble_eq_true rfl) rfl ?_
  exact hL2 n ((0 : Int32), σ)
def J_X0_meet_102 (n : Nat) (h0 : Nat) (h1 : Nat) (v2 : Int32) (v3 : Int32) (σ : MS) : Option ((Int32 × MS) ⊕ ((Int32 × MS) ⊕ (Int32 × MS))) := some (.inl ((v3 + (1 : Int32)), σ))
def L_X0_meet_14 (n : Nat) (h0 : Nat) (h1 : Nat) (v2 : Int32) (σ : MS) (a14 : Int32 × MS) : Option ((Int32 × MS) ⊕ ((Int32 × MS) ⊕ (Int32 × MS))) := (if (a14.2 h0 0) ≤ a14.1 then (some (.inl ((v2 + (1 : Int32)), a14.2))).map Sum.inr else (if inb v2 8 then (if inb a14.1 8 then (if (a14.2 (h0 + 1) (ix v2)) = (a14.2 (h0 + 1) (ix a14.1)) then (if inb v2 8 then (if inb v2 8 then ltM (mu a14.2 (h0 + 4) (ix v2) ((a14.2 (h0 + 4) (ix v2)) ||| (shlI (1 : Int32) a14.1))) (fun s51 => (if inb a14.1 8 then (if inb a14.1 8 then ltM (mu s51 (h0 + 4) (ix a14.1) ((s51 (h0 + 4) (ix a14.1)) ||| (shlI (1 : Int32) v2))) (fun s63 => (if inb v2 8 then (if ((s63 h0 2) &&& (shlI (1 : Int32) (s63 (h0 + 1) (ix v2)))) = 0 then J_X0_meet_102 n h0 h1 v2 a14.1 s63 else ((f_X4_isSecret h0 v2 a14.1 s63).bind (fun q83 => (if q83 = 0 then J_X0_meet_102 n h0 h1 v2 a14.1 s63 else ((f_X6_suspectsBy n h1 h0 v2 a14.1 s63).bind (fun q96 => ((f_X4_leaveFootprint h0 v2 a14.1 q96.1 q96.2).bind (fun q99 => J_X0_meet_102 n h0 h1 v2 a14.1 q99.2)))))))) else none)) else none) else none)) else none) else none) else J_X0_meet_102 n h0 h1 v2 a14.1 a14.2) else none) else none))
def L_X0_meet_2 (n : Nat) (h0 : Nat) (h1 : Nat) (σ : MS) (a2 : Int32 × MS) : Option ((Int32 × MS) ⊕ (Int32 × MS)) := (if (a2.2 h0 0) ≤ a2.1 then (some (0, a2.2)).map Sum.inr else itr (L_X0_meet_14 n h0 h1 a2.1 σ) n ((a2.1 + (1 : Int32)), a2.2))
def f_X0_meet (n : Nat) (h0 : Nat) (h1 : Nat) (σ : MS) : Option (Int32 × MS) := itr (L_X0_meet_2 n h0 h1 σ) n ((0 : Int32), σ)
set_option maxRecDepth 20000 in
set_option maxHeartbeats 2000000 in
theorem c_X0_meet (w : TG) (n : Nat) (h0 : Nat) (h1 : Nat) (k_h0 : kd h0 = 4) (k_h1 : kd h1 = 6) (σ : MS) : MC m_X0_meet w [.ref (wB w + h0), .ref (wB w + h1)] σ (f_X0_meet n h0 h1 σ) := by
  refine V_meth (by decide +kernel) (Nat.le_of_ble_eq_true rfl) (by intro v hv; simp only [List.mem_cons, List.not_mem_nil, or_false] at hv; rcases hv with rfl | rfl <;> rfl) (fun g x => ?_)
  show VV m_X0_meet w g 0 0 (QM m_X0_meet w g x) (fun b : Int32 × MS => b = x) 0 [some (.ref (wB w + h0)), some (.ref (wB w + h1)), none, none] [] σ (f_X0_meet n h0 h1 σ)
  have hL2 : ∀  (n0 : Nat) (a : Int32 × MS), VV m_X0_meet w g 0 0 (QM m_X0_meet w g x) (fun b : Int32 × MS => b = x) 2 [some (.ref (wB w + h0)), some (.ref (wB w + h1)), some (.int a.1), none] [] a.2 (itr (L_X0_meet_2 n h0 h1 σ) n0 a) := by
    refine V_itr (vf := fun a : Int32 × MS => [some (.ref (wB w + h0)), some (.ref (wB w + h1)), some (.int a.1), none]) (sf := fun a : Int32 × MS => a.2) (fun κ2 b2 r2 a2 => ?_)
    show VV m_X0_meet w g 0 0 (QM m_X0_meet w g x) κ2 2 [some (.ref (wB w + h0)), some (.ref (wB w + h1)), some (.int a2.1), none] [] a2.2 (L_X0_meet_2 n h0 h1 σ a2)
    have hL14 : ∀ (v2 : Int32) (n0 : Nat) (a : Int32 × MS), VV m_X0_meet w g 0 0 (QM m_X0_meet w g x) κ2 14 [some (.ref (wB w + h0)), some (.ref (wB w + h1)), some (.int v2), some (.int a.1)] [] a.2 (itr (L_X0_meet_14 n h0 h1 v2 σ) n0 a) := by
      intro v2
      refine V_itr (vf := fun a : Int32 × MS => [some (.ref (wB w + h0)), some (.ref (wB w + h1)), some (.int v2), some (.int a.1)]) (sf := fun a : Int32 × MS => a.2) (fun κ14 b14 r14 a14 => ?_)
      show VV m_X0_meet w g 0 0 (QM m_X0_meet w g x) κ14 14 [some (.ref (wB w + h0)), some (.ref (wB w + h1)), some (.int v2), some (.int a14.1)] [] a14.2 (L_X0_meet_14 n h0 h1 v2 σ a14)
      have hJ102 : ∀ (v3 : Int32) (σ : MS), VV m_X0_meet w g 0 0 (QM m_X0_meet w g x) κ14 102 [some (.ref (wB w + h0)), some (.ref (wB w + h1)), some (.int v2), some (.int v3)] [] σ (J_X0_meet_102 n h0 h1 v2 v3 σ) := by
        intro v3 σ
        refine V_iinc (pc := 102) (v := (v3 + (1 : Int32))) (vs' := [some (.ref (wB w + h0)), some (.ref (wB w + h1)), some (.int v2), some (.int (v3 + (1 : Int32)))]) dX0_meet_102 (Nat.le_of_ble_eq_true rfl) rfl rfl rfl ?_
        refine V_goto (pc := 105) (tgt := 14) dX0_meet_105 (by decide) ?_
        exact V_back (b14 ((v3 + (1 : Int32)), σ))
      refine V_iload_n (pc := 14) dX0_meet_14 rfl rfl ?_
      refine V_aload_n (pc := 15) dX0_meet_15 rfl rfl ?_
      refine V_geti (pc := 16) fk_X0_34 rfl dX0_meet_16 k_h0 rfl ?_
      refine V_icmp_ge (pc := 19) (tgt := 108) dX0_meet_19 (by decide) ?_ ?_
      · refine V_exit r14 ?_
        refine V_iinc (pc := 108) (v := (v2 + (1 : Int32))) (vs' := [some (.ref (wB w + h0)), some (.ref (wB w + h1)), some (.int (v2 + (1 : Int32))), some (.int a14.1)]) dX0_meet_108 (Nat.le_of_ble_eq_true rfl) rfl rfl rfl ?_
        refine V_goto (pc := 111) (tgt := 2) dX0_meet_111 (by decide) ?_
        refine V_sub (vs' := [some (.ref (wB w + h0)), some (.ref (wB w + h1)), some (.int (v2 + (1 : Int32))), none]) (show vless _ _ from ⟨rfl, ⟨rfl, ⟨rfl, trivial⟩⟩⟩) rfl ?_
        exact V_back (b2 ((v2 + (1 : Int32)), a14.2))
      · refine V_aload_n (pc := 22) dX0_meet_22 rfl rfl ?_
        refine V_getr (pc := 23) (t := (h0 + 1)) fk_X0_48 rfl dX0_meet_23 k_h0 rfl ?_
        refine V_iload_n (pc := 26) dX0_meet_26 rfl rfl ?_
        refine V_iald (pc := 27) (n := 8) dX0_meet_27 (hA1 k_h0).1 (hA1 k_h0).2 ?_
        refine V_aload_n (pc := 28) dX0_meet_28 rfl rfl ?_
        refine V_getr (pc := 29) (t := (h0 + 1)) fk_X0_48 rfl dX0_meet_29 k_h0 rfl ?_
        refine V_iload_n (pc := 32) dX0_meet_32 rfl rfl ?_
        refine V_iald (pc := 33) (n := 8) dX0_meet_33 (hA1 k_h0).1 (hA1 k_h0).2 ?_
        refine V_icmp_eq (pc := 34) (tgt := 40) dX0_meet_34 (by decide) ?_ ?_
        · refine V_aload_n (pc := 40) dX0_meet_40 rfl rfl ?_
          refine V_getr (pc := 41) (t := (h0 + 4)) fk_X0_52 rfl dX0_meet_41 k_h0 rfl ?_
          refine V_iload_n (pc := 44) dX0_meet_44 rfl rfl ?_
          refine V_dup2 (pc := 45) dX0_meet_45 rfl rfl ?_
          refine V_iald (pc := 46) (n := 8) dX0_meet_46 (hA4 k_h0).1 (hA4 k_h0).2 ?_
          refine V_iconst (pc := 47) (v := (1 : Int32)) dX0_meet_47 rfl ?_
          refine V_iload_n (pc := 48) dX0_meet_48 rfl rfl ?_
          refine V_ishl (pc := 49) dX0_meet_49 ?_
          refine V_ior (pc := 50) dX0_meet_50 ?_
          refine V_iast (pc := 51) (n := 8) dX0_meet_51 (hA4 k_h0).1 (hA4 k_h0).2 (fun s51 => ?_)
          refine V_aload_n (pc := 52) dX0_meet_52 rfl rfl ?_
          refine V_getr (pc := 53) (t := (h0 + 4)) fk_X0_52 rfl dX0_meet_53 k_h0 rfl ?_
          refine V_iload_n (pc := 56) dX0_meet_56 rfl rfl ?_
          refine V_dup2 (pc := 57) dX0_meet_57 rfl rfl ?_
          refine V_iald (pc := 58) (n := 8) dX0_meet_58 (hA4 k_h0).1 (hA4 k_h0).2 ?_
          refine V_iconst (pc := 59) (v := (1 : Int32)) dX0_meet_59 rfl ?_
          refine V_iload_n (pc := 60) dX0_meet_60 rfl rfl ?_
          refine V_ishl (pc := 61) dX0_meet_61 ?_
          refine V_ior (pc := 62) dX0_meet_62 ?_
          refine V_iast (pc := 63) (n := 8) dX0_meet_63 (hA4 k_h0).1 (hA4 k_h0).2 (fun s63 => ?_)
          refine V_aload_n (pc := 64) dX0_meet_64 rfl rfl ?_
          refine V_geti (pc := 65) fk_X0_55 rfl dX0_meet_65 k_h0 rfl ?_
          refine V_iconst (pc := 68) (v := (1 : Int32)) dX0_meet_68 rfl ?_
          refine V_aload_n (pc := 69) dX0_meet_69 rfl rfl ?_
          refine V_getr (pc := 70) (t := (h0 + 1)) fk_X0_48 rfl dX0_meet_70 k_h0 rfl ?_
          refine V_iload_n (pc := 73) dX0_meet_73 rfl rfl ?_
          refine V_iald (pc := 74) (n := 8) dX0_meet_74 (hA1 k_h0).1 (hA1 k_h0).2 ?_
          refine V_ishl (pc := 75) dX0_meet_75 ?_
          refine V_iand (pc := 76) dX0_meet_76 ?_
          refine V_if_eq (pc := 77) (tgt := 102) dX0_meet_77 (by decide) ?_ ?_
          · exact hJ102 a14.1 s63
          · refine V_aload_n (pc := 80) dX0_meet_80 rfl rfl ?_
            refine V_iload_n (pc := 81) dX0_meet_81 rfl rfl ?_
            refine V_iload_n (pc := 82) dX0_meet_82 rfl rfl ?_
            refine V_callVpi (pc := 83) (As := [.int v2, .int a14.1]) (rest := []) (c_X4_isSecret w h0 v2 a14.1 k_h0 s63) cw_X0_58 rfl rfl dX0_meet_83 k_h0 rfl ⟨Nat.le_of_ble_eq_true rfl, Nat.le_of_ble_eq_true rfl⟩ rfl rfl (Nat.le_of_ble_eq_true rfl) (Nat.le_of_ble_eq_true rfl) (Nat.le_of_ble_eq_true rfl) rfl (fun q83 => ?_)
            refine V_if_eq (pc := 86) (tgt := 102) dX0_meet_86 (by decide) ?_ ?_
            · exact hJ102 a14.1 s63
            · refine V_aload_n (pc := 89) dX0_meet_89 rfl rfl ?_
              refine V_iload_n (pc := 90) dX0_meet_90 rfl rfl ?_
              refine V_iload_n (pc := 91) dX0_meet_91 rfl rfl ?_
              refine V_aload_n (pc := 92) dX0_meet_92 rfl rfl ?_
              refine V_aload_n (pc := 93) dX0_meet_93 rfl rfl ?_
              refine V_iload_n (pc := 94) dX0_meet_94 rfl rfl ?_
              refine V_iload_n (pc := 95) dX0_meet_95 rfl rfl ?_
              refine V_callVi (pc := 96) (As := [.ref (wB w + h0), .int v2, .int a14.1]) (rest := [.int a14.1, .int v2, .ref (wB w + h0)]) (c_X6_suspectsBy w n h1 h0 v2 a14.1 k_h1 k_h0 s63) cw_X0_62 rfl rfl dX0_meet_96 k_h1 rfl ⟨Nat.le_of_ble_eq_true rfl, Nat.le_of_ble_eq_true rfl⟩ rfl rfl (Nat.le_of_ble_eq_true rfl) (Nat.le_of_ble_eq_true rfl) (Nat.le_of_ble_eq_true rfl) rfl (fun q96 => ?_)
              refine V_callVv (pc := 99) (As := [.int v2, .int a14.1, .int q96.1]) (rest := []) (c_X4_leaveFootprint w h0 v2 a14.1 q96.1 k_h0 q96.2) cw_X0_68 rfl rfl dX0_meet_99 k_h0 rfl ⟨Nat.le_of_ble_eq_true rfl, Nat.le_of_ble_eq_true rfl⟩ rfl rfl (Nat.le_of_ble_eq_true rfl) (Nat.le_of_ble_eq_true rfl) (Nat.le_of_ble_eq_true rfl) rfl (fun q99 => ?_)
              exact hJ102 a14.1 q99.2
        · refine V_goto (pc := 37) (tgt := 102) dX0_meet_37 (by decide) ?_
          exact hJ102 a14.1 a14.2
    refine V_iload_n (pc := 2) dX0_meet_2 rfl rfl ?_
    refine V_aload_n (pc := 3) dX0_meet_3 rfl rfl ?_
    refine V_geti (pc := 4) fk_X0_34 rfl dX0_meet_4 k_h0 rfl ?_
    refine V_icmp_ge (pc := 7) (tgt := 114) dX0_meet_7 (by decide) ?_ ?_
    · refine V_exit r2 ?_
      exact V_ret (pc := 114) dX0_meet_114 rfl (hk := fun h => h)
    · refine V_iload_n (pc := 10) dX0_meet_10 rfl rfl ?_
      refine V_iconst (pc := 11) (v := (1 : Int32)) dX0_meet_11 rfl ?_
      refine V_iadd (pc := 12) dX0_meet_12 ?_
      refine V_istore_n (pc := 13) (vs' := [some (.ref (wB w + h0)), some (.ref (wB w + h1)), some (.int a2.1), some (.int (a2.1 + (1 : Int32)))]) dX0_meet_13 rfl (Nat.le_of_ble_eq_true rfl) (Nat.le_of_ble_eq_true rfl) rfl ?_
      exact hL14 a2.1 n ((a2.1 + (1 : Int32)), a2.2)
  refine V_iconst (pc := 0) (v := (0 : Int32)) dX0_meet_0 rfl ?_
  refine V_istore_n (pc := 1) (vs' := [some (.ref (wB w + h0)), some (.ref (wB w + h1)), some (.int (0 : Int32)), none]) dX0_meet_1 rfl (Nat.le_of_ble_eq_true rfl) (Nat.le_of_ble_eq_true rfl) rfl ?_
  exact hL2 n ((0 : Int32), σ)
def J_X0_pass_56 (n : Nat) (h0 : Nat) (h1 : Nat) (v2 : Int32) (v3 : Int32) (v4 : Int32) (v5 : Int32) (σ : MS) : Option ((Int32 × Int32 × MS) ⊕ (Int32 × MS)) := some (.inl (v4, (v5 + (1 : Int32)), σ))
def L_X0_pass_6 (n : Nat) (h0 : Nat) (h1 : Nat) (v2 : Int32) (v3 : Int32) (σ : MS) (a6 : Int32 × Int32 × MS) : Option ((Int32 × Int32 × MS) ⊕ (Int32 × MS)) := (if v2 ≤ a6.2.1 then (some (a6.1, a6.2.2)).map Sum.inr else ((f_X0_move n h0 v3 a6.2.2).bind (fun q20 => ((f_X0_meet n h0 h1 q20.2).bind (fun q25 => (ltM (mu q25.2 h0 5 (mnI (9999 : Int32) ((q25.2 h0 5) + (1 : Int32)))) (fun s41 => (if (s41 h0 7) = (a6.2.2 h0 7) then J_X0_pass_56 n h0 h1 v2 v3 (a6.1 + (1 : Int32)) a6.2.1 s41 else J_X0_pass_56 n h0 h1 v2 v3 a6.1 a6.2.1 s41))))))))
def f_X0_pass (n : Nat) (h0 : Nat) (h1 : Nat) (p2 : Int32) (p3 : Int32) (σ : MS) : Option (Int32 × MS) := itr (L_X0_pass_6 n h0 h1 p2 p3 σ) n ((0 : Int32), (0 : Int32), σ)
set_option maxRecDepth 20000 in
set_option maxHeartbeats 2000000 in
theorem c_X0_pass (w : TG) (n : Nat) (h0 : Nat) (h1 : Nat) (p2 : Int32) (p3 : Int32) (k_h0 : kd h0 = 4) (k_h1 : kd h1 = 6) (σ : MS) : MC m_X0_pass w [.ref (wB w + h0), .ref (wB w + h1), .int p2, .int p3] σ (f_X0_pass n h0 h1 p2 p3 σ) := by
  refine V_meth (by decide +kernel) (Nat.le_of_ble_eq_true rfl) (by intro v hv; simp only [List.mem_cons, List.not_mem_nil, or_false] at hv; rcases hv with rfl | rfl | rfl | rfl <;> rfl) (fun g x => ?_)
  show VV m_X0_pass w g 0 0 (QM m_X0_pass w g x) (fun b : Int32 × MS => b = x) 0 [some (.ref (wB w + h0)), some (.ref (wB w + h1)), some (.int p2), some (.int p3), none, none, none] [] σ (f_X0_pass n h0 h1 p2 p3 σ)
  have hL6 : ∀  (n0 : Nat) (a : Int32 × Int32 × MS), VV m_X0_pass w g 0 0 (QM m_X0_pass w g x) (fun b : Int32 × MS => b = x) 6 [some (.ref (wB w + h0)), some (.ref (wB w + h1)), some (.int p2), some (.int p3), some (.int a.1), some (.int a.2.1), none] [] a.2.2 (itr (L_X0_pass_6 n h0 h1 p2 p3 σ) n0 a) := by
    refine V_itr (vf := fun a : Int32 × Int32 × MS => [some (.ref (wB w + h0)), some (.ref (wB w + h1)), some (.int p2), some (.int p3), some (.int a.1), some (.int a.2.1), none]) (sf := fun a : Int32 × Int32 × MS => a.2.2) (fun κ6 b6 r6 a6 => ?_)
    show VV m_X0_pass w g 0 0 (QM m_X0_pass w g x) κ6 6 [some (.ref (wB w + h0)), some (.ref (wB w + h1)), some (.int p2), some (.int p3), some (.int a6.1), some (.int a6.2.1), none] [] a6.2.2 (L_X0_pass_6 n h0 h1 p2 p3 σ a6)
    have hJ56 : ∀ (v4 : Int32) (v5 : Int32) (σ : MS), VV m_X0_pass w g 0 0 (QM m_X0_pass w g x) κ6 56 [some (.ref (wB w + h0)), some (.ref (wB w + h1)), some (.int p2), some (.int p3), some (.int v4), some (.int v5), none] [] σ (J_X0_pass_56 n h0 h1 p2 p3 v4 v5 σ) := by
      intro v4 v5 σ
      refine V_iinc (pc := 56) (v := (v5 + (1 : Int32))) (vs' := [some (.ref (wB w + h0)), some (.ref (wB w + h1)), some (.int p2), some (.int p3), some (.int v4), some (.int (v5 + (1 : Int32))), none]) dX0_pass_56 (Nat.le_of_ble_eq_true rfl) rfl rfl rfl ?_
      refine V_goto (pc := 59) (tgt := 6) dX0_pass_59 (by decide) ?_
      exact V_back (b6 (v4, (v5 + (1 : Int32)), σ))
    refine V_iload (pc := 6) dX0_pass_6 rfl ?_
    refine V_iload_n (pc := 8) dX0_pass_8 rfl rfl ?_
    refine V_icmp_ge (pc := 9) (tgt := 62) dX0_pass_9 (by decide) ?_ ?_
    · refine V_exit r6 ?_
      refine V_iload (pc := 62) dX0_pass_62 rfl ?_
      exact V_ireti (pc := 64) dX0_pass_64 rfl (hk := fun h => h)
    · refine V_aload_n (pc := 12) dX0_pass_12 rfl rfl ?_
      refine V_geti (pc := 13) fk_X0_9 rfl dX0_pass_13 k_h0 rfl ?_
      refine V_istore (pc := 16) (vs' := [some (.ref (wB w + h0)), some (.ref (wB w + h1)), some (.int p2), some (.int p3), some (.int a6.1), some (.int a6.2.1), some (.int (a6.2.2 h0 7))]) dX0_pass_16 (Nat.le_of_ble_eq_true rfl) (Nat.le_of_ble_eq_true rfl) rfl ?_
      refine V_aload_n (pc := 18) dX0_pass_18 rfl rfl ?_
      refine V_iload_n (pc := 19) dX0_pass_19 rfl rfl ?_
      refine V_callSv (pc := 20) (As := [.ref (wB w + h0), .int p3]) (rest := []) (c_X0_move w n h0 p3 k_h0 a6.2.2) cs_X0_15 rfl rfl dX0_pass_20 ⟨Nat.le_of_ble_eq_true rfl, Nat.le_of_ble_eq_true rfl⟩ rfl rfl (Nat.le_of_ble_eq_true rfl) (Nat.le_of_ble_eq_true rfl) (Nat.le_of_ble_eq_true rfl) rfl (fun q20 => ?_)
      refine V_aload_n (pc := 23) dX0_pass_23 rfl rfl ?_
      refine V_aload_n (pc := 24) dX0_pass_24 rfl rfl ?_
      refine V_callSv (pc := 25) (As := [.ref (wB w + h0), .ref (wB w + h1)]) (rest := []) (c_X0_meet w n h0 h1 k_h0 k_h1 q20.2) cs_X0_21 rfl rfl dX0_pass_25 ⟨Nat.le_of_ble_eq_true rfl, Nat.le_of_ble_eq_true rfl⟩ rfl rfl (Nat.le_of_ble_eq_true rfl) (Nat.le_of_ble_eq_true rfl) (Nat.le_of_ble_eq_true rfl) rfl (fun q25 => ?_)
      refine V_aload_n (pc := 28) dX0_pass_28 rfl rfl ?_
      refine V_sipush (pc := 29) (v := (9999 : Int32)) dX0_pass_29 rfl ?_
      refine V_aload_n (pc := 32) dX0_pass_32 rfl rfl ?_
      refine V_geti (pc := 33) fk_X0_25 rfl dX0_pass_33 k_h0 rfl ?_
      refine V_iconst (pc := 36) (v := (1 : Int32)) dX0_pass_36 rfl ?_
      refine V_iadd (pc := 37) dX0_pass_37 ?_
      refine V_mmin (pc := 38) dX0_pass_38 rfl mw_X0_28 (Nat.le_of_ble_eq_true rfl) (Nat.le_of_ble_eq_true rfl) (Nat.le_of_ble_eq_true rfl) (Nat.le_of_ble_eq_true rfl) ?_
      refine V_puti (pc := 41) fp_X0_25 rfl dX0_pass_41 k_h0 rfl (fun s41 => ?_)
      refine V_aload_n (pc := 44) dX0_pass_44 rfl rfl ?_
      refine V_geti (pc := 45) fk_X0_9 rfl dX0_pass_45 k_h0 rfl ?_
      refine V_iload (pc := 48) dX0_pass_48 rfl ?_
      refine V_icmp_ne (pc := 50) (tgt := 56) dX0_pass_50 (by decide) ?_ ?_
      · refine V_sub (vs' := [some (.ref (wB w + h0)), some (.ref (wB w + h1)), some (.int p2), some (.int p3), some (.int a6.1), some (.int a6.2.1), none]) (show vless _ _ from ⟨rfl, ⟨rfl, ⟨rfl, ⟨rfl, ⟨rfl, ⟨rfl, trivial⟩⟩⟩⟩⟩⟩) rfl ?_
        exact hJ56 a6.1 a6.2.1 s41
      · refine V_iinc (pc := 53) (v := (a6.1 + (1 : Int32))) (vs' := [some (.ref (wB w + h0)), some (.ref (wB w + h1)), some (.int p2), some (.int p3), some (.int (a6.1 + (1 : Int32))), some (.int a6.2.1), some (.int (a6.2.2 h0 7))]) dX0_pass_53 (Nat.le_of_ble_eq_true rfl) rfl rfl rfl ?_
        refine V_sub (vs' := [some (.ref (wB w + h0)), some (.ref (wB w + h1)), some (.int p2), some (.int p3), some (.int (a6.1 + (1 : Int32))), some (.int a6.2.1), none]) (show vless _ _ from ⟨rfl, ⟨rfl, ⟨rfl, ⟨rfl, ⟨rfl, ⟨rfl, trivial⟩⟩⟩⟩⟩⟩) rfl ?_
        exact hJ56 (a6.1 + (1 : Int32)) a6.2.1 s41
  refine V_iconst (pc := 0) (v := (0 : Int32)) dX0_pass_0 rfl ?_
  refine V_istore (pc := 1) (vs' := [some (.ref (wB w + h0)), some (.ref (wB w + h1)), some (.int p2), some (.int p3), some (.int (0 : Int32)), none, none]) dX0_pass_1 (Nat.le_of_ble_eq_true rfl) (Nat.le_of_ble_eq_true rfl) rfl ?_
  refine V_iconst (pc := 3) (v := (0 : Int32)) dX0_pass_3 rfl ?_
  refine V_istore (pc := 4) (vs' := [some (.ref (wB w + h0)), some (.ref (wB w + h1)), some (.int p2), some (.int p3), some (.int (0 : Int32)), some (.int (0 : Int32)), none]) dX0_pass_4 (Nat.le_of_ble_eq_true rfl) (Nat.le_of_ble_eq_true rfl) rfl ?_
  exact hL6 n ((0 : Int32), (0 : Int32), σ)
def J_X1_foresee_94 (n : Nat) (v1 : Int32) (v2 : Int32) (v3 : Int32) (v4 : Int32) (σ : MS) : Option ((Int32 × MS) ⊕ ((Int32 × MS) ⊕ (Int32 × MS))) := some (.inl ((v4 + (1 : Int32)), σ))
def L_X1_foresee_25 (n : Nat) (v1 : Int32) (v2 : Int32) (v3 : Int32) (σ : MS) (a25 : Int32 × MS) : Option ((Int32 × MS) ⊕ ((Int32 × MS) ⊕ (Int32 × MS))) := (if (a25.2 3 0) ≤ a25.1 then (some (.inl ((v3 + (1 : Int32)), a25.2))).map Sum.inr else ((f_X4_holds 3 v3 a25.1 a25.2).bind (fun q44 => (if q44 = 0 then ((f_X1_force n v3 a25.1 v1 v2 a25.2).bind (fun q56 => (if q56.1 ≤ 0 then J_X1_foresee_94 n v1 v2 v3 a25.1 q56.2 else ((f_X1_reach n v3 a25.1 v1 v2 q56.2).bind (fun q75 => (if q75.1 ≤ (q56.2 3 5) then J_X1_foresee_94 n v1 v2 v3 a25.1 q75.2 else (if inb v3 8 then (if inb v3 8 then ltM (mu q75.2 54 (ix v3) ((q75.2 54 (ix v3)) ||| (shlI (1 : Int32) a25.1))) (fun s93 => J_X1_foresee_94 n v1 v2 v3 a25.1 s93) else none) else none))))))) else J_X1_foresee_94 n v1 v2 v3 a25.1 a25.2))))
def L_X1_foresee_2 (n : Nat) (v1 : Int32) (v2 : Int32) (σ : MS) (a2 : Int32 × MS) : Option ((Int32 × MS) ⊕ (Int32 × MS)) := (if (a2.2 3 0) ≤ a2.1 then (some (0, a2.2)).map Sum.inr else (if inb a2.1 8 then ltM (mu a2.2 54 (ix a2.1) (0 : Int32)) (fun s19 => itr (L_X1_foresee_25 n v1 v2 a2.1 σ) n ((a2.1 + (1 : Int32)), s19)) else none))
def f_X1_foresee (n : Nat) (p1 : Int32) (p2 : Int32) (σ : MS) : Option (Int32 × MS) := itr (L_X1_foresee_2 n p1 p2 σ) n ((0 : Int32), σ)
set_option maxRecDepth 20000 in
set_option maxHeartbeats 2000000 in
theorem c_X1_foresee (w : TG) (n : Nat) (p1 : Int32) (p2 : Int32) (σ : MS) : MC m_X1_foresee w [.ref (wB w + 53), .int p1, .int p2] σ (f_X1_foresee n p1 p2 σ) := by
  refine V_meth (by decide +kernel) (Nat.le_of_ble_eq_true rfl) (by intro v hv; simp only [List.mem_cons, List.not_mem_nil, or_false] at hv; rcases hv with rfl | rfl | rfl <;> rfl) (fun g x => ?_)
  show VV m_X1_foresee w g 0 0 (QM m_X1_foresee w g x) (fun b : Int32 × MS => b = x) 0 [some (.ref (wB w + 53)), some (.int p1), some (.int p2), none, none] [] σ (f_X1_foresee n p1 p2 σ)
  have hL2 : ∀  (n0 : Nat) (a : Int32 × MS), VV m_X1_foresee w g 0 0 (QM m_X1_foresee w g x) (fun b : Int32 × MS => b = x) 2 [some (.ref (wB w + 53)), some (.int p1), some (.int p2), some (.int a.1), none] [] a.2 (itr (L_X1_foresee_2 n p1 p2 σ) n0 a) := by
    refine V_itr (vf := fun a : Int32 × MS => [some (.ref (wB w + 53)), some (.int p1), some (.int p2), some (.int a.1), none]) (sf := fun a : Int32 × MS => a.2) (fun κ2 b2 r2 a2 => ?_)
    show VV m_X1_foresee w g 0 0 (QM m_X1_foresee w g x) κ2 2 [some (.ref (wB w + 53)), some (.int p1), some (.int p2), some (.int a2.1), none] [] a2.2 (L_X1_foresee_2 n p1 p2 σ a2)
    have hL25 : ∀ (v3 : Int32) (n0 : Nat) (a : Int32 × MS), VV m_X1_foresee w g 0 0 (QM m_X1_foresee w g x) κ2 25 [some (.ref (wB w + 53)), some (.int p1), some (.int p2), some (.int v3), some (.int a.1)] [] a.2 (itr (L_X1_foresee_25 n p1 p2 v3 σ) n0 a) := by
      intro v3
      refine V_itr (vf := fun a : Int32 × MS => [some (.ref (wB w + 53)), some (.int p1), some (.int p2), some (.int v3), some (.int a.1)]) (sf := fun a : Int32 × MS => a.2) (fun κ25 b25 r25 a25 => ?_)
      show VV m_X1_foresee w g 0 0 (QM m_X1_foresee w g x) κ25 25 [some (.ref (wB w + 53)), some (.int p1), some (.int p2), some (.int v3), some (.int a25.1)] [] a25.2 (L_X1_foresee_25 n p1 p2 v3 σ a25)
      have hJ94 : ∀ (v4 : Int32) (σ : MS), VV m_X1_foresee w g 0 0 (QM m_X1_foresee w g x) κ25 94 [some (.ref (wB w + 53)), some (.int p1), some (.int p2), some (.int v3), some (.int v4)] [] σ (J_X1_foresee_94 n p1 p2 v3 v4 σ) := by
        intro v4 σ
        refine V_iinc (pc := 94) (v := (v4 + (1 : Int32))) (vs' := [some (.ref (wB w + 53)), some (.int p1), some (.int p2), some (.int v3), some (.int (v4 + (1 : Int32)))]) dX1_foresee_94 (Nat.le_of_ble_eq_true rfl) rfl rfl rfl ?_
        refine V_goto (pc := 97) (tgt := 25) dX1_foresee_97 (by decide) ?_
        exact V_back (b25 ((v4 + (1 : Int32)), σ))
      refine V_iload (pc := 25) dX1_foresee_25 rfl ?_
      refine V_aload_n (pc := 27) dX1_foresee_27 rfl rfl ?_
      refine V_getr (pc := 28) (t := 3) fk_X1_15 rfl dX1_foresee_28 kc_53 rfl ?_
      refine V_geti (pc := 31) fk_X1_29 rfl dX1_foresee_31 kc_3 rfl ?_
      refine V_icmp_ge (pc := 34) (tgt := 100) dX1_foresee_34 (by decide) ?_ ?_
      · refine V_exit r25 ?_
        refine V_iinc (pc := 100) (v := (v3 + (1 : Int32))) (vs' := [some (.ref (wB w + 53)), some (.int p1), some (.int p2), some (.int (v3 + (1 : Int32))), some (.int a25.1)]) dX1_foresee_100 (Nat.le_of_ble_eq_true rfl) rfl rfl rfl ?_
        refine V_goto (pc := 103) (tgt := 2) dX1_foresee_103 (by decide) ?_
        refine V_sub (vs' := [some (.ref (wB w + 53)), some (.int p1), some (.int p2), some (.int (v3 + (1 : Int32))), none]) (show vless _ _ from ⟨rfl, ⟨rfl, ⟨rfl, ⟨rfl, trivial⟩⟩⟩⟩) rfl ?_
        exact V_back (b2 ((v3 + (1 : Int32)), a25.2))
      · refine V_aload_n (pc := 37) dX1_foresee_37 rfl rfl ?_
        refine V_getr (pc := 38) (t := 3) fk_X1_15 rfl dX1_foresee_38 kc_53 rfl ?_
        refine V_iload_n (pc := 41) dX1_foresee_41 rfl rfl ?_
        refine V_iload (pc := 42) dX1_foresee_42 rfl ?_
        refine V_callVpi (pc := 44) (As := [.int v3, .int a25.1]) (rest := []) (c_X4_holds w 3 v3 a25.1 kc_3 a25.2) cw_X1_88 rfl rfl dX1_foresee_44 kc_3 rfl ⟨Nat.le_of_ble_eq_true rfl, Nat.le_of_ble_eq_true rfl⟩ rfl rfl (Nat.le_of_ble_eq_true rfl) (Nat.le_of_ble_eq_true rfl) (Nat.le_of_ble_eq_true rfl) rfl (fun q44 => ?_)
        refine V_if_ne (pc := 47) (tgt := 94) dX1_foresee_47 (by decide) ?_ ?_
        · exact hJ94 a25.1 a25.2
        · refine V_aload_n (pc := 50) dX1_foresee_50 rfl rfl ?_
          refine V_iload_n (pc := 51) dX1_foresee_51 rfl rfl ?_
          refine V_iload (pc := 52) dX1_foresee_52 rfl ?_
          refine V_iload_n (pc := 54) dX1_foresee_54 rfl rfl ?_
          refine V_iload_n (pc := 55) dX1_foresee_55 rfl rfl ?_
          refine V_callVi (pc := 56) (As := [.int v3, .int a25.1, .int p1, .int p2]) (rest := []) (c_X1_force w n v3 a25.1 p1 p2 a25.2) cw_X1_39 rfl rfl dX1_foresee_56 kc_53 rfl ⟨Nat.le_of_ble_eq_true rfl, Nat.le_of_ble_eq_true rfl⟩ rfl rfl (Nat.le_of_ble_eq_true rfl) (Nat.le_of_ble_eq_true rfl) (Nat.le_of_ble_eq_true rfl) rfl (fun q56 => ?_)
          refine V_if_le (pc := 59) (tgt := 94) dX1_foresee_59 (by decide) ?_ ?_
          · exact hJ94 a25.1 q56.2
          · refine V_aload_n (pc := 62) dX1_foresee_62 rfl rfl ?_
            refine V_getr (pc := 63) (t := 3) fk_X1_15 rfl dX1_foresee_63 kc_53 rfl ?_
            refine V_geti (pc := 66) fk_X1_71 rfl dX1_foresee_66 kc_3 rfl ?_
            refine V_aload_n (pc := 69) dX1_foresee_69 rfl rfl ?_
            refine V_iload_n (pc := 70) dX1_foresee_70 rfl rfl ?_
            refine V_iload (pc := 71) dX1_foresee_71 rfl ?_
            refine V_iload_n (pc := 73) dX1_foresee_73 rfl rfl ?_
            refine V_iload_n (pc := 74) dX1_foresee_74 rfl rfl ?_
            refine V_callVi (pc := 75) (As := [.int v3, .int a25.1, .int p1, .int p2]) (rest := [.int (q56.2 3 5)]) (c_X1_reach w n v3 a25.1 p1 p2 q56.2) cw_X1_43 rfl rfl dX1_foresee_75 kc_53 rfl ⟨Nat.le_of_ble_eq_true rfl, Nat.le_of_ble_eq_true rfl⟩ rfl rfl (Nat.le_of_ble_eq_true rfl) (Nat.le_of_ble_eq_true rfl) (Nat.le_of_ble_eq_true rfl) rfl (fun q75 => ?_)
            refine V_icmp_ge (pc := 78) (tgt := 94) dX1_foresee_78 (by decide) ?_ ?_
            · exact hJ94 a25.1 q75.2
            · refine V_aload_n (pc := 81) dX1_foresee_81 rfl rfl ?_
              refine V_getr (pc := 82) (t := 54) fk_X1_9 rfl dX1_foresee_82 kc_53 rfl ?_
              refine V_iload_n (pc := 85) dX1_foresee_85 rfl rfl ?_
              refine V_dup2 (pc := 86) dX1_foresee_86 rfl rfl ?_
              refine V_iald (pc := 87) (n := 8) dX1_foresee_87 kc_54 lc_54 ?_
              refine V_iconst (pc := 88) (v := (1 : Int32)) dX1_foresee_88 rfl ?_
              refine V_iload (pc := 89) dX1_foresee_89 rfl ?_
              refine V_ishl (pc := 91) dX1_foresee_91 ?_
              refine V_ior (pc := 92) dX1_foresee_92 ?_
              refine V_iast (pc := 93) (n := 8) dX1_foresee_93 kc_54 lc_54 (fun s93 => ?_)
              exact hJ94 a25.1 s93
    refine V_iload_n (pc := 2) dX1_foresee_2 rfl rfl ?_
    refine V_aload_n (pc := 3) dX1_foresee_3 rfl rfl ?_
    refine V_getr (pc := 4) (t := 3) fk_X1_15 rfl dX1_foresee_4 kc_53 rfl ?_
    refine V_geti (pc := 7) fk_X1_29 rfl dX1_foresee_7 kc_3 rfl ?_
    refine V_icmp_ge (pc := 10) (tgt := 106) dX1_foresee_10 (by decide) ?_ ?_
    · refine V_exit r2 ?_
      exact V_ret (pc := 106) dX1_foresee_106 rfl (hk := fun h => h)
    · refine V_aload_n (pc := 13) dX1_foresee_13 rfl rfl ?_
      refine V_getr (pc := 14) (t := 54) fk_X1_9 rfl dX1_foresee_14 kc_53 rfl ?_
      refine V_iload_n (pc := 17) dX1_foresee_17 rfl rfl ?_
      refine V_iconst (pc := 18) (v := (0 : Int32)) dX1_foresee_18 rfl ?_
      refine V_iast (pc := 19) (n := 8) dX1_foresee_19 kc_54 lc_54 (fun s19 => ?_)
      refine V_iload_n (pc := 20) dX1_foresee_20 rfl rfl ?_
      refine V_iconst (pc := 21) (v := (1 : Int32)) dX1_foresee_21 rfl ?_
      refine V_iadd (pc := 22) dX1_foresee_22 ?_
      refine V_istore (pc := 23) (vs' := [some (.ref (wB w + 53)), some (.int p1), some (.int p2), some (.int a2.1), some (.int (a2.1 + (1 : Int32)))]) dX1_foresee_23 (Nat.le_of_ble_eq_true rfl) (Nat.le_of_ble_eq_true rfl) rfl ?_
      exact hL25 a2.1 n ((a2.1 + (1 : Int32)), s19)
  refine V_iconst (pc := 0) (v := (0 : Int32)) dX1_foresee_0 rfl ?_
  refine V_istore_n (pc := 1) (vs' := [some (.ref (wB w + 53)), some (.int p1), some (.int p2), some (.int (0 : Int32)), none]) dX1_foresee_1 rfl (Nat.le_of_ble_eq_true rfl) (Nat.le_of_ble_eq_true rfl) rfl ?_
  exact hL2 n ((0 : Int32), σ)
def J_X1_newlyWithin_37 (n : Nat) (v1 : Int32) (v2 : Int32) (v3 : Int32) (σ : MS) : Option ((Int32 × Int32) ⊕ (Int32)) := some (.inl (v2, (v3 + (1 : Int32))))
def L_X1_newlyWithin_4 (n : Nat) (v1 : Int32) (σ : MS) (a4 : Int32 × Int32) : Option ((Int32 × Int32) ⊕ (Int32)) := (if (σ 3 0) ≤ a4.2 then (some a4.1).map Sum.inr else (if (v1 &&& (shlI (1 : Int32) a4.2)) = 0 then J_X1_newlyWithin_37 n v1 a4.1 a4.2 σ else (if inb a4.2 8 then ((f_J6_bitCount_0f7a4 ((σ 54 (ix a4.2)) &&& v1) σ).bind (fun q32 => J_X1_newlyWithin_37 n v1 (a4.1 + q32) a4.2 σ)) else none)))
def f_X1_newlyWithin (n : Nat) (p1 : Int32) (σ : MS) : Option (Int32) := itr (L_X1_newlyWithin_4 n p1 σ) n ((0 : Int32), (0 : Int32))
set_option maxRecDepth 20000 in
set_option maxHeartbeats 2000000 in
theorem c_X1_newlyWithin (w : TG) (n : Nat) (p1 : Int32) (σ : MS) : MC m_X1_newlyWithin w [.ref (wB w + 53), .int p1] σ ((f_X1_newlyWithin n p1 σ).map (fun r => (r, σ))) := by
  refine V_methp (by decide +kernel) (Nat.le_of_ble_eq_true rfl) (by intro v hv; simp only [List.mem_cons, List.not_mem_nil, or_false] at hv; rcases hv with rfl | rfl <;> rfl) (fun g x => ?_)
  show VV m_X1_newlyWithin w g 0 0 (QM m_X1_newlyWithin w g x) (fun b : Int32 => (b, σ) = x) 0 [some (.ref (wB w + 53)), some (.int p1), none, none] [] σ (f_X1_newlyWithin n p1 σ)
  have hL4 : ∀  (n0 : Nat) (a : Int32 × Int32), VV m_X1_newlyWithin w g 0 0 (QM m_X1_newlyWithin w g x) (fun b : Int32 => (b, σ) = x) 4 [some (.ref (wB w + 53)), some (.int p1), some (.int a.1), some (.int a.2)] [] σ (itr (L_X1_newlyWithin_4 n p1 σ) n0 a) := by
    refine V_itr (vf := fun a : Int32 × Int32 => [some (.ref (wB w + 53)), some (.int p1), some (.int a.1), some (.int a.2)]) (sf := fun a : Int32 × Int32 => σ) (fun κ4 b4 r4 a4 => ?_)
    show VV m_X1_newlyWithin w g 0 0 (QM m_X1_newlyWithin w g x) κ4 4 [some (.ref (wB w + 53)), some (.int p1), some (.int a4.1), some (.int a4.2)] [] σ (L_X1_newlyWithin_4 n p1 σ a4)
    have hJ37 : ∀ (v2 : Int32) (v3 : Int32), VV m_X1_newlyWithin w g 0 0 (QM m_X1_newlyWithin w g x) κ4 37 [some (.ref (wB w + 53)), some (.int p1), some (.int v2), some (.int v3)] [] σ (J_X1_newlyWithin_37 n p1 v2 v3 σ) := by
      intro v2 v3
      refine V_iinc (pc := 37) (v := (v3 + (1 : Int32))) (vs' := [some (.ref (wB w + 53)), some (.int p1), some (.int v2), some (.int (v3 + (1 : Int32)))]) dX1_newlyWithin_37 (Nat.le_of_ble_eq_true rfl) rfl rfl rfl ?_
      refine V_goto (pc := 40) (tgt := 4) dX1_newlyWithin_40 (by decide) ?_
      exact V_back (b4 (v2, (v3 + (1 : Int32))))
    refine V_iload_n (pc := 4) dX1_newlyWithin_4 rfl rfl ?_
    refine V_aload_n (pc := 5) dX1_newlyWithin_5 rfl rfl ?_
    refine V_getr (pc := 6) (t := 3) fk_X1_15 rfl dX1_newlyWithin_6 kc_53 rfl ?_
    refine V_geti (pc := 9) fk_X1_29 rfl dX1_newlyWithin_9 kc_3 rfl ?_
    refine V_icmp_ge (pc := 12) (tgt := 43) dX1_newlyWithin_12 (by decide) ?_ ?_
    · refine V_exit r4 ?_
      refine V_iload_n (pc := 43) dX1_newlyWithin_43 rfl rfl ?_
      exact V_ireti (pc := 44) dX1_newlyWithin_44 rfl (hk := fun h => h)
    · refine V_iload_n (pc := 15) dX1_newlyWithin_15 rfl rfl ?_
      refine V_iconst (pc := 16) (v := (1 : Int32)) dX1_newlyWithin_16 rfl ?_
      refine V_iload_n (pc := 17) dX1_newlyWithin_17 rfl rfl ?_
      refine V_ishl (pc := 18) dX1_newlyWithin_18 ?_
      refine V_iand (pc := 19) dX1_newlyWithin_19 ?_
      refine V_if_eq (pc := 20) (tgt := 37) dX1_newlyWithin_20 (by decide) ?_ ?_
      · exact hJ37 a4.1 a4.2
      · refine V_iload_n (pc := 23) dX1_newlyWithin_23 rfl rfl ?_
        refine V_aload_n (pc := 24) dX1_newlyWithin_24 rfl rfl ?_
        refine V_getr (pc := 25) (t := 54) fk_X1_9 rfl dX1_newlyWithin_25 kc_53 rfl ?_
        refine V_iload_n (pc := 28) dX1_newlyWithin_28 rfl rfl ?_
        refine V_iald (pc := 29) (n := 8) dX1_newlyWithin_29 kc_54 lc_54 ?_
        refine V_iload_n (pc := 30) dX1_newlyWithin_30 rfl rfl ?_
        refine V_iand (pc := 31) dX1_newlyWithin_31 ?_
        refine V_callSpi (pc := 32) (As := [.int ((σ 54 (ix a4.2)) &&& p1)]) (rest := [.int a4.1]) (c_J6_bitCount_0f7a4 w ((σ 54 (ix a4.2)) &&& p1) σ) cs_X1_23 rfl rfl dX1_newlyWithin_32 ⟨Nat.le_of_ble_eq_true rfl, Nat.le_of_ble_eq_true rfl⟩ rfl rfl (Nat.le_of_ble_eq_true rfl) (Nat.le_of_ble_eq_true rfl) (Nat.le_of_ble_eq_true rfl) rfl (fun q32 => ?_)
        refine V_iadd (pc := 35) dX1_newlyWithin_35 ?_
        refine V_istore_n (pc := 36) (vs' := [some (.ref (wB w + 53)), some (.int p1), some (.int (a4.1 + q32)), some (.int a4.2)]) dX1_newlyWithin_36 rfl (Nat.le_of_ble_eq_true rfl) (Nat.le_of_ble_eq_true rfl) rfl ?_
        exact hJ37 (a4.1 + q32) a4.2
  refine V_iconst (pc := 0) (v := (0 : Int32)) dX1_newlyWithin_0 rfl ?_
  refine V_istore_n (pc := 1) (vs' := [some (.ref (wB w + 53)), some (.int p1), some (.int (0 : Int32)), none]) dX1_newlyWithin_1 rfl (Nat.le_of_ble_eq_true rfl) (Nat.le_of_ble_eq_true rfl) rfl ?_
  refine V_iconst (pc := 2) (v := (0 : Int32)) dX1_newlyWithin_2 rfl ?_
  refine V_istore_n (pc := 3) (vs' := [some (.ref (wB w + 53)), some (.int p1), some (.int (0 : Int32)), some (.int (0 : Int32))]) dX1_newlyWithin_3 rfl (Nat.le_of_ble_eq_true rfl) (Nat.le_of_ble_eq_true rfl) rfl ?_
  exact hL4 n ((0 : Int32), (0 : Int32))
def J_X1_binding_57 (n : Nat) (v2 : Int32) (v3 : Int32) (v4 : Int32) (v5 : Int32) (σ : MS) : Option ((Int32 × Int32 × Int32) ⊕ (Int32 × MS)) := some (.inl (v3, v4, (v5 + (1 : Int32))))
def L_X1_binding_14 (n : Nat) (v2 : Int32) (σ : MS) (a14 : Int32 × Int32 × Int32) : Option ((Int32 × Int32 × Int32) ⊕ (Int32 × MS)) := ((f_X4_everybody 3 σ).bind (fun q20 => (if q20 < a14.2.2 then (some (a14.1, σ)).map Sum.inr else ((f_J6_bitCount_0f7a4 a14.2.2 σ).bind (fun q28 => (if q28 = v2 then ((f_X1_newlyWithin n a14.2.2 σ).bind (fun q38 => (if q38 ≤ a14.2.1 then J_X1_binding_57 n v2 a14.1 a14.2.1 a14.2.2 σ else ((f_X1_newlyWithin n a14.2.2 σ).bind (fun q49 => J_X1_binding_57 n v2 a14.2.2 q49 a14.2.2 σ))))) else J_X1_binding_57 n v2 a14.1 a14.2.1 a14.2.2 σ))))))
def f_X1_binding (n : Nat) (p1 : Int32) (p2 : Int32) (σ : MS) : Option (Int32 × MS) := ((f_X1_foresee n p1 p2 σ).bind (fun q3 => itr (L_X1_binding_14 n p2 q3.2) n ((-1 : Int32), (-1 : Int32), (0 : Int32))))
set_option maxRecDepth 20000 in
set_option maxHeartbeats 2000000 in
theorem c_X1_binding (w : TG) (n : Nat) (p1 : Int32) (p2 : Int32) (σ : MS) : MC m_X1_binding w [.ref (wB w + 53), .int p1, .int p2] σ (f_X1_binding n p1 p2 σ) := by
  refine V_meth (by decide +kernel) (Nat.le_of_ble_eq_true rfl) (by intro v hv; simp only [List.mem_cons, List.not_mem_nil, or_false] at hv; rcases hv with rfl | rfl | rfl <;> rfl) (fun g x => ?_)
  show VV m_X1_binding w g 0 0 (QM m_X1_binding w g x) (fun b : Int32 × MS => b = x) 0 [some (.ref (wB w + 53)), some (.int p1), some (.int p2), none, none, none] [] σ (f_X1_binding n p1 p2 σ)
  have hL14 : ∀ (σ : MS) (n0 : Nat) (a : Int32 × Int32 × Int32), VV m_X1_binding w g 0 0 (QM m_X1_binding w g x) (fun b : Int32 × MS => b = x) 14 [some (.ref (wB w + 53)), none, some (.int p2), some (.int a.1), some (.int a.2.1), some (.int a.2.2)] [] σ (itr (L_X1_binding_14 n p2 σ) n0 a) := by
    intro σ
    refine V_itr (vf := fun a : Int32 × Int32 × Int32 => [some (.ref (wB w + 53)), none, some (.int p2), some (.int a.1), some (.int a.2.1), some (.int a.2.2)]) (sf := fun a : Int32 × Int32 × Int32 => σ) (fun κ14 b14 r14 a14 => ?_)
    show VV m_X1_binding w g 0 0 (QM m_X1_binding w g x) κ14 14 [some (.ref (wB w + 53)), none, some (.int p2), some (.int a14.1), some (.int a14.2.1), some (.int a14.2.2)] [] σ (L_X1_binding_14 n p2 σ a14)
    have hJ57 : ∀ (v3 : Int32) (v4 : Int32) (v5 : Int32) (σ : MS), VV m_X1_binding w g 0 0 (QM m_X1_binding w g x) κ14 57 [some (.ref (wB w + 53)), none, some (.int p2), some (.int v3), some (.int v4), some (.int v5)] [] σ (J_X1_binding_57 n p2 v3 v4 v5 σ) := by
      intro v3 v4 v5 σ
      refine V_iinc (pc := 57) (v := (v5 + (1 : Int32))) (vs' := [some (.ref (wB w + 53)), none, some (.int p2), some (.int v3), some (.int v4), some (.int (v5 + (1 : Int32)))]) dX1_binding_57 (Nat.le_of_ble_eq_true rfl) rfl rfl rfl ?_
      refine V_goto (pc := 60) (tgt := 14) dX1_binding_60 (by decide) ?_
      exact V_back (b14 (v3, v4, (v5 + (1 : Int32))))
    refine V_iload (pc := 14) dX1_binding_14 rfl ?_
    refine V_aload_n (pc := 16) dX1_binding_16 rfl rfl ?_
    refine V_getr (pc := 17) (t := 3) fk_X1_15 rfl dX1_binding_17 kc_53 rfl ?_
    refine V_callVpi (pc := 20) (As := []) (rest := [.int a14.2.2]) (c_X4_everybody w 3 kc_3 σ) cw_X1_81 rfl rfl dX1_binding_20 kc_3 rfl ⟨Nat.le_of_ble_eq_true rfl, Nat.le_of_ble_eq_true rfl⟩ rfl rfl (Nat.le_of_ble_eq_true rfl) (Nat.le_of_ble_eq_true rfl) (Nat.le_of_ble_eq_true rfl) rfl (fun q20 => ?_)
    refine V_icmp_gt (pc := 23) (tgt := 63) dX1_binding_23 (by decide) ?_ ?_
    · refine V_exit r14 ?_
      refine V_iload_n (pc := 63) dX1_binding_63 rfl rfl ?_
      exact V_ireti (pc := 64) dX1_binding_64 rfl (hk := fun h => h)
    · refine V_iload (pc := 26) dX1_binding_26 rfl ?_
      refine V_callSpi (pc := 28) (As := [.int a14.2.2]) (rest := []) (c_J6_bitCount_0f7a4 w a14.2.2 σ) cs_X1_23 rfl rfl dX1_binding_28 ⟨Nat.le_of_ble_eq_true rfl, Nat.le_of_ble_eq_true rfl⟩ rfl rfl (Nat.le_of_ble_eq_true rfl) (Nat.le_of_ble_eq_true rfl) (Nat.le_of_ble_eq_true rfl) rfl (fun q28 => ?_)
      refine V_iload_n (pc := 31) dX1_binding_31 rfl rfl ?_
      refine V_icmp_ne (pc := 32) (tgt := 57) dX1_binding_32 (by decide) ?_ ?_
      · exact hJ57 a14.1 a14.2.1 a14.2.2 σ
      · refine V_aload_n (pc := 35) dX1_binding_35 rfl rfl ?_
        refine V_iload (pc := 36) dX1_binding_36 rfl ?_
        refine V_callVpi (pc := 38) (As := [.int a14.2.2]) (rest := []) (c_X1_newlyWithin w n a14.2.2 σ) cw_X1_85 rfl rfl dX1_binding_38 kc_53 rfl ⟨Nat.le_of_ble_eq_true rfl, Nat.le_of_ble_eq_true rfl⟩ rfl rfl (Nat.le_of_ble_eq_true rfl) (Nat.le_of_ble_eq_true rfl) (Nat.le_of_ble_eq_true rfl) rfl (fun q38 => ?_)
        refine V_iload (pc := 41) dX1_binding_41 rfl ?_
        refine V_icmp_le (pc := 43) (tgt := 57) dX1_binding_43 (by decide) ?_ ?_
        · exact hJ57 a14.1 a14.2.1 a14.2.2 σ
        · refine V_aload_n (pc := 46) dX1_binding_46 rfl rfl ?_
          refine V_iload (pc := 47) dX1_binding_47 rfl ?_
          refine V_callVpi (pc := 49) (As := [.int a14.2.2]) (rest := []) (c_X1_newlyWithin w n a14.2.2 σ) cw_X1_85 rfl rfl dX1_binding_49 kc_53 rfl ⟨Nat.le_of_ble_eq_true rfl, Nat.le_of_ble_eq_true rfl⟩ rfl rfl (Nat.le_of_ble_eq_true rfl) (Nat.le_of_ble_eq_true rfl) (Nat.le_of_ble_eq_true rfl) rfl (fun q49 => ?_)
          refine V_istore (pc := 52) (vs' := [some (.ref (wB w + 53)), none, some (.int p2), some (.int a14.1), some (.int q49), some (.int a14.2.2)]) dX1_binding_52 (Nat.le_of_ble_eq_true rfl) (Nat.le_of_ble_eq_true rfl) rfl ?_
          refine V_iload (pc := 54) dX1_binding_54 rfl ?_
          refine V_istore_n (pc := 56) (vs' := [some (.ref (wB w + 53)), none, some (.int p2), some (.int a14.2.2), some (.int q49), some (.int a14.2.2)]) dX1_binding_56 rfl (Nat.le_of_ble_eq_true rfl) (Nat.le_of_ble_eq_true rfl) rfl ?_
          exact hJ57 a14.2.2 q49 a14.2.2 σ
  refine V_aload_n (pc := 0) dX1_binding_0 rfl rfl ?_
  refine V_iload_n (pc := 1) dX1_binding_1 rfl rfl ?_
  refine V_iload_n (pc := 2) dX1_binding_2 rfl rfl ?_
  refine V_callVv (pc := 3) (As := [.int p1, .int p2]) (rest := []) (c_X1_foresee w n p1 p2 σ) cw_X1_77 rfl rfl dX1_binding_3 kc_53 rfl ⟨Nat.le_of_ble_eq_true rfl, Nat.le_of_ble_eq_true rfl⟩ rfl rfl (Nat.le_of_ble_eq_true rfl) (Nat.le_of_ble_eq_true rfl) (Nat.le_of_ble_eq_true rfl) rfl (fun q3 => ?_)
  refine V_iconst (pc := 6) (v := (-1 : Int32)) dX1_binding_6 rfl ?_
  refine V_istore_n (pc := 7) (vs' := [some (.ref (wB w + 53)), some (.int p1), some (.int p2), some (.int (-1 : Int32)), none, none]) dX1_binding_7 rfl (Nat.le_of_ble_eq_true rfl) (Nat.le_of_ble_eq_true rfl) rfl ?_
  refine V_iconst (pc := 8) (v := (-1 : Int32)) dX1_binding_8 rfl ?_
  refine V_istore (pc := 9) (vs' := [some (.ref (wB w + 53)), some (.int p1), some (.int p2), some (.int (-1 : Int32)), some (.int (-1 : Int32)), none]) dX1_binding_9 (Nat.le_of_ble_eq_true rfl) (Nat.le_of_ble_eq_true rfl) rfl ?_
  refine V_iconst (pc := 11) (v := (0 : Int32)) dX1_binding_11 rfl ?_
  refine V_istore (pc := 12) (vs' := [some (.ref (wB w + 53)), some (.int p1), some (.int p2), some (.int (-1 : Int32)), some (.int (-1 : Int32)), some (.int (0 : Int32))]) dX1_binding_12 (Nat.le_of_ble_eq_true rfl) (Nat.le_of_ble_eq_true rfl) rfl ?_
  refine V_sub (vs' := [some (.ref (wB w + 53)), none, some (.int p2), some (.int (-1 : Int32)), some (.int (-1 : Int32)), some (.int (0 : Int32))]) (show vless _ _ from ⟨rfl, ⟨rfl, ⟨rfl, ⟨rfl, ⟨rfl, trivial⟩⟩⟩⟩⟩) rfl ?_
  exact hL14 q3.2 n ((-1 : Int32), (-1 : Int32), (0 : Int32))
def J_X8_areLovers_29 (n : Nat) (t0 : Int32) (σ : MS) : Option (Int32) := (if t0 = 0 ∨ t0 = 1 then some t0 else none)
def J_X8_areLovers_28 (n : Nat)  (σ : MS) : Option (Int32) := J_X8_areLovers_29 n (0 : Int32) σ
def f_X8_areLovers (n : Nat) (p1 : Int32) (p2 : Int32) (σ : MS) : Option (Int32) := ((f_X8_gladder n p1 σ).bind (fun q2 => (if (q2 &&& (shlI (1 : Int32) p2)) = 0 then J_X8_areLovers_28 n  σ else ((f_X8_gladder n p2 σ).bind (fun q14 => (if (q14 &&& (shlI (1 : Int32) p1)) = 0 then J_X8_areLovers_28 n  σ else J_X8_areLovers_29 n (1 : Int32) σ))))))
set_option maxRecDepth 20000 in
set_option maxHeartbeats 2000000 in
theorem c_X8_areLovers (w : TG) (n : Nat) (p1 : Int32) (p2 : Int32) (σ : MS) : MC m_X8_areLovers w [.ref (wB w + 56), .int p1, .int p2] σ ((f_X8_areLovers n p1 p2 σ).map (fun r => (r, σ))) := by
  refine V_methp (by decide +kernel) (Nat.le_of_ble_eq_true rfl) (by intro v hv; simp only [List.mem_cons, List.not_mem_nil, or_false] at hv; rcases hv with rfl | rfl | rfl <;> rfl) (fun g x => ?_)
  show VV m_X8_areLovers w g 0 0 (QM m_X8_areLovers w g x) (fun b : Int32 => (b, σ) = x) 0 [some (.ref (wB w + 56)), some (.int p1), some (.int p2)] [] σ (f_X8_areLovers n p1 p2 σ)
  have hJ29 : ∀ (t0 : Int32), VV m_X8_areLovers w g 0 0 (QM m_X8_areLovers w g x) (fun b : Int32 => (b, σ) = x) 29 [none, none, none] [.int t0] σ (J_X8_areLovers_29 n t0 σ) := by
    intro t0
    exact V_iretZ (pc := 29) dX8_areLovers_29 rfl (hk := fun h => h)
  have hJ28 : ∀ (_ : Unit), VV m_X8_areLovers w g 0 0 (QM m_X8_areLovers w g x) (fun b : Int32 => (b, σ) = x) 28 [none, none, none] [] σ (J_X8_areLovers_28 n  σ) := by
    intro _
    refine V_iconst (pc := 28) (v := (0 : Int32)) dX8_areLovers_28 rfl ?_
    exact hJ29 (0 : Int32)
  refine V_aload_n (pc := 0) dX8_areLovers_0 rfl rfl ?_
  refine V_iload_n (pc := 1) dX8_areLovers_1 rfl rfl ?_
  refine V_callVpi (pc := 2) (As := [.int p1]) (rest := []) (c_X8_gladder w n p1 σ) cw_X8_36 rfl rfl dX8_areLovers_2 kc_56 rfl ⟨Nat.le_of_ble_eq_true rfl, Nat.le_of_ble_eq_true rfl⟩ rfl rfl (Nat.le_of_ble_eq_true rfl) (Nat.le_of_ble_eq_true rfl) (Nat.le_of_ble_eq_true rfl) rfl (fun q2 => ?_)
  refine V_iconst (pc := 5) (v := (1 : Int32)) dX8_areLovers_5 rfl ?_
  refine V_iload_n (pc := 6) dX8_areLovers_6 rfl rfl ?_
  refine V_ishl (pc := 7) dX8_areLovers_7 ?_
  refine V_iand (pc := 8) dX8_areLovers_8 ?_
  refine V_if_eq (pc := 9) (tgt := 28) dX8_areLovers_9 (by decide) ?_ ?_
  · refine V_sub (vs' := [none, none, none]) (show vless _ _ from trivial) rfl ?_
    exact hJ28 ()
  · refine V_aload_n (pc := 12) dX8_areLovers_12 rfl rfl ?_
    refine V_iload_n (pc := 13) dX8_areLovers_13 rfl rfl ?_
    refine V_callVpi (pc := 14) (As := [.int p2]) (rest := []) (c_X8_gladder w n p2 σ) cw_X8_36 rfl rfl dX8_areLovers_14 kc_56 rfl ⟨Nat.le_of_ble_eq_true rfl, Nat.le_of_ble_eq_true rfl⟩ rfl rfl (Nat.le_of_ble_eq_true rfl) (Nat.le_of_ble_eq_true rfl) (Nat.le_of_ble_eq_true rfl) rfl (fun q14 => ?_)
    refine V_iconst (pc := 17) (v := (1 : Int32)) dX8_areLovers_17 rfl ?_
    refine V_iload_n (pc := 18) dX8_areLovers_18 rfl rfl ?_
    refine V_ishl (pc := 19) dX8_areLovers_19 ?_
    refine V_iand (pc := 20) dX8_areLovers_20 ?_
    refine V_if_eq (pc := 21) (tgt := 28) dX8_areLovers_21 (by decide) ?_ ?_
    · refine V_sub (vs' := [none, none, none]) (show vless _ _ from trivial) rfl ?_
      exact hJ28 ()
    · refine V_iconst (pc := 24) (v := (1 : Int32)) dX8_areLovers_24 rfl ?_
      refine V_goto (pc := 25) (tgt := 29) dX8_areLovers_25 (by decide) ?_
      refine V_sub (vs' := [none, none, none]) (show vless _ _ from trivial) rfl ?_
      exact hJ29 (1 : Int32)
def L_X8_firstLovers_17 (n : Nat) (v1 : Int32) (σ : MS) (a17 : Int32) : Option ((Int32) ⊕ ((Int32) ⊕ (Int32))) := (if (σ 3 0) ≤ a17 then (some (.inl ((v1 + (1 : Int32))))).map Sum.inr else ((f_X8_areLovers n v1 a17 σ).bind (fun q31 => (if q31 = 0 then some (.inl ((a17 + (1 : Int32)))) else ((some (((10 : Int32) * v1) + a17)).map Sum.inr).map Sum.inr))))
def L_X8_firstLovers_2 (n : Nat)  (σ : MS) (a2 : Int32) : Option ((Int32) ⊕ (Int32)) := (if (σ 3 0) ≤ a2 then (some (-1 : Int32)).map Sum.inr else itr (L_X8_firstLovers_17 n a2 σ) n ((a2 + (1 : Int32))))
def f_X8_firstLovers (n : Nat)  (σ : MS) : Option (Int32) := itr (L_X8_firstLovers_2 n  σ) n ((0 : Int32))
set_option maxRecDepth 20000 in
set_option maxHeartbeats 2000000 in
theorem c_X8_firstLovers (w : TG) (n : Nat)  (σ : MS) : MC m_X8_firstLovers w [.ref (wB w + 56)] σ ((f_X8_firstLovers n  σ).map (fun r => (r, σ))) := by
  refine V_methp (by decide +kernel) (Nat.le_of_ble_eq_true rfl) (by intro v hv; simp only [List.mem_cons, List.not_mem_nil, or_false] at hv; subst hv; rfl) (fun g x => ?_)
  show VV m_X8_firstLovers w g 0 0 (QM m_X8_firstLovers w g x) (fun b : Int32 => (b, σ) = x) 0 [some (.ref (wB w + 56)), none, none] [] σ (f_X8_firstLovers n  σ)
  have hL2 : ∀  (n0 : Nat) (a : Int32), VV m_X8_firstLovers w g 0 0 (QM m_X8_firstLovers w g x) (fun b : Int32 => (b, σ) = x) 2 [some (.ref (wB w + 56)), some (.int a), none] [] σ (itr (L_X8_firstLovers_2 n  σ) n0 a) := by
    refine V_itr (vf := fun a : Int32 => [some (.ref (wB w + 56)), some (.int a), none]) (sf := fun a : Int32 => σ) (fun κ2 b2 r2 a2 => ?_)
    show VV m_X8_firstLovers w g 0 0 (QM m_X8_firstLovers w g x) κ2 2 [some (.ref (wB w + 56)), some (.int a2), none] [] σ (L_X8_firstLovers_2 n  σ a2)
    have hL17 : ∀ (v1 : Int32) (n0 : Nat) (a : Int32), VV m_X8_firstLovers w g 0 0 (QM m_X8_firstLovers w g x) κ2 17 [some (.ref (wB w + 56)), some (.int v1), some (.int a)] [] σ (itr (L_X8_firstLovers_17 n v1 σ) n0 a) := by
      intro v1
      refine V_itr (vf := fun a : Int32 => [some (.ref (wB w + 56)), some (.int v1), some (.int a)]) (sf := fun a : Int32 => σ) (fun κ17 b17 r17 a17 => ?_)
      show VV m_X8_firstLovers w g 0 0 (QM m_X8_firstLovers w g x) κ17 17 [some (.ref (wB w + 56)), some (.int v1), some (.int a17)] [] σ (L_X8_firstLovers_17 n v1 σ a17)
      refine V_iload_n (pc := 17) dX8_firstLovers_17 rfl rfl ?_
      refine V_aload_n (pc := 18) dX8_firstLovers_18 rfl rfl ?_
      refine V_getr (pc := 19) (t := 3) fk_X8_18 rfl dX8_firstLovers_19 kc_56 rfl ?_
      refine V_geti (pc := 22) fk_X8_32 rfl dX8_firstLovers_22 kc_3 rfl ?_
      refine V_icmp_ge (pc := 25) (tgt := 50) dX8_firstLovers_25 (by decide) ?_ ?_
      · refine V_exit r17 ?_
        refine V_iinc (pc := 50) (v := (v1 + (1 : Int32))) (vs' := [some (.ref (wB w + 56)), some (.int (v1 + (1 : Int32))), some (.int a17)]) dX8_firstLovers_50 (Nat.le_of_ble_eq_true rfl) rfl rfl rfl ?_
        refine V_goto (pc := 53) (tgt := 2) dX8_firstLovers_53 (by decide) ?_
        refine V_sub (vs' := [some (.ref (wB w + 56)), some (.int (v1 + (1 : Int32))), none]) (show vless _ _ from ⟨rfl, ⟨rfl, trivial⟩⟩) rfl ?_
        exact V_back (b2 ((v1 + (1 : Int32))))
      · refine V_aload_n (pc := 28) dX8_firstLovers_28 rfl rfl ?_
        refine V_iload_n (pc := 29) dX8_firstLovers_29 rfl rfl ?_
        refine V_iload_n (pc := 30) dX8_firstLovers_30 rfl rfl ?_
        refine V_callVpi (pc := 31) (As := [.int v1, .int a17]) (rest := []) (c_X8_areLovers w n v1 a17 σ) cw_X8_39 rfl rfl dX8_firstLovers_31 kc_56 rfl ⟨Nat.le_of_ble_eq_true rfl, Nat.le_of_ble_eq_true rfl⟩ rfl rfl (Nat.le_of_ble_eq_true rfl) (Nat.le_of_ble_eq_true rfl) (Nat.le_of_ble_eq_true rfl) rfl (fun q31 => ?_)
        refine V_if_eq (pc := 34) (tgt := 44) dX8_firstLovers_34 (by decide) ?_ ?_
        · refine V_iinc (pc := 44) (v := (a17 + (1 : Int32))) (vs' := [some (.ref (wB w + 56)), some (.int v1), some (.int (a17 + (1 : Int32)))]) dX8_firstLovers_44 (Nat.le_of_ble_eq_true rfl) rfl rfl rfl ?_
          refine V_goto (pc := 47) (tgt := 17) dX8_firstLovers_47 (by decide) ?_
          exact V_back (b17 ((a17 + (1 : Int32))))
        · refine V_exit r17 ?_
          refine V_exit r2 ?_
          refine V_bipush (pc := 37) (v := (10 : Int32)) dX8_firstLovers_37 rfl ?_
          refine V_iload_n (pc := 39) dX8_firstLovers_39 rfl rfl ?_
          refine V_imul (pc := 40) dX8_firstLovers_40 ?_
          refine V_iload_n (pc := 41) dX8_firstLovers_41 rfl rfl ?_
          refine V_iadd (pc := 42) dX8_firstLovers_42 ?_
          exact V_ireti (pc := 43) dX8_firstLovers_43 rfl (hk := fun h => h)
    refine V_iload_n (pc := 2) dX8_firstLovers_2 rfl rfl ?_
    refine V_aload_n (pc := 3) dX8_firstLovers_3 rfl rfl ?_
    refine V_getr (pc := 4) (t := 3) fk_X8_18 rfl dX8_firstLovers_4 kc_56 rfl ?_
    refine V_geti (pc := 7) fk_X8_32 rfl dX8_firstLovers_7 kc_3 rfl ?_
    refine V_icmp_ge (pc := 10) (tgt := 56) dX8_firstLovers_10 (by decide) ?_ ?_
    · refine V_exit r2 ?_
      refine V_iconst (pc := 56) (v := (-1 : Int32)) dX8_firstLovers_56 rfl ?_
      exact V_ireti (pc := 57) dX8_firstLovers_57 rfl (hk := fun h => h)
    · refine V_iload_n (pc := 13) dX8_firstLovers_13 rfl rfl ?_
      refine V_iconst (pc := 14) (v := (1 : Int32)) dX8_firstLovers_14 rfl ?_
      refine V_iadd (pc := 15) dX8_firstLovers_15 ?_
      refine V_istore_n (pc := 16) (vs' := [some (.ref (wB w + 56)), some (.int a2), some (.int (a2 + (1 : Int32)))]) dX8_firstLovers_16 rfl (Nat.le_of_ble_eq_true rfl) (Nat.le_of_ble_eq_true rfl) rfl ?_
      exact hL17 a2 n ((a2 + (1 : Int32)))
  refine V_iconst (pc := 0) (v := (0 : Int32)) dX8_firstLovers_0 rfl ?_
  refine V_istore_n (pc := 1) (vs' := [some (.ref (wB w + 56)), some (.int (0 : Int32)), none]) dX8_firstLovers_1 rfl (Nat.le_of_ble_eq_true rfl) (Nat.le_of_ble_eq_true rfl) rfl ?_
  exact hL2 n ((0 : Int32))
def J_X8_manyLovers_42 (n : Nat) (v2 : Int32) (v1 : Int32) (v3 : Int32) (σ : MS) : Option ((Int32 × Int32) ⊕ ((Int32 × Int32) ⊕ (Int32))) := some (.inl (v1, (v3 + (1 : Int32))))
def L_X8_manyLovers_19 (n : Nat) (v2 : Int32) (σ : MS) (a19 : Int32 × Int32) : Option ((Int32 × Int32) ⊕ ((Int32 × Int32) ⊕ (Int32))) := (if (σ 3 0) ≤ a19.2 then (some (.inl (a19.1, (v2 + (1 : Int32))))).map Sum.inr else ((f_X8_areLovers n v2 a19.2 σ).bind (fun q33 => (if q33 = 0 then J_X8_manyLovers_42 n v2 a19.1 a19.2 σ else J_X8_manyLovers_42 n v2 (a19.1 + (1 : Int32)) a19.2 σ))))
def L_X8_manyLovers_4 (n : Nat)  (σ : MS) (a4 : Int32 × Int32) : Option ((Int32 × Int32) ⊕ (Int32)) := (if (σ 3 0) ≤ a4.2 then (some a4.1).map Sum.inr else itr (L_X8_manyLovers_19 n a4.2 σ) n (a4.1, (a4.2 + (1 : Int32))))
def f_X8_manyLovers (n : Nat)  (σ : MS) : Option (Int32) := itr (L_X8_manyLovers_4 n  σ) n ((0 : Int32), (0 : Int32))
set_option maxRecDepth 20000 in
set_option maxHeartbeats 2000000 in
theorem c_X8_manyLovers (w : TG) (n : Nat)  (σ : MS) : MC m_X8_manyLovers w [.ref (wB w + 56)] σ ((f_X8_manyLovers n  σ).map (fun r => (r, σ))) := by
  refine V_methp (by decide +kernel) (Nat.le_of_ble_eq_true rfl) (by intro v hv; simp only [List.mem_cons, List.not_mem_nil, or_false] at hv; subst hv; rfl) (fun g x => ?_)
  show VV m_X8_manyLovers w g 0 0 (QM m_X8_manyLovers w g x) (fun b : Int32 => (b, σ) = x) 0 [some (.ref (wB w + 56)), none, none, none] [] σ (f_X8_manyLovers n  σ)
  have hL4 : ∀  (n0 : Nat) (a : Int32 × Int32), VV m_X8_manyLovers w g 0 0 (QM m_X8_manyLovers w g x) (fun b : Int32 => (b, σ) = x) 4 [some (.ref (wB w + 56)), some (.int a.1), some (.int a.2), none] [] σ (itr (L_X8_manyLovers_4 n  σ) n0 a) := by
    refine V_itr (vf := fun a : Int32 × Int32 => [some (.ref (wB w + 56)), some (.int a.1), some (.int a.2), none]) (sf := fun a : Int32 × Int32 => σ) (fun κ4 b4 r4 a4 => ?_)
    show VV m_X8_manyLovers w g 0 0 (QM m_X8_manyLovers w g x) κ4 4 [some (.ref (wB w + 56)), some (.int a4.1), some (.int a4.2), none] [] σ (L_X8_manyLovers_4 n  σ a4)
    have hL19 : ∀ (v2 : Int32) (n0 : Nat) (a : Int32 × Int32), VV m_X8_manyLovers w g 0 0 (QM m_X8_manyLovers w g x) κ4 19 [some (.ref (wB w + 56)), some (.int a.1), some (.int v2), some (.int a.2)] [] σ (itr (L_X8_manyLovers_19 n v2 σ) n0 a) := by
      intro v2
      refine V_itr (vf := fun a : Int32 × Int32 => [some (.ref (wB w + 56)), some (.int a.1), some (.int v2), some (.int a.2)]) (sf := fun a : Int32 × Int32 => σ) (fun κ19 b19 r19 a19 => ?_)
      show VV m_X8_manyLovers w g 0 0 (QM m_X8_manyLovers w g x) κ19 19 [some (.ref (wB w + 56)), some (.int a19.1), some (.int v2), some (.int a19.2)] [] σ (L_X8_manyLovers_19 n v2 σ a19)
      have hJ42 : ∀ (v1 : Int32) (v3 : Int32), VV m_X8_manyLovers w g 0 0 (QM m_X8_manyLovers w g x) κ19 42 [some (.ref (wB w + 56)), some (.int v1), some (.int v2), some (.int v3)] [] σ (J_X8_manyLovers_42 n v2 v1 v3 σ) := by
        intro v1 v3
        refine V_iinc (pc := 42) (v := (v3 + (1 : Int32))) (vs' := [some (.ref (wB w + 56)), some (.int v1), some (.int v2), some (.int (v3 + (1 : Int32)))]) dX8_manyLovers_42 (Nat.le_of_ble_eq_true rfl) rfl rfl rfl ?_
        refine V_goto (pc := 45) (tgt := 19) dX8_manyLovers_45 (by decide) ?_
        exact V_back (b19 (v1, (v3 + (1 : Int32))))
      refine V_iload_n (pc := 19) dX8_manyLovers_19 rfl rfl ?_
      refine V_aload_n (pc := 20) dX8_manyLovers_20 rfl rfl ?_
      refine V_getr (pc := 21) (t := 3) fk_X8_18 rfl dX8_manyLovers_21 kc_56 rfl ?_
      refine V_geti (pc := 24) fk_X8_32 rfl dX8_manyLovers_24 kc_3 rfl ?_
      refine V_icmp_ge (pc := 27) (tgt := 48) dX8_manyLovers_27 (by decide) ?_ ?_
      · refine V_exit r19 ?_
        refine V_iinc (pc := 48) (v := (v2 + (1 : Int32))) (vs' := [some (.ref (wB w + 56)), some (.int a19.1), some (.int (v2 + (1 : Int32))), some (.int a19.2)]) dX8_manyLovers_48 (Nat.le_of_ble_eq_true rfl) rfl rfl rfl ?_
        refine V_goto (pc := 51) (tgt := 4) dX8_manyLovers_51 (by decide) ?_
        refine V_sub (vs' := [some (.ref (wB w + 56)), some (.int a19.1), some (.int (v2 + (1 : Int32))), none]) (show vless _ _ from ⟨rfl, ⟨rfl, ⟨rfl, trivial⟩⟩⟩) rfl ?_
        exact V_back (b4 (a19.1, (v2 + (1 : Int32))))
      · refine V_aload_n (pc := 30) dX8_manyLovers_30 rfl rfl ?_
        refine V_iload_n (pc := 31) dX8_manyLovers_31 rfl rfl ?_
        refine V_iload_n (pc := 32) dX8_manyLovers_32 rfl rfl ?_
        refine V_callVpi (pc := 33) (As := [.int v2, .int a19.2]) (rest := []) (c_X8_areLovers w n v2 a19.2 σ) cw_X8_39 rfl rfl dX8_manyLovers_33 kc_56 rfl ⟨Nat.le_of_ble_eq_true rfl, Nat.le_of_ble_eq_true rfl⟩ rfl rfl (Nat.le_of_ble_eq_true rfl) (Nat.le_of_ble_eq_true rfl) (Nat.le_of_ble_eq_true rfl) rfl (fun q33 => ?_)
        refine V_if_eq (pc := 36) (tgt := 42) dX8_manyLovers_36 (by decide) ?_ ?_
        · exact hJ42 a19.1 a19.2
        · refine V_iinc (pc := 39) (v := (a19.1 + (1 : Int32))) (vs' := [some (.ref (wB w + 56)), some (.int (a19.1 + (1 : Int32))), some (.int v2), some (.int a19.2)]) dX8_manyLovers_39 (Nat.le_of_ble_eq_true rfl) rfl rfl rfl ?_
          exact hJ42 (a19.1 + (1 : Int32)) a19.2
    refine V_iload_n (pc := 4) dX8_manyLovers_4 rfl rfl ?_
    refine V_aload_n (pc := 5) dX8_manyLovers_5 rfl rfl ?_
    refine V_getr (pc := 6) (t := 3) fk_X8_18 rfl dX8_manyLovers_6 kc_56 rfl ?_
    refine V_geti (pc := 9) fk_X8_32 rfl dX8_manyLovers_9 kc_3 rfl ?_
    refine V_icmp_ge (pc := 12) (tgt := 54) dX8_manyLovers_12 (by decide) ?_ ?_
    · refine V_exit r4 ?_
      refine V_iload_n (pc := 54) dX8_manyLovers_54 rfl rfl ?_
      exact V_ireti (pc := 55) dX8_manyLovers_55 rfl (hk := fun h => h)
    · refine V_iload_n (pc := 15) dX8_manyLovers_15 rfl rfl ?_
      refine V_iconst (pc := 16) (v := (1 : Int32)) dX8_manyLovers_16 rfl ?_
      refine V_iadd (pc := 17) dX8_manyLovers_17 ?_
      refine V_istore_n (pc := 18) (vs' := [some (.ref (wB w + 56)), some (.int a4.1), some (.int a4.2), some (.int (a4.2 + (1 : Int32)))]) dX8_manyLovers_18 rfl (Nat.le_of_ble_eq_true rfl) (Nat.le_of_ble_eq_true rfl) rfl ?_
      exact hL19 a4.2 n (a4.1, (a4.2 + (1 : Int32)))
  refine V_iconst (pc := 0) (v := (0 : Int32)) dX8_manyLovers_0 rfl ?_
  refine V_istore_n (pc := 1) (vs' := [some (.ref (wB w + 56)), some (.int (0 : Int32)), none, none]) dX8_manyLovers_1 rfl (Nat.le_of_ble_eq_true rfl) (Nat.le_of_ble_eq_true rfl) rfl ?_
  refine V_iconst (pc := 2) (v := (0 : Int32)) dX8_manyLovers_2 rfl ?_
  refine V_istore_n (pc := 3) (vs' := [some (.ref (wB w + 56)), some (.int (0 : Int32)), some (.int (0 : Int32)), none]) dX8_manyLovers_3 rfl (Nat.le_of_ble_eq_true rfl) (Nat.le_of_ble_eq_true rfl) rfl ?_
  exact hL4 n ((0 : Int32), (0 : Int32))
def J_X8_wouldLeave_47 (t0 : Int32) (σ : MS) : Option (Int32) := (if t0 = 0 ∨ t0 = 1 then some t0 else none)
def J_X8_wouldLeave_28 (v1 : Int32) (v2 : Int32) (t0 : Int32) (σ : MS) : Option (Int32) := ((f_X4_likingOf 3 v1 v2 σ).bind (fun q35 => (if q35 ≤ t0 then J_X8_wouldLeave_47 (0 : Int32) σ else J_X8_wouldLeave_47 (1 : Int32) σ)))
def f_X8_wouldLeave (p1 : Int32) (p2 : Int32) (σ : MS) : Option (Int32) := (if inb p1 8 then (if (σ 57 (ix p1)) = p1 then J_X8_wouldLeave_28 p1 p2 (-1 : Int32) σ else (if inb p1 8 then ((f_X4_likingOf 3 p1 (σ 57 (ix p1)) σ).bind (fun q25 => J_X8_wouldLeave_28 p1 p2 q25 σ)) else none)) else none)
set_option maxRecDepth 20000 in
set_option maxHeartbeats 2000000 in
theorem c_X8_wouldLeave (w : TG) (p1 : Int32) (p2 : Int32) (σ : MS) : MC m_X8_wouldLeave w [.ref (wB w + 56), .int p1, .int p2] σ ((f_X8_wouldLeave p1 p2 σ).map (fun r => (r, σ))) := by
  refine V_methp (by decide +kernel) (Nat.le_of_ble_eq_true rfl) (by intro v hv; simp only [List.mem_cons, List.not_mem_nil, or_false] at hv; rcases hv with rfl | rfl | rfl <;> rfl) (fun g x => ?_)
  show VV m_X8_wouldLeave w g 0 0 (QM m_X8_wouldLeave w g x) (fun b : Int32 => (b, σ) = x) 0 [some (.ref (wB w + 56)), some (.int p1), some (.int p2), none] [] σ (f_X8_wouldLeave p1 p2 σ)
  have hJ47 : ∀ (t0 : Int32), VV m_X8_wouldLeave w g 0 0 (QM m_X8_wouldLeave w g x) (fun b : Int32 => (b, σ) = x) 47 [none, none, none, none] [.int t0] σ (J_X8_wouldLeave_47 t0 σ) := by
    intro t0
    exact V_iretZ (pc := 47) dX8_wouldLeave_47 rfl (hk := fun h => h)
  have hJ28 : ∀ (t0 : Int32), VV m_X8_wouldLeave w g 0 0 (QM m_X8_wouldLeave w g x) (fun b : Int32 => (b, σ) = x) 28 [some (.ref (wB w + 56)), some (.int p1), some (.int p2), none] [.int t0] σ (J_X8_wouldLeave_28 p1 p2 t0 σ) := by
    intro t0
    refine V_istore_n (pc := 28) (vs' := [some (.ref (wB w + 56)), some (.int p1), some (.int p2), some (.int t0)]) dX8_wouldLeave_28 rfl (Nat.le_of_ble_eq_true rfl) (Nat.le_of_ble_eq_true rfl) rfl ?_
    refine V_aload_n (pc := 29) dX8_wouldLeave_29 rfl rfl ?_
    refine V_getr (pc := 30) (t := 3) fk_X8_18 rfl dX8_wouldLeave_30 kc_56 rfl ?_
    refine V_iload_n (pc := 33) dX8_wouldLeave_33 rfl rfl ?_
    refine V_iload_n (pc := 34) dX8_wouldLeave_34 rfl rfl ?_
    refine V_callVpi (pc := 35) (As := [.int p1, .int p2]) (rest := []) (c_X4_likingOf w 3 p1 p2 kc_3 σ) cw_X8_28 rfl rfl dX8_wouldLeave_35 kc_3 rfl ⟨Nat.le_of_ble_eq_true rfl, Nat.le_of_ble_eq_true rfl⟩ rfl rfl (Nat.le_of_ble_eq_true rfl) (Nat.le_of_ble_eq_true rfl) (Nat.le_of_ble_eq_true rfl) rfl (fun q35 => ?_)
    refine V_iload_n (pc := 38) dX8_wouldLeave_38 rfl rfl ?_
    refine V_icmp_le (pc := 39) (tgt := 46) dX8_wouldLeave_39 (by decide) ?_ ?_
    · refine V_iconst (pc := 46) (v := (0 : Int32)) dX8_wouldLeave_46 rfl ?_
      refine V_sub (vs' := [none, none, none, none]) (show vless _ _ from trivial) rfl ?_
      exact hJ47 (0 : Int32)
    · refine V_iconst (pc := 42) (v := (1 : Int32)) dX8_wouldLeave_42 rfl ?_
      refine V_goto (pc := 43) (tgt := 47) dX8_wouldLeave_43 (by decide) ?_
      refine V_sub (vs' := [none, none, none, none]) (show vless _ _ from trivial) rfl ?_
      exact hJ47 (1 : Int32)
  refine V_aload_n (pc := 0) dX8_wouldLeave_0 rfl rfl ?_
  refine V_getr (pc := 1) (t := 57) fk_X8_9 rfl dX8_wouldLeave_1 kc_56 rfl ?_
  refine V_iload_n (pc := 4) dX8_wouldLeave_4 rfl rfl ?_
  refine V_iald (pc := 5) (n := 8) dX8_wouldLeave_5 kc_57 lc_57 ?_
  refine V_iload_n (pc := 6) dX8_wouldLeave_6 rfl rfl ?_
  refine V_icmp_ne (pc := 7) (tgt := 14) dX8_wouldLeave_7 (by decide) ?_ ?_
  · refine V_aload_n (pc := 14) dX8_wouldLeave_14 rfl rfl ?_
    refine V_getr (pc := 15) (t := 3) fk_X8_18 rfl dX8_wouldLeave_15 kc_56 rfl ?_
    refine V_iload_n (pc := 18) dX8_wouldLeave_18 rfl rfl ?_
    refine V_aload_n (pc := 19) dX8_wouldLeave_19 rfl rfl ?_
    refine V_getr (pc := 20) (t := 57) fk_X8_9 rfl dX8_wouldLeave_20 kc_56 rfl ?_
    refine V_iload_n (pc := 23) dX8_wouldLeave_23 rfl rfl ?_
    refine V_iald (pc := 24) (n := 8) dX8_wouldLeave_24 kc_57 lc_57 ?_
    refine V_callVpi (pc := 25) (As := [.int p1, .int (σ 57 (ix p1))]) (rest := []) (c_X4_likingOf w 3 p1 (σ 57 (ix p1)) kc_3 σ) cw_X8_28 rfl rfl dX8_wouldLeave_25 kc_3 rfl ⟨Nat.le_of_ble_eq_true rfl, Nat.le_of_ble_eq_true rfl⟩ rfl rfl (Nat.le_of_ble_eq_true rfl) (Nat.le_of_ble_eq_true rfl) (Nat.le_of_ble_eq_true rfl) rfl (fun q25 => ?_)
    exact hJ28 q25
  · refine V_iconst (pc := 10) (v := (-1 : Int32)) dX8_wouldLeave_10 rfl ?_
    refine V_goto (pc := 11) (tgt := 28) dX8_wouldLeave_11 (by decide) ?_
    exact hJ28 (-1 : Int32)
def J_X8_keepIfSteady_84 (n : Nat)  (σ : MS) : Option (Int32 × MS) := (ltM (mu σ 56 3 ((σ 56 3) + (1 : Int32))) (fun s91 => some (0, s91)))
def J_X8_keepIfSteady_47 (n : Nat) (v1 : Int32) (v2 : Int32) (σ : MS) : Option ((Int32) ⊕ ((Int32) ⊕ (Int32 × MS))) := some (.inl ((v2 + (1 : Int32))))
def L_X8_keepIfSteady_17 (n : Nat) (v1 : Int32) (σ : MS) (a17 : Int32) : Option ((Int32) ⊕ ((Int32) ⊕ (Int32 × MS))) := (if (σ 3 0) ≤ a17 then (some (.inl ((v1 + (1 : Int32))))).map Sum.inr else ((f_X8_wouldLeave v1 a17 σ).bind (fun q31 => (if q31 = 0 then J_X8_keepIfSteady_47 n v1 a17 σ else ((f_X8_wouldLeave a17 v1 σ).bind (fun q40 => (if q40 = 0 then J_X8_keepIfSteady_47 n v1 a17 σ else ((some (0, σ)).map Sum.inr).map Sum.inr)))))))
def L_X8_keepIfSteady_2 (n : Nat)  (σ : MS) (a2 : Int32) : Option ((Int32) ⊕ (Int32 × MS)) := (if (σ 3 0) ≤ a2 then ((if (σ 56 3) = 0 then (ltM (mcp σ 57 58 8) (fun s81 => J_X8_keepIfSteady_84 n  s81)) else J_X8_keepIfSteady_84 n  σ)).map Sum.inr else itr (L_X8_keepIfSteady_17 n a2 σ) n ((a2 + (1 : Int32))))
def f_X8_keepIfSteady (n : Nat)  (σ : MS) : Option (Int32 × MS) := itr (L_X8_keepIfSteady_2 n  σ) n ((0 : Int32))
set_option maxRecDepth 20000 in
set_option maxHeartbeats 2000000 in
theorem c_X8_keepIfSteady (w : TG) (n : Nat)  (σ : MS) : MC m_X8_keepIfSteady w [.ref (wB w + 56)] σ (f_X8_keepIfSteady n  σ) := by
  refine V_meth (by decide +kernel) (Nat.le_of_ble_eq_true rfl) (by intro v hv; simp only [List.mem_cons, List.not_mem_nil, or_false] at hv; subst hv; rfl) (fun g x => ?_)
  show VV m_X8_keepIfSteady w g 0 0 (QM m_X8_keepIfSteady w g x) (fun b : Int32 × MS => b = x) 0 [some (.ref (wB w + 56)), none, none] [] σ (f_X8_keepIfSteady n  σ)
  have hJ84 : ∀ (σ : MS), VV m_X8_keepIfSteady w g 0 0 (QM m_X8_keepIfSteady w g x) (fun b : Int32 × MS => b = x) 84 [some (.ref (wB w + 56)), none, none] [] σ (J_X8_keepIfSteady_84 n  σ) := by
    intro σ
    refine V_aload_n (pc := 84) dX8_keepIfSteady_84 rfl rfl ?_
    refine V_dup (pc := 85) dX8_keepIfSteady_85 rfl ?_
    refine V_geti (pc := 86) fk_X8_43 rfl dX8_keepIfSteady_86 kc_56 rfl ?_
    refine V_iconst (pc := 89) (v := (1 : Int32)) dX8_keepIfSteady_89 rfl ?_
    refine V_iadd (pc := 90) dX8_keepIfSteady_90 ?_
    refine V_puti (pc := 91) fp_X8_43 rfl dX8_keepIfSteady_91 kc_56 rfl (fun s91 => ?_)
    exact V_ret (pc := 94) dX8_keepIfSteady_94 rfl (hk := fun h => h)
  have hL2 : ∀ (σ : MS) (n0 : Nat) (a : Int32), VV m_X8_keepIfSteady w g 0 0 (QM m_X8_keepIfSteady w g x) (fun b : Int32 × MS => b = x) 2 [some (.ref (wB w + 56)), some (.int a), none] [] σ (itr (L_X8_keepIfSteady_2 n  σ) n0 a) := by
    intro σ
    refine V_itr (vf := fun a : Int32 => [some (.ref (wB w + 56)), some (.int a), none]) (sf := fun a : Int32 => σ) (fun κ2 b2 r2 a2 => ?_)
    show VV m_X8_keepIfSteady w g 0 0 (QM m_X8_keepIfSteady w g x) κ2 2 [some (.ref (wB w + 56)), some (.int a2), none] [] σ (L_X8_keepIfSteady_2 n  σ a2)
    have hL17 : ∀ (v1 : Int32) (σ : MS) (n0 : Nat) (a : Int32), VV m_X8_keepIfSteady w g 0 0 (QM m_X8_keepIfSteady w g x) κ2 17 [some (.ref (wB w + 56)), some (.int v1), some (.int a)] [] σ (itr (L_X8_keepIfSteady_17 n v1 σ) n0 a) := by
      intro v1 σ
      refine V_itr (vf := fun a : Int32 => [some (.ref (wB w + 56)), some (.int v1), some (.int a)]) (sf := fun a : Int32 => σ) (fun κ17 b17 r17 a17 => ?_)
      show VV m_X8_keepIfSteady w g 0 0 (QM m_X8_keepIfSteady w g x) κ17 17 [some (.ref (wB w + 56)), some (.int v1), some (.int a17)] [] σ (L_X8_keepIfSteady_17 n v1 σ a17)
      have hJ47 : ∀ (v2 : Int32) (σ : MS), VV m_X8_keepIfSteady w g 0 0 (QM m_X8_keepIfSteady w g x) κ17 47 [some (.ref (wB w + 56)), some (.int v1), some (.int v2)] [] σ (J_X8_keepIfSteady_47 n v1 v2 σ) := by
        intro v2 σ
        refine V_iinc (pc := 47) (v := (v2 + (1 : Int32))) (vs' := [some (.ref (wB w + 56)), some (.int v1), some (.int (v2 + (1 : Int32)))]) dX8_keepIfSteady_47 (Nat.le_of_ble_eq_true rfl) rfl rfl rfl ?_
        refine V_goto (pc := 50) (tgt := 17) dX8_keepIfSteady_50 (by decide) ?_
        exact V_back (b17 ((v2 + (1 : Int32))))
      refine V_iload_n (pc := 17) dX8_keepIfSteady_17 rfl rfl ?_
      refine V_aload_n (pc := 18) dX8_keepIfSteady_18 rfl rfl ?_
      refine V_getr (pc := 19) (t := 3) fk_X8_18 rfl dX8_keepIfSteady_19 kc_56 rfl ?_
      refine V_geti (pc := 22) fk_X8_32 rfl dX8_keepIfSteady_22 kc_3 rfl ?_
      refine V_icmp_ge (pc := 25) (tgt := 53) dX8_keepIfSteady_25 (by decide) ?_ ?_
      · refine V_exit r17 ?_
        refine V_iinc (pc := 53) (v := (v1 + (1 : Int32))) (vs' := [some (.ref (wB w + 56)), some (.int (v1 + (1 : Int32))), some (.int a17)]) dX8_keepIfSteady_53 (Nat.le_of_ble_eq_true rfl) rfl rfl rfl ?_
        refine V_goto (pc := 56) (tgt := 2) dX8_keepIfSteady_56 (by decide) ?_
        refine V_sub (vs' := [some (.ref (wB w + 56)), some (.int (v1 + (1 : Int32))), none]) (show vless _ _ from ⟨rfl, ⟨rfl, trivial⟩⟩) rfl ?_
        exact V_back (b2 ((v1 + (1 : Int32))))
      · refine V_aload_n (pc := 28) dX8_keepIfSteady_28 rfl rfl ?_
        refine V_iload_n (pc := 29) dX8_keepIfSteady_29 rfl rfl ?_
        refine V_iload_n (pc := 30) dX8_keepIfSteady_30 rfl rfl ?_
        refine V_callVpi (pc := 31) (As := [.int v1, .int a17]) (rest := []) (c_X8_wouldLeave w v1 a17 σ) cw_X8_53 rfl rfl dX8_keepIfSteady_31 kc_56 rfl ⟨Nat.le_of_ble_eq_true rfl, Nat.le_of_ble_eq_true rfl⟩ rfl rfl (Nat.le_of_ble_eq_true rfl) (Nat.le_of_ble_eq_true rfl) (Nat.le_of_ble_eq_true rfl) rfl (fun q31 => ?_)
        refine V_if_eq (pc := 34) (tgt := 47) dX8_keepIfSteady_34 (by decide) ?_ ?_
        · exact hJ47 a17 σ
        · refine V_aload_n (pc := 37) dX8_keepIfSteady_37 rfl rfl ?_
          refine V_iload_n (pc := 38) dX8_keepIfSteady_38 rfl rfl ?_
          refine V_iload_n (pc := 39) dX8_keepIfSteady_39 rfl rfl ?_
          refine V_callVpi (pc := 40) (As := [.int a17, .int v1]) (rest := []) (c_X8_wouldLeave w a17 v1 σ) cw_X8_53 rfl rfl dX8_keepIfSteady_40 kc_56 rfl ⟨Nat.le_of_ble_eq_true rfl, Nat.le_of_ble_eq_true rfl⟩ rfl rfl (Nat.le_of_ble_eq_true rfl) (Nat.le_of_ble_eq_true rfl) (Nat.le_of_ble_eq_true rfl) rfl (fun q40 => ?_)
          refine V_if_eq (pc := 43) (tgt := 47) dX8_keepIfSteady_43 (by decide) ?_ ?_
          · exact hJ47 a17 σ
          · refine V_exit r17 ?_
            refine V_exit r2 ?_
            exact V_ret (pc := 46) dX8_keepIfSteady_46 rfl (hk := fun h => h)
    refine V_iload_n (pc := 2) dX8_keepIfSteady_2 rfl rfl ?_
    refine V_aload_n (pc := 3) dX8_keepIfSteady_3 rfl rfl ?_
    refine V_getr (pc := 4) (t := 3) fk_X8_18 rfl dX8_keepIfSteady_4 kc_56 rfl ?_
    refine V_geti (pc := 7) fk_X8_32 rfl dX8_keepIfSteady_7 kc_3 rfl ?_
    refine V_icmp_ge (pc := 10) (tgt := 59) dX8_keepIfSteady_10 (by decide) ?_ ?_
    · refine V_exit r2 ?_
      refine V_aload_n (pc := 59) dX8_keepIfSteady_59 rfl rfl ?_
      refine V_geti (pc := 60) fk_X8_43 rfl dX8_keepIfSteady_60 kc_56 rfl ?_
      refine V_if_ne (pc := 63) (tgt := 84) dX8_keepIfSteady_63 (by decide) ?_ ?_
      · refine V_sub (vs' := [some (.ref (wB w + 56)), none, none]) (show vless _ _ from ⟨rfl, trivial⟩) rfl ?_
        exact hJ84 σ
      · refine V_aload_n (pc := 66) dX8_keepIfSteady_66 rfl rfl ?_
        refine V_getr (pc := 67) (t := 57) fk_X8_9 rfl dX8_keepIfSteady_67 kc_56 rfl ?_
        refine V_iconst (pc := 70) (v := (0 : Int32)) dX8_keepIfSteady_70 rfl ?_
        refine V_aload_n (pc := 71) dX8_keepIfSteady_71 rfl rfl ?_
        refine V_getr (pc := 72) (t := 58) fk_X8_15 rfl dX8_keepIfSteady_72 kc_56 rfl ?_
        refine V_iconst (pc := 75) (v := (0 : Int32)) dX8_keepIfSteady_75 rfl ?_
        refine V_aload_n (pc := 76) dX8_keepIfSteady_76 rfl rfl ?_
        refine V_getr (pc := 77) (t := 57) fk_X8_9 rfl dX8_keepIfSteady_77 kc_56 rfl ?_
        refine V_alen (pc := 80) (v := 8) dX8_keepIfSteady_80 kc_57 (by rw [lc_57]; rfl) ?_
        refine V_copy (pc := 81) (N := 8) dX8_keepIfSteady_81 rfl cpw_X8_56 (Nat.le_of_ble_eq_true rfl) (by decide +kernel) kc_57 kc_58 lc_57 lc_58 rfl (by decide) (fun s81 => ?_)
        refine V_sub (vs' := [some (.ref (wB w + 56)), none, none]) (show vless _ _ from ⟨rfl, trivial⟩) rfl ?_
        exact hJ84 s81
    · refine V_iload_n (pc := 13) dX8_keepIfSteady_13 rfl rfl ?_
      refine V_iconst (pc := 14) (v := (1 : Int32)) dX8_keepIfSteady_14 rfl ?_
      refine V_iadd (pc := 15) dX8_keepIfSteady_15 ?_
      refine V_istore_n (pc := 16) (vs' := [some (.ref (wB w + 56)), some (.int a2), some (.int (a2 + (1 : Int32)))]) dX8_keepIfSteady_16 rfl (Nat.le_of_ble_eq_true rfl) (Nat.le_of_ble_eq_true rfl) rfl ?_
      exact hL17 a2 σ n ((a2 + (1 : Int32)))
  refine V_iconst (pc := 0) (v := (0 : Int32)) dX8_keepIfSteady_0 rfl ?_
  refine V_istore_n (pc := 1) (vs' := [some (.ref (wB w + 56)), some (.int (0 : Int32)), none]) dX8_keepIfSteady_1 rfl (Nat.le_of_ble_eq_true rfl) (Nat.le_of_ble_eq_true rfl) rfl ?_
  exact hL2 σ n ((0 : Int32))
def IH_gp (d : Nat) (r : RT_gp) : Prop := (∀ (w : TG) (p1 : Int32) (p2 : Int32) (σ : MS), MC (mr_X8_place d) w [.ref (wB w + 56), .int p1, .int p2] σ (r p1 p2 σ))
def J_X8_place_122 (r : RT_gp) (n : Nat) (v1 : Int32) (v2 : Int32) (v3 : Int32) (σ : MS) : Option ((Int32 × MS) ⊕ (Int32 × MS)) := some (.inl ((v3 + (1 : Int32)), σ))
def L_X8_place_65 (r : RT_gp) (n : Nat) (v1 : Int32) (v2 : Int32) (σ : MS) (a65 : Int32 × MS) : Option ((Int32 × MS) ⊕ (Int32 × MS)) := (if (a65.2 3 0) ≤ a65.1 then (some (0, a65.2)).map Sum.inr else (if inb a65.1 8 then (if (a65.2 57 (ix a65.1)) = (-1 : Int32) then (if inb v1 8 then ltM (mu a65.2 57 (ix v1) a65.1) (fun s92 => (if inb a65.1 8 then ltM (mu s92 57 (ix a65.1) v1) (fun s99 => ((r (v1 + (1 : Int32)) v2 s99).bind (fun q105 => (if inb v1 8 then ltM (mu q105.2 57 (ix v1) (-1 : Int32)) (fun s114 => (if inb a65.1 8 then ltM (mu s114 57 (ix a65.1) (-1 : Int32)) (fun s121 => J_X8_place_122 r n v1 v2 a65.1 s121) else none)) else none)))) else none)) else none) else J_X8_place_122 r n v1 v2 a65.1 a65.2) else none))
def J_X8_place_61 (r : RT_gp) (n : Nat) (v1 : Int32) (v2 : Int32) (σ : MS) : Option (Int32 × MS) := itr (L_X8_place_65 r n v1 v2 σ) n ((v1 + (1 : Int32)), σ)
def F_X8_place (r : RT_gp) (n : Nat) (p1 : Int32) (p2 : Int32) (σ : MS) : Option (Int32 × MS) := (if p1 < (σ 3 0) then (if inb p1 8 then (if (σ 57 (ix p1)) = (-1 : Int32) then (if p2 = 0 then J_X8_place_61 r n p1 p2 σ else (if inb p1 8 then ltM (mu σ 57 (ix p1) p1) (fun s45 => ((r (p1 + (1 : Int32)) (0 : Int32) s45).bind (fun q51 => (if inb p1 8 then ltM (mu q51.2 57 (ix p1) (-1 : Int32)) (fun s60 => J_X8_place_61 r n p1 p2 s60) else none)))) else none)) else ((r (p1 + (1 : Int32)) p2 σ).bind (fun q31 => some (0, q31.2)))) else none) else ((f_X8_keepIfSteady n  σ).bind (fun q12 => some (0, q12.2))))
set_option maxRecDepth 20000 in
set_option maxHeartbeats 2000000 in
theorem cst_X8_place (n d : Nat) (r : RT_gp) (ih : IH_gp d r) (w : TG) (p1 : Int32) (p2 : Int32) (σ : MS) : MC (mr_X8_place (d + 1)) w [.ref (wB w + 56), .int p1, .int p2] σ (F_X8_place r n p1 p2 σ) := by
  refine V_meth (by decide +kernel) (Nat.le_of_ble_eq_true rfl) (by intro v hv; simp only [List.mem_cons, List.not_mem_nil, or_false] at hv; rcases hv with rfl | rfl | rfl <;> rfl) (fun g x => ?_)
  show VV (mr_X8_place (d + 1)) w g 0 0 (QM (mr_X8_place (d + 1)) w g x) (fun b : Int32 × MS => b = x) 0 [some (.ref (wB w + 56)), some (.int p1), some (.int p2), none] [] σ (F_X8_place r n p1 p2 σ)
  have hL65 : ∀  (n0 : Nat) (a : Int32 × MS), VV (mr_X8_place (d + 1)) w g 0 0 (QM (mr_X8_place (d + 1)) w g x) (fun b : Int32 × MS => b = x) 65 [some (.ref (wB w + 56)), some (.int p1), some (.int p2), some (.int a.1)] [] a.2 (itr (L_X8_place_65 r n p1 p2 σ) n0 a) := by
    refine V_itr (vf := fun a : Int32 × MS => [some (.ref (wB w + 56)), some (.int p1), some (.int p2), some (.int a.1)]) (sf := fun a : Int32 × MS => a.2) (fun κ65 b65 r65 a65 => ?_)
    show VV (mr_X8_place (d + 1)) w g 0 0 (QM (mr_X8_place (d + 1)) w g x) κ65 65 [some (.ref (wB w + 56)), some (.int p1), some (.int p2), some (.int a65.1)] [] a65.2 (L_X8_place_65 r n p1 p2 σ a65)
    have hJ122 : ∀ (v3 : Int32) (σ : MS), VV (mr_X8_place (d + 1)) w g 0 0 (QM (mr_X8_place (d + 1)) w g x) κ65 122 [some (.ref (wB w + 56)), some (.int p1), some (.int p2), some (.int v3)] [] σ (J_X8_place_122 r n p1 p2 v3 σ) := by
      intro v3 σ
      refine V_iinc (pc := 122) (v := (v3 + (1 : Int32))) (vs' := [some (.ref (wB w + 56)), some (.int p1), some (.int p2), some (.int (v3 + (1 : Int32)))]) dX8_place_122 (Nat.le_of_ble_eq_true rfl) rfl rfl rfl ?_
      refine V_goto (pc := 125) (tgt := 65) dX8_place_125 (by decide) ?_
      exact V_back (b65 ((v3 + (1 : Int32)), σ))
    refine V_iload_n (pc := 65) dX8_place_65 rfl rfl ?_
    refine V_aload_n (pc := 66) dX8_place_66 rfl rfl ?_
    refine V_getr (pc := 67) (t := 3) fk_X8_18 rfl dX8_place_67 kc_56 rfl ?_
    refine V_geti (pc := 70) fk_X8_32 rfl dX8_place_70 kc_3 rfl ?_
    refine V_icmp_ge (pc := 73) (tgt := 128) dX8_place_73 (by decide) ?_ ?_
    · refine V_exit r65 ?_
      exact V_ret (pc := 128) dX8_place_128 rfl (hk := fun h => h)
    · refine V_aload_n (pc := 76) dX8_place_76 rfl rfl ?_
      refine V_getr (pc := 77) (t := 57) fk_X8_9 rfl dX8_place_77 kc_56 rfl ?_
      refine V_iload_n (pc := 80) dX8_place_80 rfl rfl ?_
      refine V_iald (pc := 81) (n := 8) dX8_place_81 kc_57 lc_57 ?_
      refine V_iconst (pc := 82) (v := (-1 : Int32)) dX8_place_82 rfl ?_
      refine V_icmp_ne (pc := 83) (tgt := 122) dX8_place_83 (by decide) ?_ ?_
      · exact hJ122 a65.1 a65.2
      · refine V_aload_n (pc := 86) dX8_place_86 rfl rfl ?_
        refine V_getr (pc := 87) (t := 57) fk_X8_9 rfl dX8_place_87 kc_56 rfl ?_
        refine V_iload_n (pc := 90) dX8_place_90 rfl rfl ?_
        refine V_iload_n (pc := 91) dX8_place_91 rfl rfl ?_
        refine V_iast (pc := 92) (n := 8) dX8_place_92 kc_57 lc_57 (fun s92 => ?_)
        refine V_aload_n (pc := 93) dX8_place_93 rfl rfl ?_
        refine V_getr (pc := 94) (t := 57) fk_X8_9 rfl dX8_place_94 kc_56 rfl ?_
        refine V_iload_n (pc := 97) dX8_place_97 rfl rfl ?_
        refine V_iload_n (pc := 98) dX8_place_98 rfl rfl ?_
        refine V_iast (pc := 99) (n := 8) dX8_place_99 kc_57 lc_57 (fun s99 => ?_)
        refine V_aload_n (pc := 100) dX8_place_100 rfl rfl ?_
        refine V_iload_n (pc := 101) dX8_place_101 rfl rfl ?_
        refine V_iconst (pc := 102) (v := (1 : Int32)) dX8_place_102 rfl ?_
        refine V_iadd (pc := 103) dX8_place_103 ?_
        refine V_iload_n (pc := 104) dX8_place_104 rfl rfl ?_
        refine V_callVv (pc := 105) (As := [.int (p1 + (1 : Int32)), .int p2]) (rest := []) (ih w (p1 + (1 : Int32)) p2 s99) cw_X8_46 rfl rfl dX8_place_105 kc_56 rfl ⟨by simp only [mr_X8_place, mr_X8_place]; omega, by simp only [mr_X8_place, mr_X8_place]; omega⟩ rfl rfl (Nat.le_of_ble_eq_true rfl) (Nat.le_of_ble_eq_true rfl) (Nat.le_of_ble_eq_true rfl) rfl (fun q105 => ?_)
        refine V_aload_n (pc := 108) dX8_place_108 rfl rfl ?_
        refine V_getr (pc := 109) (t := 57) fk_X8_9 rfl dX8_place_109 kc_56 rfl ?_
        refine V_iload_n (pc := 112) dX8_place_112 rfl rfl ?_
        refine V_iconst (pc := 113) (v := (-1 : Int32)) dX8_place_113 rfl ?_
        refine V_iast (pc := 114) (n := 8) dX8_place_114 kc_57 lc_57 (fun s114 => ?_)
        refine V_aload_n (pc := 115) dX8_place_115 rfl rfl ?_
        refine V_getr (pc := 116) (t := 57) fk_X8_9 rfl dX8_place_116 kc_56 rfl ?_
        refine V_iload_n (pc := 119) dX8_place_119 rfl rfl ?_
        refine V_iconst (pc := 120) (v := (-1 : Int32)) dX8_place_120 rfl ?_
        refine V_iast (pc := 121) (n := 8) dX8_place_121 kc_57 lc_57 (fun s121 => ?_)
        exact hJ122 a65.1 s121
  have hJ61 : ∀ (σ : MS), VV (mr_X8_place (d + 1)) w g 0 0 (QM (mr_X8_place (d + 1)) w g x) (fun b : Int32 × MS => b = x) 61 [some (.ref (wB w + 56)), some (.int p1), some (.int p2), none] [] σ (J_X8_place_61 r n p1 p2 σ) := by
    intro σ
    refine V_iload_n (pc := 61) dX8_place_61 rfl rfl ?_
    refine V_iconst (pc := 62) (v := (1 : Int32)) dX8_place_62 rfl ?_
    refine V_iadd (pc := 63) dX8_place_63 ?_
    refine V_istore_n (pc := 64) (vs' := [some (.ref (wB w + 56)), some (.int p1), some (.int p2), some (.int (p1 + (1 : Int32)))]) dX8_place_64 rfl (Nat.le_of_ble_eq_true rfl) (Nat.le_of_ble_eq_true rfl) rfl ?_
    exact hL65 n ((p1 + (1 : Int32)), σ)
  refine V_iload_n (pc := 0) dX8_place_0 rfl rfl ?_
  refine V_aload_n (pc := 1) dX8_place_1 rfl rfl ?_
  refine V_getr (pc := 2) (t := 3) fk_X8_18 rfl dX8_place_2 kc_56 rfl ?_
  refine V_geti (pc := 5) fk_X8_32 rfl dX8_place_5 kc_3 rfl ?_
  refine V_icmp_lt (pc := 8) (tgt := 16) dX8_place_8 (by decide) ?_ ?_
  · refine V_aload_n (pc := 16) dX8_place_16 rfl rfl ?_
    refine V_getr (pc := 17) (t := 57) fk_X8_9 rfl dX8_place_17 kc_56 rfl ?_
    refine V_iload_n (pc := 20) dX8_place_20 rfl rfl ?_
    refine V_iald (pc := 21) (n := 8) dX8_place_21 kc_57 lc_57 ?_
    refine V_iconst (pc := 22) (v := (-1 : Int32)) dX8_place_22 rfl ?_
    refine V_icmp_eq (pc := 23) (tgt := 35) dX8_place_23 (by decide) ?_ ?_
    · refine V_iload_n (pc := 35) dX8_place_35 rfl rfl ?_
      refine V_if_eq (pc := 36) (tgt := 61) dX8_place_36 (by decide) ?_ ?_
      · exact hJ61 σ
      · refine V_aload_n (pc := 39) dX8_place_39 rfl rfl ?_
        refine V_getr (pc := 40) (t := 57) fk_X8_9 rfl dX8_place_40 kc_56 rfl ?_
        refine V_iload_n (pc := 43) dX8_place_43 rfl rfl ?_
        refine V_iload_n (pc := 44) dX8_place_44 rfl rfl ?_
        refine V_iast (pc := 45) (n := 8) dX8_place_45 kc_57 lc_57 (fun s45 => ?_)
        refine V_aload_n (pc := 46) dX8_place_46 rfl rfl ?_
        refine V_iload_n (pc := 47) dX8_place_47 rfl rfl ?_
        refine V_iconst (pc := 48) (v := (1 : Int32)) dX8_place_48 rfl ?_
        refine V_iadd (pc := 49) dX8_place_49 ?_
        refine V_iconst (pc := 50) (v := (0 : Int32)) dX8_place_50 rfl ?_
        refine V_callVv (pc := 51) (As := [.int (p1 + (1 : Int32)), .int (0 : Int32)]) (rest := []) (ih w (p1 + (1 : Int32)) (0 : Int32) s45) cw_X8_46 rfl rfl dX8_place_51 kc_56 rfl ⟨by simp only [mr_X8_place, mr_X8_place]; omega, by simp only [mr_X8_place, mr_X8_place]; omega⟩ rfl rfl (Nat.le_of_ble_eq_true rfl) (Nat.le_of_ble_eq_true rfl) (Nat.le_of_ble_eq_true rfl) rfl (fun q51 => ?_)
        refine V_aload_n (pc := 54) dX8_place_54 rfl rfl ?_
        refine V_getr (pc := 55) (t := 57) fk_X8_9 rfl dX8_place_55 kc_56 rfl ?_
        refine V_iload_n (pc := 58) dX8_place_58 rfl rfl ?_
        refine V_iconst (pc := 59) (v := (-1 : Int32)) dX8_place_59 rfl ?_
        refine V_iast (pc := 60) (n := 8) dX8_place_60 kc_57 lc_57 (fun s60 => ?_)
        exact hJ61 s60
    · refine V_aload_n (pc := 26) dX8_place_26 rfl rfl ?_
      refine V_iload_n (pc := 27) dX8_place_27 rfl rfl ?_
      refine V_iconst (pc := 28) (v := (1 : Int32)) dX8_place_28 rfl ?_
      refine V_iadd (pc := 29) dX8_place_29 ?_
      refine V_iload_n (pc := 30) dX8_place_30 rfl rfl ?_
      refine V_callVv (pc := 31) (As := [.int (p1 + (1 : Int32)), .int p2]) (rest := []) (ih w (p1 + (1 : Int32)) p2 σ) cw_X8_46 rfl rfl dX8_place_31 kc_56 rfl ⟨by simp only [mr_X8_place, mr_X8_place]; omega, by simp only [mr_X8_place, mr_X8_place]; omega⟩ rfl rfl (Nat.le_of_ble_eq_true rfl) (Nat.le_of_ble_eq_true rfl) (Nat.le_of_ble_eq_true rfl) rfl (fun q31 => ?_)
      exact V_ret (pc := 34) dX8_place_34 rfl (hk := fun h => h)
  · refine V_aload_n (pc := 11) dX8_place_11 rfl rfl ?_
    refine V_callVv (pc := 12) (As := []) (rest := []) (c_X8_keepIfSteady w n  σ) cw_X8_50 rfl rfl dX8_place_12 kc_56 rfl ⟨by simp only [mr_X8_place, m_X8_keepIfSteady]; omega, by simp only [mr_X8_place, m_X8_keepIfSteady]; omega⟩ rfl rfl (Nat.le_of_ble_eq_true rfl) (Nat.le_of_ble_eq_true rfl) (Nat.le_of_ble_eq_true rfl) rfl (fun q12 => ?_)
    exact V_ret (pc := 15) dX8_place_15 rfl (hk := fun h => h)
def G_gp (n : Nat) : Nat → RT_gp
  | 0 => ((fun _ _ _ => none))
  | d + 1 => (F_X8_place (G_gp n d) n)
theorem cg_gp (n : Nat) : ∀ d, IH_gp d (G_gp n d) := by
  intro d
  induction d with
  | zero => exact fun _ _ _ _ _ _ _ h => by cases h
  | succ d ih => exact cst_X8_place n d _ ih
def f_X8_place (n : Nat) (p1 : Int32) (p2 : Int32) (σ : MS) : Option (Int32 × MS) := (G_gp n 30) p1 p2 σ
theorem c_X8_place (w : TG) (n : Nat) (p1 : Int32) (p2 : Int32) (σ : MS) : MC m_X8_place w [.ref (wB w + 56), .int p1, .int p2] σ (f_X8_place n p1 p2 σ) := (cg_gp n 30) w p1 p2 σ
def J_X8_settle_46 (n : Nat) (t0 : Int32) (t1 : Int32) (σ : MS) : Option (Int32 × MS) := ((f_X8_place n t1 t0 σ).bind (fun q46 => some (0, q46.2)))
def L_X8_settle_7 (n : Nat)  (σ : MS) (a7 : Int32 × MS) : Option ((Int32 × MS) ⊕ (Int32 × MS)) := (if (8 : Int32) ≤ a7.1 then ((if (remI (a7.2 3 0) (2 : Int32)) = (1 : Int32) then J_X8_settle_46 n (1 : Int32) (0 : Int32) a7.2 else J_X8_settle_46 n (0 : Int32) (0 : Int32) a7.2)).map Sum.inr else (if inb a7.1 8 then ltM (mu a7.2 57 (ix a7.1) (-1 : Int32)) (fun s19 => some (.inl ((a7.1 + (1 : Int32)), s19))) else none))
def f_X8_settle (n : Nat)  (σ : MS) : Option (Int32 × MS) := (ltM (mu σ 56 3 (0 : Int32)) (fun s2 => itr (L_X8_settle_7 n  σ) n ((0 : Int32), s2)))
set_option maxRecDepth 20000 in
set_option maxHeartbeats 2000000 in
theorem c_X8_settle (w : TG) (n : Nat)  (σ : MS) : MC m_X8_settle w [.ref (wB w + 56)] σ (f_X8_settle n  σ) := by
  refine V_meth (by decide +kernel) (Nat.le_of_ble_eq_true rfl) (by intro v hv; simp only [List.mem_cons, List.not_mem_nil, or_false] at hv; subst hv; rfl) (fun g x => ?_)
  show VV m_X8_settle w g 0 0 (QM m_X8_settle w g x) (fun b : Int32 × MS => b = x) 0 [some (.ref (wB w + 56)), none] [] σ (f_X8_settle n  σ)
  have hJ46 : ∀ (t0 : Int32) (t1 : Int32) (σ : MS), VV m_X8_settle w g 0 0 (QM m_X8_settle w g x) (fun b : Int32 × MS => b = x) 46 [none, none] [.int t0, .int t1, .ref (wB w + 56)] σ (J_X8_settle_46 n t0 t1 σ) := by
    intro t0 t1 σ
    refine V_callVv (pc := 46) (As := [.int t1, .int t0]) (rest := []) (c_X8_place w n t1 t0 σ) cw_X8_46 rfl rfl dX8_settle_46 kc_56 rfl ⟨Nat.le_of_ble_eq_true rfl, Nat.le_of_ble_eq_true rfl⟩ rfl rfl (Nat.le_of_ble_eq_true rfl) (Nat.le_of_ble_eq_true rfl) (Nat.le_of_ble_eq_true rfl) rfl (fun q46 => ?_)
    exact V_ret (pc := 49) dX8_settle_49 rfl (hk := fun h => h)
  have hL7 : ∀  (n0 : Nat) (a : Int32 × MS), VV m_X8_settle w g 0 0 (QM m_X8_settle w g x) (fun b : Int32 × MS => b = x) 7 [some (.ref (wB w + 56)), some (.int a.1)] [] a.2 (itr (L_X8_settle_7 n  σ) n0 a) := by
    refine V_itr (vf := fun a : Int32 × MS => [some (.ref (wB w + 56)), some (.int a.1)]) (sf := fun a : Int32 × MS => a.2) (fun κ7 b7 r7 a7 => ?_)
    show VV m_X8_settle w g 0 0 (QM m_X8_settle w g x) κ7 7 [some (.ref (wB w + 56)), some (.int a7.1)] [] a7.2 (L_X8_settle_7 n  σ a7)
    refine V_iload_n (pc := 7) dX8_settle_7 rfl rfl ?_
    refine V_bipush (pc := 8) (v := (8 : Int32)) dX8_settle_8 rfl ?_
    refine V_icmp_ge (pc := 10) (tgt := 26) dX8_settle_10 (by decide) ?_ ?_
    · refine V_exit r7 ?_
      refine V_aload_n (pc := 26) dX8_settle_26 rfl rfl ?_
      refine V_iconst (pc := 27) (v := (0 : Int32)) dX8_settle_27 rfl ?_
      refine V_aload_n (pc := 28) dX8_settle_28 rfl rfl ?_
      refine V_getr (pc := 29) (t := 3) fk_X8_18 rfl dX8_settle_29 kc_56 rfl ?_
      refine V_geti (pc := 32) fk_X8_32 rfl dX8_settle_32 kc_3 rfl ?_
      refine V_iconst (pc := 35) (v := (2 : Int32)) dX8_settle_35 rfl ?_
      refine V_irem (pc := 36) dX8_settle_36 (by decide) ?_
      refine V_iconst (pc := 37) (v := (1 : Int32)) dX8_settle_37 rfl ?_
      refine V_icmp_ne (pc := 38) (tgt := 45) dX8_settle_38 (by decide) ?_ ?_
      · refine V_iconst (pc := 45) (v := (0 : Int32)) dX8_settle_45 rfl ?_
        refine V_sub (vs' := [none, none]) (show vless _ _ from trivial) rfl ?_
        exact hJ46 (0 : Int32) (0 : Int32) a7.2
      · refine V_iconst (pc := 41) (v := (1 : Int32)) dX8_settle_41 rfl ?_
        refine V_goto (pc := 42) (tgt := 46) dX8_settle_42 (by decide) ?_
        refine V_sub (vs' := [none, none]) (show vless _ _ from trivial) rfl ?_
        exact hJ46 (1 : Int32) (0 : Int32) a7.2
    · refine V_aload_n (pc := 13) dX8_settle_13 rfl rfl ?_
      refine V_getr (pc := 14) (t := 57) fk_X8_9 rfl dX8_settle_14 kc_56 rfl ?_
      refine V_iload_n (pc := 17) dX8_settle_17 rfl rfl ?_
      refine V_iconst (pc := 18) (v := (-1 : Int32)) dX8_settle_18 rfl ?_
      refine V_iast (pc := 19) (n := 8) dX8_settle_19 kc_57 lc_57 (fun s19 => ?_)
      refine V_iinc (pc := 20) (v := (a7.1 + (1 : Int32))) (vs' := [some (.ref (wB w + 56)), some (.int (a7.1 + (1 : Int32)))]) dX8_settle_20 (Nat.le_of_ble_eq_true rfl) rfl rfl rfl ?_
      refine V_goto (pc := 23) (tgt := 7) dX8_settle_23 (by decide) ?_
      exact V_back (b7 ((a7.1 + (1 : Int32)), s19))
  refine V_aload_n (pc := 0) dX8_settle_0 rfl rfl ?_
  refine V_iconst (pc := 1) (v := (0 : Int32)) dX8_settle_1 rfl ?_
  refine V_puti (pc := 2) fp_X8_43 rfl dX8_settle_2 kc_56 rfl (fun s2 => ?_)
  refine V_iconst (pc := 5) (v := (0 : Int32)) dX8_settle_5 rfl ?_
  refine V_istore_n (pc := 6) (vs' := [some (.ref (wB w + 56)), some (.int (0 : Int32))]) dX8_settle_6 rfl (Nat.le_of_ble_eq_true rfl) (Nat.le_of_ble_eq_true rfl) rfl ?_
  exact hL7 n ((0 : Int32), s2)
def IH_gg (d : Nat) (r : RT_gg) : Prop := (∀ (w : TG) (p1 : Int32) (p2 : Int32) (σ : MS), MC (mr_X8_greatestFrom d) w [.ref (wB w + 56), .int p1, .int p2] σ ((r p1 p2 σ).map (fun r => (r, σ))))
def J_X8_greatestFrom_104 (r : RT_gg) (n : Nat) (v1 : Int32) (v2 : Int32) (v3 : Int32) (v4 : Int32) (σ : MS) : Option ((Int32 × Int32) ⊕ (Int32)) := some (.inl (v3, (v4 + (1 : Int32))))
def L_X8_greatestFrom_37 (r : RT_gg) (n : Nat) (v1 : Int32) (v2 : Int32) (σ : MS) (a37 : Int32 × Int32) : Option ((Int32 × Int32) ⊕ (Int32)) := (if (σ 3 0) ≤ a37.2 then (some a37.1).map Sum.inr else (if (v2 &&& (shlI (1 : Int32) a37.2)) = 0 then J_X8_greatestFrom_104 r n v1 v2 a37.1 a37.2 σ else ((f_X4_likingOf 3 v1 a37.2 σ).bind (fun q65 => ((f_X4_likingOf 3 a37.2 v1 σ).bind (fun q75 => ((r (v1 + (1 : Int32)) (v2 &&& ((shlI (1 : Int32) a37.2) ^^^ (-1 : Int32))) σ).bind (fun q96 => J_X8_greatestFrom_104 r n v1 v2 (mxI a37.1 ((q65 + q75) + q96)) a37.2 σ))))))))
def F_X8_greatestFrom (r : RT_gg) (n : Nat) (p1 : Int32) (p2 : Int32) (σ : MS) : Option (Int32) := (if p1 < (σ 3 0) then ((r (p1 + (1 : Int32)) p2 σ).bind (fun q18 => (if (p2 &&& (shlI (1 : Int32) p1)) = 0 then some q18 else itr (L_X8_greatestFrom_37 r n p1 p2 σ) n (q18, (p1 + (1 : Int32)))))) else some (0 : Int32))
set_option maxRecDepth 20000 in
set_option maxHeartbeats 2000000 in
theorem cst_X8_greatestFrom (n d : Nat) (r : RT_gg) (ih : IH_gg d r) (w : TG) (p1 : Int32) (p2 : Int32) (σ : MS) : MC (mr_X8_greatestFrom (d + 1)) w [.ref (wB w + 56), .int p1, .int p2] σ ((F_X8_greatestFrom r n p1 p2 σ).map (fun r => (r, σ))) := by
  refine V_methp (by decide +kernel) (Nat.le_of_ble_eq_true rfl) (by intro v hv; simp only [List.mem_cons, List.not_mem_nil, or_false] at hv; rcases hv with rfl | rfl | rfl <;> rfl) (fun g x => ?_)
  show VV (mr_X8_greatestFrom (d + 1)) w g 0 0 (QM (mr_X8_greatestFrom (d + 1)) w g x) (fun b : Int32 => (b, σ) = x) 0 [some (.ref (wB w + 56)), some (.int p1), some (.int p2), none, none, none] [] σ (F_X8_greatestFrom r n p1 p2 σ)
  have hL37 : ∀  (n0 : Nat) (a : Int32 × Int32), VV (mr_X8_greatestFrom (d + 1)) w g 0 0 (QM (mr_X8_greatestFrom (d + 1)) w g x) (fun b : Int32 => (b, σ) = x) 37 [some (.ref (wB w + 56)), some (.int p1), some (.int p2), some (.int a.1), some (.int a.2), none] [] σ (itr (L_X8_greatestFrom_37 r n p1 p2 σ) n0 a) := by
    refine V_itr (vf := fun a : Int32 × Int32 => [some (.ref (wB w + 56)), some (.int p1), some (.int p2), some (.int a.1), some (.int a.2), none]) (sf := fun a : Int32 × Int32 => σ) (fun κ37 b37 r37 a37 => ?_)
    show VV (mr_X8_greatestFrom (d + 1)) w g 0 0 (QM (mr_X8_greatestFrom (d + 1)) w g x) κ37 37 [some (.ref (wB w + 56)), some (.int p1), some (.int p2), some (.int a37.1), some (.int a37.2), none] [] σ (L_X8_greatestFrom_37 r n p1 p2 σ a37)
    have hJ104 : ∀ (v3 : Int32) (v4 : Int32), VV (mr_X8_greatestFrom (d + 1)) w g 0 0 (QM (mr_X8_greatestFrom (d + 1)) w g x) κ37 104 [some (.ref (wB w + 56)), some (.int p1), some (.int p2), some (.int v3), some (.int v4), none] [] σ (J_X8_greatestFrom_104 r n p1 p2 v3 v4 σ) := by
      intro v3 v4
      refine V_iinc (pc := 104) (v := (v4 + (1 : Int32))) (vs' := [some (.ref (wB w + 56)), some (.int p1), some (.int p2), some (.int v3), some (.int (v4 + (1 : Int32))), none]) dX8_greatestFrom_104 (Nat.le_of_ble_eq_true rfl) rfl rfl rfl ?_
      refine V_goto (pc := 107) (tgt := 37) dX8_greatestFrom_107 (by decide) ?_
      exact V_back (b37 (v3, (v4 + (1 : Int32))))
    refine V_iload (pc := 37) dX8_greatestFrom_37 rfl ?_
    refine V_aload_n (pc := 39) dX8_greatestFrom_39 rfl rfl ?_
    refine V_getr (pc := 40) (t := 3) fk_X8_18 rfl dX8_greatestFrom_40 kc_56 rfl ?_
    refine V_geti (pc := 43) fk_X8_32 rfl dX8_greatestFrom_43 kc_3 rfl ?_
    refine V_icmp_ge (pc := 46) (tgt := 110) dX8_greatestFrom_46 (by decide) ?_ ?_
    · refine V_exit r37 ?_
      refine V_iload_n (pc := 110) dX8_greatestFrom_110 rfl rfl ?_
      exact V_ireti (pc := 111) dX8_greatestFrom_111 rfl (hk := fun h => h)
    · refine V_iload_n (pc := 49) dX8_greatestFrom_49 rfl rfl ?_
      refine V_iconst (pc := 50) (v := (1 : Int32)) dX8_greatestFrom_50 rfl ?_
      refine V_iload (pc := 51) dX8_greatestFrom_51 rfl ?_
      refine V_ishl (pc := 53) dX8_greatestFrom_53 ?_
      refine V_iand (pc := 54) dX8_greatestFrom_54 ?_
      refine V_if_eq (pc := 55) (tgt := 104) dX8_greatestFrom_55 (by decide) ?_ ?_
      · exact hJ104 a37.1 a37.2
      · refine V_aload_n (pc := 58) dX8_greatestFrom_58 rfl rfl ?_
        refine V_getr (pc := 59) (t := 3) fk_X8_18 rfl dX8_greatestFrom_59 kc_56 rfl ?_
        refine V_iload_n (pc := 62) dX8_greatestFrom_62 rfl rfl ?_
        refine V_iload (pc := 63) dX8_greatestFrom_63 rfl ?_
        refine V_callVpi (pc := 65) (As := [.int p1, .int a37.2]) (rest := []) (c_X4_likingOf w 3 p1 a37.2 kc_3 σ) cw_X8_28 rfl rfl dX8_greatestFrom_65 kc_3 rfl ⟨by simp only [mr_X8_greatestFrom, m_X4_likingOf]; omega, by simp only [mr_X8_greatestFrom, m_X4_likingOf]; omega⟩ rfl rfl (Nat.le_of_ble_eq_true rfl) (Nat.le_of_ble_eq_true rfl) (Nat.le_of_ble_eq_true rfl) rfl (fun q65 => ?_)
        refine V_aload_n (pc := 68) dX8_greatestFrom_68 rfl rfl ?_
        refine V_getr (pc := 69) (t := 3) fk_X8_18 rfl dX8_greatestFrom_69 kc_56 rfl ?_
        refine V_iload (pc := 72) dX8_greatestFrom_72 rfl ?_
        refine V_iload_n (pc := 74) dX8_greatestFrom_74 rfl rfl ?_
        refine V_callVpi (pc := 75) (As := [.int a37.2, .int p1]) (rest := [.int q65]) (c_X4_likingOf w 3 a37.2 p1 kc_3 σ) cw_X8_28 rfl rfl dX8_greatestFrom_75 kc_3 rfl ⟨by simp only [mr_X8_greatestFrom, m_X4_likingOf]; omega, by simp only [mr_X8_greatestFrom, m_X4_likingOf]; omega⟩ rfl rfl (Nat.le_of_ble_eq_true rfl) (Nat.le_of_ble_eq_true rfl) (Nat.le_of_ble_eq_true rfl) rfl (fun q75 => ?_)
        refine V_iadd (pc := 78) dX8_greatestFrom_78 ?_
        refine V_istore (pc := 79) (vs' := [some (.ref (wB w + 56)), some (.int p1), some (.int p2), some (.int a37.1), some (.int a37.2), some (.int (q65 + q75))]) dX8_greatestFrom_79 (Nat.le_of_ble_eq_true rfl) (Nat.le_of_ble_eq_true rfl) rfl ?_
        refine V_iload_n (pc := 81) dX8_greatestFrom_81 rfl rfl ?_
        refine V_iload (pc := 82) dX8_greatestFrom_82 rfl ?_
        refine V_aload_n (pc := 84) dX8_greatestFrom_84 rfl rfl ?_
        refine V_iload_n (pc := 85) dX8_greatestFrom_85 rfl rfl ?_
        refine V_iconst (pc := 86) (v := (1 : Int32)) dX8_greatestFrom_86 rfl ?_
        refine V_iadd (pc := 87) dX8_greatestFrom_87 ?_
        refine V_iload_n (pc := 88) dX8_greatestFrom_88 rfl rfl ?_
        refine V_iconst (pc := 89) (v := (1 : Int32)) dX8_greatestFrom_89 rfl ?_
        refine V_iload (pc := 90) dX8_greatestFrom_90 rfl ?_
        refine V_ishl (pc := 92) dX8_greatestFrom_92 ?_
        refine V_iconst (pc := 93) (v := (-1 : Int32)) dX8_greatestFrom_93 rfl ?_
        refine V_ixor (pc := 94) dX8_greatestFrom_94 ?_
        refine V_iand (pc := 95) dX8_greatestFrom_95 ?_
        refine V_callVpi (pc := 96) (As := [.int (p1 + (1 : Int32)), .int (p2 &&& ((shlI (1 : Int32) a37.2) ^^^ (-1 : Int32)))]) (rest := [.int (q65 + q75), .int a37.1]) (ih w (p1 + (1 : Int32)) (p2 &&& ((shlI (1 : Int32) a37.2) ^^^ (-1 : Int32))) σ) cw_X8_66 rfl rfl dX8_greatestFrom_96 kc_56 rfl ⟨by simp only [mr_X8_greatestFrom, mr_X8_greatestFrom]; omega, by simp only [mr_X8_greatestFrom, mr_X8_greatestFrom]; omega⟩ rfl rfl (Nat.le_of_ble_eq_true rfl) (Nat.le_of_ble_eq_true rfl) (Nat.le_of_ble_eq_true rfl) rfl (fun q96 => ?_)
        refine V_iadd (pc := 99) dX8_greatestFrom_99 ?_
        refine V_mmax (pc := 100) dX8_greatestFrom_100 rfl mw_X8_69 (Nat.le_of_ble_eq_true rfl) (Nat.le_of_ble_eq_true rfl) (Nat.le_of_ble_eq_true rfl) (Nat.le_of_ble_eq_true rfl) ?_
        refine V_istore_n (pc := 103) (vs' := [some (.ref (wB w + 56)), some (.int p1), some (.int p2), some (.int (mxI a37.1 ((q65 + q75) + q96))), some (.int a37.2), some (.int (q65 + q75))]) dX8_greatestFrom_103 rfl (Nat.le_of_ble_eq_true rfl) (Nat.le_of_ble_eq_true rfl) rfl ?_
        refine V_sub (vs' := [some (.ref (wB w + 56)), some (.int p1), some (.int p2), some (.int (mxI a37.1 ((q65 + q75) + q96))), some (.int a37.2), none]) (show vless _ _ from ⟨rfl, ⟨rfl, ⟨rfl, ⟨rfl, ⟨rfl, trivial⟩⟩⟩⟩⟩) rfl ?_
        exact hJ104 (mxI a37.1 ((q65 + q75) + q96)) a37.2
  refine V_iload_n (pc := 0) dX8_greatestFrom_0 rfl rfl ?_
  refine V_aload_n (pc := 1) dX8_greatestFrom_1 rfl rfl ?_
  refine V_getr (pc := 2) (t := 3) fk_X8_18 rfl dX8_greatestFrom_2 kc_56 rfl ?_
  refine V_geti (pc := 5) fk_X8_32 rfl dX8_greatestFrom_5 kc_3 rfl ?_
  refine V_icmp_lt (pc := 8) (tgt := 13) dX8_greatestFrom_8 (by decide) ?_ ?_
  · refine V_aload_n (pc := 13) dX8_greatestFrom_13 rfl rfl ?_
    refine V_iload_n (pc := 14) dX8_greatestFrom_14 rfl rfl ?_
    refine V_iconst (pc := 15) (v := (1 : Int32)) dX8_greatestFrom_15 rfl ?_
    refine V_iadd (pc := 16) dX8_greatestFrom_16 ?_
    refine V_iload_n (pc := 17) dX8_greatestFrom_17 rfl rfl ?_
    refine V_callVpi (pc := 18) (As := [.int (p1 + (1 : Int32)), .int p2]) (rest := []) (ih w (p1 + (1 : Int32)) p2 σ) cw_X8_66 rfl rfl dX8_greatestFrom_18 kc_56 rfl ⟨by simp only [mr_X8_greatestFrom, mr_X8_greatestFrom]; omega, by simp only [mr_X8_greatestFrom, mr_X8_greatestFrom]; omega⟩ rfl rfl (Nat.le_of_ble_eq_true rfl) (Nat.le_of_ble_eq_true rfl) (Nat.le_of_ble_eq_true rfl) rfl (fun q18 => ?_)
    refine V_istore_n (pc := 21) (vs' := [some (.ref (wB w + 56)), some (.int p1), some (.int p2), some (.int q18), none, none]) dX8_greatestFrom_21 rfl (Nat.le_of_ble_eq_true rfl) (Nat.le_of_ble_eq_true rfl) rfl ?_
    refine V_iload_n (pc := 22) dX8_greatestFrom_22 rfl rfl ?_
    refine V_iconst (pc := 23) (v := (1 : Int32)) dX8_greatestFrom_23 rfl ?_
    refine V_iload_n (pc := 24) dX8_greatestFrom_24 rfl rfl ?_
    refine V_ishl (pc := 25) dX8_greatestFrom_25 ?_
    refine V_iand (pc := 26) dX8_greatestFrom_26 ?_
    refine V_if_ne (pc := 27) (tgt := 32) dX8_greatestFrom_27 (by decide) ?_ ?_
    · refine V_iload_n (pc := 32) dX8_greatestFrom_32 rfl rfl ?_
      refine V_iconst (pc := 33) (v := (1 : Int32)) dX8_greatestFrom_33 rfl ?_
      refine V_iadd (pc := 34) dX8_greatestFrom_34 ?_
      refine V_istore (pc := 35) (vs' := [some (.ref (wB w + 56)), some (.int p1), some (.int p2), some (.int q18), some (.int (p1 + (1 : Int32))), none]) dX8_greatestFrom_35 (Nat.le_of_ble_eq_true rfl) (Nat.le_of_ble_eq_true rfl) rfl ?_
      exact hL37 n (q18, (p1 + (1 : Int32)))
    · refine V_iload_n (pc := 30) dX8_greatestFrom_30 rfl rfl ?_
      exact V_ireti (pc := 31) dX8_greatestFrom_31 rfl (hk := fun h => h)
  · refine V_iconst (pc := 11) (v := (0 : Int32)) dX8_greatestFrom_11 rfl ?_
    exact V_ireti (pc := 12) dX8_greatestFrom_12 rfl (hk := fun h => h)
def G_gg (n : Nat) : Nat → RT_gg
  | 0 => ((fun _ _ _ => none))
  | d + 1 => (F_X8_greatestFrom (G_gg n d) n)
theorem cg_gg (n : Nat) : ∀ d, IH_gg d (G_gg n d) := by
  intro d
  induction d with
  | zero => exact fun _ _ _ _ _ _ _ h => by cases h
  | succ d ih => exact cst_X8_greatestFrom n d _ ih
def f_X8_greatestFrom (n : Nat) (p1 : Int32) (p2 : Int32) (σ : MS) : Option (Int32) := (G_gg n 30) p1 p2 σ
theorem c_X8_greatestFrom (w : TG) (n : Nat) (p1 : Int32) (p2 : Int32) (σ : MS) : MC m_X8_greatestFrom w [.ref (wB w + 56), .int p1, .int p2] σ ((f_X8_greatestFrom n p1 p2 σ).map (fun r => (r, σ))) := (cg_gg n 30) w p1 p2 σ
def f_X8_greatest (n : Nat)  (σ : MS) : Option (Int32) := ((f_X4_everybody 3 σ).bind (fun q6 => ((f_X8_greatestFrom n (0 : Int32) q6 σ).bind (fun q9 => some q9))))
set_option maxRecDepth 20000 in
set_option maxHeartbeats 2000000 in
theorem c_X8_greatest (w : TG) (n : Nat)  (σ : MS) : MC m_X8_greatest w [.ref (wB w + 56)] σ ((f_X8_greatest n  σ).map (fun r => (r, σ))) := by
  refine V_methp (by decide +kernel) (Nat.le_of_ble_eq_true rfl) (by intro v hv; simp only [List.mem_cons, List.not_mem_nil, or_false] at hv; subst hv; rfl) (fun g x => ?_)
  show VV m_X8_greatest w g 0 0 (QM m_X8_greatest w g x) (fun b : Int32 => (b, σ) = x) 0 [some (.ref (wB w + 56))] [] σ (f_X8_greatest n  σ)
  refine V_aload_n (pc := 0) dX8_greatest_0 rfl rfl ?_
  refine V_iconst (pc := 1) (v := (0 : Int32)) dX8_greatest_1 rfl ?_
  refine V_aload_n (pc := 2) dX8_greatest_2 rfl rfl ?_
  refine V_getr (pc := 3) (t := 3) fk_X8_18 rfl dX8_greatest_3 kc_56 rfl ?_
  refine V_callVpi (pc := 6) (As := []) (rest := [.int (0 : Int32), .ref (wB w + 56)]) (c_X4_everybody w 3 kc_3 σ) cw_X8_62 rfl rfl dX8_greatest_6 kc_3 rfl ⟨Nat.le_of_ble_eq_true rfl, Nat.le_of_ble_eq_true rfl⟩ rfl rfl (Nat.le_of_ble_eq_true rfl) (Nat.le_of_ble_eq_true rfl) (Nat.le_of_ble_eq_true rfl) rfl (fun q6 => ?_)
  refine V_callVpi (pc := 9) (As := [.int (0 : Int32), .int q6]) (rest := []) (c_X8_greatestFrom w n (0 : Int32) q6 σ) cw_X8_66 rfl rfl dX8_greatest_9 kc_56 rfl ⟨Nat.le_of_ble_eq_true rfl, Nat.le_of_ble_eq_true rfl⟩ rfl rfl (Nat.le_of_ble_eq_true rfl) (Nat.le_of_ble_eq_true rfl) (Nat.le_of_ble_eq_true rfl) rfl (fun q9 => ?_)
  exact V_ireti (pc := 12) dX8_greatest_12 rfl (hk := fun h => h)
def J_X2_isTold_85 (n : Nat)  (σ : MS) : Option (Int32) := some (0 : Int32)
def L_X2_isTold_28 (n : Nat)  (σ : MS) (a28 : Int32) : Option ((Int32) ⊕ (Int32)) := (if (σ 1 1) ≤ (a28 + (2 : Int32)) then (some (1 : Int32)).map Sum.inr else (if inb a28 400 then (if inb (a28 + (1 : Int32)) 400 then (if (σ 2 (ix (a28 + (1 : Int32)))) < (σ 2 (ix a28)) then (J_X2_isTold_85 n  σ).map Sum.inr else (if inb (a28 + (1 : Int32)) 400 then ((f_X4_has 3 (σ 2 (ix (a28 + (1 : Int32)))) σ).bind (fun q79 => (if q79 = 0 then (J_X2_isTold_85 n  σ).map Sum.inr else some (.inl ((a28 + (3 : Int32))))))) else none)) else none) else none))
def J_X2_isTold_24 (n : Nat)  (σ : MS) : Option (Int32) := some (0 : Int32)
def f_X2_isTold (n : Nat)  (σ : MS) : Option (Int32) := (if (36 : Int32) < (σ 1 1) then J_X2_isTold_24 n  σ else (if (remI (σ 1 1) (3 : Int32)) = 0 then itr (L_X2_isTold_28 n  σ) n ((0 : Int32)) else J_X2_isTold_24 n  σ))
set_option maxRecDepth 20000 in
set_option maxHeartbeats 2000000 in
theorem c_X2_isTold (w : TG) (n : Nat)  (σ : MS) : MC m_X2_isTold w [.ref (wB w + 60)] σ ((f_X2_isTold n  σ).map (fun r => (r, σ))) := by
  refine V_methp (by decide +kernel) (Nat.le_of_ble_eq_true rfl) (by intro v hv; simp only [List.mem_cons, List.not_mem_nil, or_false] at hv; subst hv; rfl) (fun g x => ?_)
  show VV m_X2_isTold w g 0 0 (QM m_X2_isTold w g x) (fun b : Int32 => (b, σ) = x) 0 [some (.ref (wB w + 60)), none] [] σ (f_X2_isTold n  σ)
  have hJ85 : ∀ (_ : Unit), VV m_X2_isTold w g 0 0 (QM m_X2_isTold w g x) (fun b : Int32 => (b, σ) = x) 85 [none, none] [] σ (J_X2_isTold_85 n  σ) := by
    intro _
    refine V_iconst (pc := 85) (v := (0 : Int32)) dX2_isTold_85 rfl ?_
    exact V_iretz (pc := 86) dX2_isTold_86 rfl rfl (hk := fun h => h)
  have hL28 : ∀  (n0 : Nat) (a : Int32), VV m_X2_isTold w g 0 0 (QM m_X2_isTold w g x) (fun b : Int32 => (b, σ) = x) 28 [some (.ref (wB w + 60)), some (.int a)] [] σ (itr (L_X2_isTold_28 n  σ) n0 a) := by
    refine V_itr (vf := fun a : Int32 => [some (.ref (wB w + 60)), some (.int a)]) (sf := fun a : Int32 => σ) (fun κ28 b28 r28 a28 => ?_)
    show VV m_X2_isTold w g 0 0 (QM m_X2_isTold w g x) κ28 28 [some (.ref (wB w + 60)), some (.int a28)] [] σ (L_X2_isTold_28 n  σ a28)
    refine V_iload_n (pc := 28) dX2_isTold_28 rfl rfl ?_
    refine V_iconst (pc := 29) (v := (2 : Int32)) dX2_isTold_29 rfl ?_
    refine V_iadd (pc := 30) dX2_isTold_30 ?_
    refine V_aload_n (pc := 31) dX2_isTold_31 rfl rfl ?_
    refine V_getr (pc := 32) (t := 1) fk_X2_19 rfl dX2_isTold_32 kc_60 rfl ?_
    refine V_geti (pc := 35) fk_X2_48 rfl dX2_isTold_35 kc_1 rfl ?_
    refine V_icmp_ge (pc := 38) (tgt := 93) dX2_isTold_38 (by decide) ?_ ?_
    · refine V_exit r28 ?_
      refine V_iconst (pc := 93) (v := (1 : Int32)) dX2_isTold_93 rfl ?_
      exact V_iretz (pc := 94) dX2_isTold_94 rfl rfl (hk := fun h => h)
    · refine V_aload_n (pc := 41) dX2_isTold_41 rfl rfl ?_
      refine V_getr (pc := 42) (t := 1) fk_X2_19 rfl dX2_isTold_42 kc_60 rfl ?_
      refine V_getr (pc := 45) (t := 2) fk_X2_53 rfl dX2_isTold_45 kc_1 rfl ?_
      refine V_iload_n (pc := 48) dX2_isTold_48 rfl rfl ?_
      refine V_iald (pc := 49) (n := 400) dX2_isTold_49 kc_2 lc_2 ?_
      refine V_aload_n (pc := 50) dX2_isTold_50 rfl rfl ?_
      refine V_getr (pc := 51) (t := 1) fk_X2_19 rfl dX2_isTold_51 kc_60 rfl ?_
      refine V_getr (pc := 54) (t := 2) fk_X2_53 rfl dX2_isTold_54 kc_1 rfl ?_
      refine V_iload_n (pc := 57) dX2_isTold_57 rfl rfl ?_
      refine V_iconst (pc := 58) (v := (1 : Int32)) dX2_isTold_58 rfl ?_
      refine V_iadd (pc := 59) dX2_isTold_59 ?_
      refine V_iald (pc := 60) (n := 400) dX2_isTold_60 kc_2 lc_2 ?_
      refine V_icmp_gt (pc := 61) (tgt := 85) dX2_isTold_61 (by decide) ?_ ?_
      · refine V_exit r28 ?_
        refine V_sub (vs' := [none, none]) (show vless _ _ from trivial) rfl ?_
        exact hJ85 ()
      · refine V_aload_n (pc := 64) dX2_isTold_64 rfl rfl ?_
        refine V_getr (pc := 65) (t := 3) fk_X2_15 rfl dX2_isTold_65 kc_60 rfl ?_
        refine V_aload_n (pc := 68) dX2_isTold_68 rfl rfl ?_
        refine V_getr (pc := 69) (t := 1) fk_X2_19 rfl dX2_isTold_69 kc_60 rfl ?_
        refine V_getr (pc := 72) (t := 2) fk_X2_53 rfl dX2_isTold_72 kc_1 rfl ?_
        refine V_iload_n (pc := 75) dX2_isTold_75 rfl rfl ?_
        refine V_iconst (pc := 76) (v := (1 : Int32)) dX2_isTold_76 rfl ?_
        refine V_iadd (pc := 77) dX2_isTold_77 ?_
        refine V_iald (pc := 78) (n := 400) dX2_isTold_78 kc_2 lc_2 ?_
        refine V_callVpi (pc := 79) (As := [.int (σ 2 (ix (a28 + (1 : Int32))))]) (rest := []) (c_X4_has w 3 (σ 2 (ix (a28 + (1 : Int32)))) kc_3 σ) cw_X2_56 rfl rfl dX2_isTold_79 kc_3 rfl ⟨Nat.le_of_ble_eq_true rfl, Nat.le_of_ble_eq_true rfl⟩ rfl rfl (Nat.le_of_ble_eq_true rfl) (Nat.le_of_ble_eq_true rfl) (Nat.le_of_ble_eq_true rfl) rfl (fun q79 => ?_)
        refine V_if_ne (pc := 82) (tgt := 87) dX2_isTold_82 (by decide) ?_ ?_
        · refine V_iinc (pc := 87) (v := (a28 + (3 : Int32))) (vs' := [some (.ref (wB w + 60)), some (.int (a28 + (3 : Int32)))]) dX2_isTold_87 (Nat.le_of_ble_eq_true rfl) rfl rfl rfl ?_
          refine V_goto (pc := 90) (tgt := 28) dX2_isTold_90 (by decide) ?_
          exact V_back (b28 ((a28 + (3 : Int32))))
        · refine V_exit r28 ?_
          refine V_sub (vs' := [none, none]) (show vless _ _ from trivial) rfl ?_
          exact hJ85 ()
  have hJ24 : ∀ (_ : Unit), VV m_X2_isTold w g 0 0 (QM m_X2_isTold w g x) (fun b : Int32 => (b, σ) = x) 24 [none, none] [] σ (J_X2_isTold_24 n  σ) := by
    intro _
    refine V_iconst (pc := 24) (v := (0 : Int32)) dX2_isTold_24 rfl ?_
    exact V_iretz (pc := 25) dX2_isTold_25 rfl rfl (hk := fun h => h)
  refine V_aload_n (pc := 0) dX2_isTold_0 rfl rfl ?_
  refine V_getr (pc := 1) (t := 1) fk_X2_19 rfl dX2_isTold_1 kc_60 rfl ?_
  refine V_geti (pc := 4) fk_X2_48 rfl dX2_isTold_4 kc_1 rfl ?_
  refine V_bipush (pc := 7) (v := (36 : Int32)) dX2_isTold_7 rfl ?_
  refine V_icmp_gt (pc := 9) (tgt := 24) dX2_isTold_9 (by decide) ?_ ?_
  · refine V_sub (vs' := [none, none]) (show vless _ _ from trivial) rfl ?_
    exact hJ24 ()
  · refine V_aload_n (pc := 12) dX2_isTold_12 rfl rfl ?_
    refine V_getr (pc := 13) (t := 1) fk_X2_19 rfl dX2_isTold_13 kc_60 rfl ?_
    refine V_geti (pc := 16) fk_X2_48 rfl dX2_isTold_16 kc_1 rfl ?_
    refine V_iconst (pc := 19) (v := (3 : Int32)) dX2_isTold_19 rfl ?_
    refine V_irem (pc := 20) dX2_isTold_20 (by decide) ?_
    refine V_if_eq (pc := 21) (tgt := 26) dX2_isTold_21 (by decide) ?_ ?_
    · refine V_iconst (pc := 26) (v := (0 : Int32)) dX2_isTold_26 rfl ?_
      refine V_istore_n (pc := 27) (vs' := [some (.ref (wB w + 60)), some (.int (0 : Int32))]) dX2_isTold_27 rfl (Nat.le_of_ble_eq_true rfl) (Nat.le_of_ble_eq_true rfl) rfl ?_
      exact hL28 n ((0 : Int32))
    · refine V_sub (vs' := [none, none]) (show vless _ _ from trivial) rfl ?_
      exact hJ24 ()
def L_X2_fits_2 (n : Nat) (v1 : Int32) (σ : MS) (a2 : Int32) : Option ((Int32) ⊕ (Int32)) := (if (σ 1 1) ≤ (a2 + (2 : Int32)) then (some (1 : Int32)).map Sum.inr else (if inb (a2 + (1 : Int32)) 400 then (if inb a2 400 then ((f_J6_bitCount_0f7a4 (v1 &&& ((shlI (2 : Int32) (σ 2 (ix (a2 + (1 : Int32))))) - (shlI (1 : Int32) (σ 2 (ix a2))))) σ).bind (fun q44 => (if inb (a2 + (2 : Int32)) 400 then (if q44 = (σ 2 (ix (a2 + (2 : Int32)))) then some (.inl ((a2 + (3 : Int32)))) else (some (0 : Int32)).map Sum.inr) else none))) else none) else none))
def f_X2_fits (n : Nat) (p1 : Int32) (σ : MS) : Option (Int32) := itr (L_X2_fits_2 n p1 σ) n ((0 : Int32))
set_option maxRecDepth 20000 in
set_option maxHeartbeats 2000000 in
theorem c_X2_fits (w : TG) (n : Nat) (p1 : Int32) (σ : MS) : MC m_X2_fits w [.ref (wB w + 60), .int p1] σ ((f_X2_fits n p1 σ).map (fun r => (r, σ))) := by
  refine V_methp (by decide +kernel) (Nat.le_of_ble_eq_true rfl) (by intro v hv; simp only [List.mem_cons, List.not_mem_nil, or_false] at hv; rcases hv with rfl | rfl <;> rfl) (fun g x => ?_)
  show VV m_X2_fits w g 0 0 (QM m_X2_fits w g x) (fun b : Int32 => (b, σ) = x) 0 [some (.ref (wB w + 60)), some (.int p1), none, none] [] σ (f_X2_fits n p1 σ)
  have hL2 : ∀  (n0 : Nat) (a : Int32), VV m_X2_fits w g 0 0 (QM m_X2_fits w g x) (fun b : Int32 => (b, σ) = x) 2 [some (.ref (wB w + 60)), some (.int p1), some (.int a), none] [] σ (itr (L_X2_fits_2 n p1 σ) n0 a) := by
    refine V_itr (vf := fun a : Int32 => [some (.ref (wB w + 60)), some (.int p1), some (.int a), none]) (sf := fun a : Int32 => σ) (fun κ2 b2 r2 a2 => ?_)
    show VV m_X2_fits w g 0 0 (QM m_X2_fits w g x) κ2 2 [some (.ref (wB w + 60)), some (.int p1), some (.int a2), none] [] σ (L_X2_fits_2 n p1 σ a2)
    refine V_iload_n (pc := 2) dX2_fits_2 rfl rfl ?_
    refine V_iconst (pc := 3) (v := (2 : Int32)) dX2_fits_3 rfl ?_
    refine V_iadd (pc := 4) dX2_fits_4 ?_
    refine V_aload_n (pc := 5) dX2_fits_5 rfl rfl ?_
    refine V_getr (pc := 6) (t := 1) fk_X2_19 rfl dX2_fits_6 kc_60 rfl ?_
    refine V_geti (pc := 9) fk_X2_48 rfl dX2_fits_9 kc_1 rfl ?_
    refine V_icmp_ge (pc := 12) (tgt := 69) dX2_fits_12 (by decide) ?_ ?_
    · refine V_exit r2 ?_
      refine V_iconst (pc := 69) (v := (1 : Int32)) dX2_fits_69 rfl ?_
      exact V_iretz (pc := 70) dX2_fits_70 rfl rfl (hk := fun h => h)
    · refine V_iconst (pc := 15) (v := (2 : Int32)) dX2_fits_15 rfl ?_
      refine V_aload_n (pc := 16) dX2_fits_16 rfl rfl ?_
      refine V_getr (pc := 17) (t := 1) fk_X2_19 rfl dX2_fits_17 kc_60 rfl ?_
      refine V_getr (pc := 20) (t := 2) fk_X2_53 rfl dX2_fits_20 kc_1 rfl ?_
      refine V_iload_n (pc := 23) dX2_fits_23 rfl rfl ?_
      refine V_iconst (pc := 24) (v := (1 : Int32)) dX2_fits_24 rfl ?_
      refine V_iadd (pc := 25) dX2_fits_25 ?_
      refine V_iald (pc := 26) (n := 400) dX2_fits_26 kc_2 lc_2 ?_
      refine V_ishl (pc := 27) dX2_fits_27 ?_
      refine V_iconst (pc := 28) (v := (1 : Int32)) dX2_fits_28 rfl ?_
      refine V_aload_n (pc := 29) dX2_fits_29 rfl rfl ?_
      refine V_getr (pc := 30) (t := 1) fk_X2_19 rfl dX2_fits_30 kc_60 rfl ?_
      refine V_getr (pc := 33) (t := 2) fk_X2_53 rfl dX2_fits_33 kc_1 rfl ?_
      refine V_iload_n (pc := 36) dX2_fits_36 rfl rfl ?_
      refine V_iald (pc := 37) (n := 400) dX2_fits_37 kc_2 lc_2 ?_
      refine V_ishl (pc := 38) dX2_fits_38 ?_
      refine V_isub (pc := 39) dX2_fits_39 ?_
      refine V_istore_n (pc := 40) (vs' := [some (.ref (wB w + 60)), some (.int p1), some (.int a2), some (.int ((shlI (2 : Int32) (σ 2 (ix (a2 + (1 : Int32))))) - (shlI (1 : Int32) (σ 2 (ix a2)))))]) dX2_fits_40 rfl (Nat.le_of_ble_eq_true rfl) (Nat.le_of_ble_eq_true rfl) rfl ?_
      refine V_iload_n (pc := 41) dX2_fits_41 rfl rfl ?_
      refine V_iload_n (pc := 42) dX2_fits_42 rfl rfl ?_
      refine V_iand (pc := 43) dX2_fits_43 ?_
      refine V_callSpi (pc := 44) (As := [.int (p1 &&& ((shlI (2 : Int32) (σ 2 (ix (a2 + (1 : Int32))))) - (shlI (1 : Int32) (σ 2 (ix a2)))))]) (rest := []) (c_J6_bitCount_0f7a4 w (p1 &&& ((shlI (2 : Int32) (σ 2 (ix (a2 + (1 : Int32))))) - (shlI (1 : Int32) (σ 2 (ix a2))))) σ) cs_X2_59 rfl rfl dX2_fits_44 ⟨Nat.le_of_ble_eq_true rfl, Nat.le_of_ble_eq_true rfl⟩ rfl rfl (Nat.le_of_ble_eq_true rfl) (Nat.le_of_ble_eq_true rfl) (Nat.le_of_ble_eq_true rfl) rfl (fun q44 => ?_)
      refine V_aload_n (pc := 47) dX2_fits_47 rfl rfl ?_
      refine V_getr (pc := 48) (t := 1) fk_X2_19 rfl dX2_fits_48 kc_60 rfl ?_
      refine V_getr (pc := 51) (t := 2) fk_X2_53 rfl dX2_fits_51 kc_1 rfl ?_
      refine V_iload_n (pc := 54) dX2_fits_54 rfl rfl ?_
      refine V_iconst (pc := 55) (v := (2 : Int32)) dX2_fits_55 rfl ?_
      refine V_iadd (pc := 56) dX2_fits_56 ?_
      refine V_iald (pc := 57) (n := 400) dX2_fits_57 kc_2 lc_2 ?_
      refine V_icmp_eq (pc := 58) (tgt := 63) dX2_fits_58 (by decide) ?_ ?_
      · refine V_iinc (pc := 63) (v := (a2 + (3 : Int32))) (vs' := [some (.ref (wB w + 60)), some (.int p1), some (.int (a2 + (3 : Int32))), some (.int ((shlI (2 : Int32) (σ 2 (ix (a2 + (1 : Int32))))) - (shlI (1 : Int32) (σ 2 (ix a2)))))]) dX2_fits_63 (Nat.le_of_ble_eq_true rfl) rfl rfl rfl ?_
        refine V_goto (pc := 66) (tgt := 2) dX2_fits_66 (by decide) ?_
        refine V_sub (vs' := [some (.ref (wB w + 60)), some (.int p1), some (.int (a2 + (3 : Int32))), none]) (show vless _ _ from ⟨rfl, ⟨rfl, ⟨rfl, trivial⟩⟩⟩) rfl ?_
        exact V_back (b2 ((a2 + (3 : Int32))))
      · refine V_exit r2 ?_
        refine V_iconst (pc := 61) (v := (0 : Int32)) dX2_fits_61 rfl ?_
        exact V_iretz (pc := 62) dX2_fits_62 rfl rfl (hk := fun h => h)
  refine V_iconst (pc := 0) (v := (0 : Int32)) dX2_fits_0 rfl ?_
  refine V_istore_n (pc := 1) (vs' := [some (.ref (wB w + 60)), some (.int p1), some (.int (0 : Int32)), none]) dX2_fits_1 rfl (Nat.le_of_ble_eq_true rfl) (Nat.le_of_ble_eq_true rfl) rfl ?_
  exact hL2 n ((0 : Int32))
def J_X2_add_51 (n : Nat) (v1 : Int32) (v2 : Int32) (σ : MS) : Option ((Int32 × MS) ⊕ (Int32 × MS)) := some (.inl ((v2 + (1 : Int32)), σ))
def L_X2_add_22 (n : Nat) (v1 : Int32) (σ : MS) (a22 : Int32 × MS) : Option ((Int32 × MS) ⊕ (Int32 × MS)) := (if (a22.2 3 0) ≤ a22.1 then (some (0, a22.2)).map Sum.inr else (if (v1 &&& (shlI (1 : Int32) a22.1)) = 0 then J_X2_add_51 n v1 a22.1 a22.2 else (if inb a22.1 8 then (if inb a22.1 8 then ltM (mu a22.2 61 (ix a22.1) ((a22.2 61 (ix a22.1)) + (1 : Int32))) (fun s50 => J_X2_add_51 n v1 a22.1 s50) else none) else none)))
def f_X2_add (n : Nat) (p1 : Int32) (σ : MS) : Option (Int32 × MS) := (ltM (mu σ 60 3 ((σ 60 3) + (1 : Int32))) (fun s7 => (ltM (mu s7 60 4 ((s7 60 4) &&& p1)) (fun s17 => itr (L_X2_add_22 n p1 σ) n ((0 : Int32), s17)))))
set_option maxRecDepth 20000 in
set_option maxHeartbeats 2000000 in
theorem c_X2_add (w : TG) (n : Nat) (p1 : Int32) (σ : MS) : MC m_X2_add w [.ref (wB w + 60), .int p1] σ (f_X2_add n p1 σ) := by
  refine V_meth (by decide +kernel) (Nat.le_of_ble_eq_true rfl) (by intro v hv; simp only [List.mem_cons, List.not_mem_nil, or_false] at hv; rcases hv with rfl | rfl <;> rfl) (fun g x => ?_)
  show VV m_X2_add w g 0 0 (QM m_X2_add w g x) (fun b : Int32 × MS => b = x) 0 [some (.ref (wB w + 60)), some (.int p1), none] [] σ (f_X2_add n p1 σ)
  have hL22 : ∀  (n0 : Nat) (a : Int32 × MS), VV m_X2_add w g 0 0 (QM m_X2_add w g x) (fun b : Int32 × MS => b = x) 22 [some (.ref (wB w + 60)), some (.int p1), some (.int a.1)] [] a.2 (itr (L_X2_add_22 n p1 σ) n0 a) := by
    refine V_itr (vf := fun a : Int32 × MS => [some (.ref (wB w + 60)), some (.int p1), some (.int a.1)]) (sf := fun a : Int32 × MS => a.2) (fun κ22 b22 r22 a22 => ?_)
    show VV m_X2_add w g 0 0 (QM m_X2_add w g x) κ22 22 [some (.ref (wB w + 60)), some (.int p1), some (.int a22.1)] [] a22.2 (L_X2_add_22 n p1 σ a22)
    have hJ51 : ∀ (v2 : Int32) (σ : MS), VV m_X2_add w g 0 0 (QM m_X2_add w g x) κ22 51 [some (.ref (wB w + 60)), some (.int p1), some (.int v2)] [] σ (J_X2_add_51 n p1 v2 σ) := by
      intro v2 σ
      refine V_iinc (pc := 51) (v := (v2 + (1 : Int32))) (vs' := [some (.ref (wB w + 60)), some (.int p1), some (.int (v2 + (1 : Int32)))]) dX2_add_51 (Nat.le_of_ble_eq_true rfl) rfl rfl rfl ?_
      refine V_goto (pc := 54) (tgt := 22) dX2_add_54 (by decide) ?_
      exact V_back (b22 ((v2 + (1 : Int32)), σ))
    refine V_iload_n (pc := 22) dX2_add_22 rfl rfl ?_
    refine V_aload_n (pc := 23) dX2_add_23 rfl rfl ?_
    refine V_getr (pc := 24) (t := 3) fk_X2_15 rfl dX2_add_24 kc_60 rfl ?_
    refine V_geti (pc := 27) fk_X2_65 rfl dX2_add_27 kc_3 rfl ?_
    refine V_icmp_ge (pc := 30) (tgt := 57) dX2_add_30 (by decide) ?_ ?_
    · refine V_exit r22 ?_
      exact V_ret (pc := 57) dX2_add_57 rfl (hk := fun h => h)
    · refine V_iload_n (pc := 33) dX2_add_33 rfl rfl ?_
      refine V_iconst (pc := 34) (v := (1 : Int32)) dX2_add_34 rfl ?_
      refine V_iload_n (pc := 35) dX2_add_35 rfl rfl ?_
      refine V_ishl (pc := 36) dX2_add_36 ?_
      refine V_iand (pc := 37) dX2_add_37 ?_
      refine V_if_eq (pc := 38) (tgt := 51) dX2_add_38 (by decide) ?_ ?_
      · exact hJ51 a22.1 a22.2
      · refine V_aload_n (pc := 41) dX2_add_41 rfl rfl ?_
        refine V_getr (pc := 42) (t := 61) fk_X2_9 rfl dX2_add_42 kc_60 rfl ?_
        refine V_iload_n (pc := 45) dX2_add_45 rfl rfl ?_
        refine V_dup2 (pc := 46) dX2_add_46 rfl rfl ?_
        refine V_iald (pc := 47) (n := 8) dX2_add_47 kc_61 lc_61 ?_
        refine V_iconst (pc := 48) (v := (1 : Int32)) dX2_add_48 rfl ?_
        refine V_iadd (pc := 49) dX2_add_49 ?_
        refine V_iast (pc := 50) (n := 8) dX2_add_50 kc_61 lc_61 (fun s50 => ?_)
        exact hJ51 a22.1 s50
  refine V_aload_n (pc := 0) dX2_add_0 rfl rfl ?_
  refine V_dup (pc := 1) dX2_add_1 rfl ?_
  refine V_geti (pc := 2) fk_X2_27 rfl dX2_add_2 kc_60 rfl ?_
  refine V_iconst (pc := 5) (v := (1 : Int32)) dX2_add_5 rfl ?_
  refine V_iadd (pc := 6) dX2_add_6 ?_
  refine V_puti (pc := 7) fp_X2_27 rfl dX2_add_7 kc_60 rfl (fun s7 => ?_)
  refine V_aload_n (pc := 10) dX2_add_10 rfl rfl ?_
  refine V_dup (pc := 11) dX2_add_11 rfl ?_
  refine V_geti (pc := 12) fk_X2_37 rfl dX2_add_12 kc_60 rfl ?_
  refine V_iload_n (pc := 15) dX2_add_15 rfl rfl ?_
  refine V_iand (pc := 16) dX2_add_16 ?_
  refine V_puti (pc := 17) fp_X2_37 rfl dX2_add_17 kc_60 rfl (fun s17 => ?_)
  refine V_iconst (pc := 20) (v := (0 : Int32)) dX2_add_20 rfl ?_
  refine V_istore_n (pc := 21) (vs' := [some (.ref (wB w + 60)), some (.int p1), some (.int (0 : Int32))]) dX2_add_21 rfl (Nat.le_of_ble_eq_true rfl) (Nat.le_of_ble_eq_true rfl) rfl ?_
  exact hL22 n ((0 : Int32), s17)
def J_X2_weigh_90 (n : Nat)  (σ : MS) : Option (Int32 × MS) := some ((1 : Int32), σ)
def J_X2_weigh_72 (n : Nat) (v1 : Int32) (σ : MS) : Option ((Int32 × MS) ⊕ (Int32 × MS)) := some (.inl ((v1 + (1 : Int32)), σ))
def L_X2_weigh_48 (n : Nat)  (σ : MS) (a48 : Int32 × MS) : Option ((Int32 × MS) ⊕ (Int32 × MS)) := ((f_X4_everybody 3 a48.2).bind (fun q53 => (if q53 < a48.1 then ((if (a48.2 60 3) = 0 then (ltM (mu a48.2 60 4 (0 : Int32)) (fun s87 => J_X2_weigh_90 n  s87)) else J_X2_weigh_90 n  a48.2)).map Sum.inr else ((f_X2_fits n a48.1 a48.2).bind (fun q61 => (if q61 = 0 then J_X2_weigh_72 n a48.1 a48.2 else ((f_X2_add n a48.1 a48.2).bind (fun q69 => J_X2_weigh_72 n a48.1 q69.2))))))))
def L_X2_weigh_27 (n : Nat)  (σ : MS) (a27 : Int32 × MS) : Option ((Int32 × MS) ⊕ (Int32 × MS)) := (if (8 : Int32) ≤ a27.1 then (itr (L_X2_weigh_48 n  σ) n ((0 : Int32), a27.2)).map Sum.inr else (if inb a27.1 8 then ltM (mu a27.2 61 (ix a27.1) (0 : Int32)) (fun s39 => some (.inl ((a27.1 + (1 : Int32)), s39))) else none))
def f_X2_weigh (n : Nat)  (σ : MS) : Option (Int32 × MS) := ((f_X2_isTold n  σ).bind (fun q1 => (if q1 = 0 then some ((0 : Int32), σ) else (ltM (mu σ 60 3 (0 : Int32)) (fun s11 => ((f_X4_everybody 3 s11).bind (fun q19 => (ltM (mu s11 60 4 q19) (fun s22 => itr (L_X2_weigh_27 n  σ) n ((0 : Int32), s22))))))))))
set_option maxRecDepth 20000 in
set_option maxHeartbeats 2000000 in
theorem c_X2_weigh (w : TG) (n : Nat)  (σ : MS) : MC m_X2_weigh w [.ref (wB w + 60)] σ (f_X2_weigh n  σ) := by
  refine V_meth (by decide +kernel) (Nat.le_of_ble_eq_true rfl) (by intro v hv; simp only [List.mem_cons, List.not_mem_nil, or_false] at hv; subst hv; rfl) (fun g x => ?_)
  show VV m_X2_weigh w g 0 0 (QM m_X2_weigh w g x) (fun b : Int32 × MS => b = x) 0 [some (.ref (wB w + 60)), none] [] σ (f_X2_weigh n  σ)
  have hJ90 : ∀ (σ : MS), VV m_X2_weigh w g 0 0 (QM m_X2_weigh w g x) (fun b : Int32 × MS => b = x) 90 [none, none] [] σ (J_X2_weigh_90 n  σ) := by
    intro σ
    refine V_iconst (pc := 90) (v := (1 : Int32)) dX2_weigh_90 rfl ?_
    exact V_iretz (pc := 91) dX2_weigh_91 rfl rfl (hk := fun h => h)
  have hL48 : ∀  (n0 : Nat) (a : Int32 × MS), VV m_X2_weigh w g 0 0 (QM m_X2_weigh w g x) (fun b : Int32 × MS => b = x) 48 [some (.ref (wB w + 60)), some (.int a.1)] [] a.2 (itr (L_X2_weigh_48 n  σ) n0 a) := by
    refine V_itr (vf := fun a : Int32 × MS => [some (.ref (wB w + 60)), some (.int a.1)]) (sf := fun a : Int32 × MS => a.2) (fun κ48 b48 r48 a48 => ?_)
    show VV m_X2_weigh w g 0 0 (QM m_X2_weigh w g x) κ48 48 [some (.ref (wB w + 60)), some (.int a48.1)] [] a48.2 (L_X2_weigh_48 n  σ a48)
    have hJ72 : ∀ (v1 : Int32) (σ : MS), VV m_X2_weigh w g 0 0 (QM m_X2_weigh w g x) κ48 72 [some (.ref (wB w + 60)), some (.int v1)] [] σ (J_X2_weigh_72 n v1 σ) := by
      intro v1 σ
      refine V_iinc (pc := 72) (v := (v1 + (1 : Int32))) (vs' := [some (.ref (wB w + 60)), some (.int (v1 + (1 : Int32)))]) dX2_weigh_72 (Nat.le_of_ble_eq_true rfl) rfl rfl rfl ?_
      refine V_goto (pc := 75) (tgt := 48) dX2_weigh_75 (by decide) ?_
      exact V_back (b48 ((v1 + (1 : Int32)), σ))
    refine V_iload_n (pc := 48) dX2_weigh_48 rfl rfl ?_
    refine V_aload_n (pc := 49) dX2_weigh_49 rfl rfl ?_
    refine V_getr (pc := 50) (t := 3) fk_X2_15 rfl dX2_weigh_50 kc_60 rfl ?_
    refine V_callVpi (pc := 53) (As := []) (rest := [.int a48.1]) (c_X4_everybody w 3 kc_3 a48.2) cw_X2_31 rfl rfl dX2_weigh_53 kc_3 rfl ⟨Nat.le_of_ble_eq_true rfl, Nat.le_of_ble_eq_true rfl⟩ rfl rfl (Nat.le_of_ble_eq_true rfl) (Nat.le_of_ble_eq_true rfl) (Nat.le_of_ble_eq_true rfl) rfl (fun q53 => ?_)
    refine V_icmp_gt (pc := 56) (tgt := 78) dX2_weigh_56 (by decide) ?_ ?_
    · refine V_exit r48 ?_
      refine V_aload_n (pc := 78) dX2_weigh_78 rfl rfl ?_
      refine V_geti (pc := 79) fk_X2_27 rfl dX2_weigh_79 kc_60 rfl ?_
      refine V_if_ne (pc := 82) (tgt := 90) dX2_weigh_82 (by decide) ?_ ?_
      · refine V_sub (vs' := [none, none]) (show vless _ _ from trivial) rfl ?_
        exact hJ90 a48.2
      · refine V_aload_n (pc := 85) dX2_weigh_85 rfl rfl ?_
        refine V_iconst (pc := 86) (v := (0 : Int32)) dX2_weigh_86 rfl ?_
        refine V_puti (pc := 87) fp_X2_37 rfl dX2_weigh_87 kc_60 rfl (fun s87 => ?_)
        refine V_sub (vs' := [none, none]) (show vless _ _ from trivial) rfl ?_
        exact hJ90 s87
    · refine V_aload_n (pc := 59) dX2_weigh_59 rfl rfl ?_
      refine V_iload_n (pc := 60) dX2_weigh_60 rfl rfl ?_
      refine V_callVpi (pc := 61) (As := [.int a48.1]) (rest := []) (c_X2_fits w n a48.1 a48.2) cw_X2_40 rfl rfl dX2_weigh_61 kc_60 rfl ⟨Nat.le_of_ble_eq_true rfl, Nat.le_of_ble_eq_true rfl⟩ rfl rfl (Nat.le_of_ble_eq_true rfl) (Nat.le_of_ble_eq_true rfl) (Nat.le_of_ble_eq_true rfl) rfl (fun q61 => ?_)
      refine V_if_eq (pc := 64) (tgt := 72) dX2_weigh_64 (by decide) ?_ ?_
      · exact hJ72 a48.1 a48.2
      · refine V_aload_n (pc := 67) dX2_weigh_67 rfl rfl ?_
        refine V_iload_n (pc := 68) dX2_weigh_68 rfl rfl ?_
        refine V_callVv (pc := 69) (As := [.int a48.1]) (rest := []) (c_X2_add w n a48.1 a48.2) cw_X2_44 rfl rfl dX2_weigh_69 kc_60 rfl ⟨Nat.le_of_ble_eq_true rfl, Nat.le_of_ble_eq_true rfl⟩ rfl rfl (Nat.le_of_ble_eq_true rfl) (Nat.le_of_ble_eq_true rfl) (Nat.le_of_ble_eq_true rfl) rfl (fun q69 => ?_)
        exact hJ72 a48.1 q69.2
  have hL27 : ∀  (n0 : Nat) (a : Int32 × MS), VV m_X2_weigh w g 0 0 (QM m_X2_weigh w g x) (fun b : Int32 × MS => b = x) 27 [some (.ref (wB w + 60)), some (.int a.1)] [] a.2 (itr (L_X2_weigh_27 n  σ) n0 a) := by
    refine V_itr (vf := fun a : Int32 × MS => [some (.ref (wB w + 60)), some (.int a.1)]) (sf := fun a : Int32 × MS => a.2) (fun κ27 b27 r27 a27 => ?_)
    show VV m_X2_weigh w g 0 0 (QM m_X2_weigh w g x) κ27 27 [some (.ref (wB w + 60)), some (.int a27.1)] [] a27.2 (L_X2_weigh_27 n  σ a27)
    refine V_iload_n (pc := 27) dX2_weigh_27 rfl rfl ?_
    refine V_bipush (pc := 28) (v := (8 : Int32)) dX2_weigh_28 rfl ?_
    refine V_icmp_ge (pc := 30) (tgt := 46) dX2_weigh_30 (by decide) ?_ ?_
    · refine V_exit r27 ?_
      refine V_iconst (pc := 46) (v := (0 : Int32)) dX2_weigh_46 rfl ?_
      refine V_istore_n (pc := 47) (vs' := [some (.ref (wB w + 60)), some (.int (0 : Int32))]) dX2_weigh_47 rfl (Nat.le_of_ble_eq_true rfl) (Nat.le_of_ble_eq_true rfl) rfl ?_
      exact hL48 n ((0 : Int32), a27.2)
    · refine V_aload_n (pc := 33) dX2_weigh_33 rfl rfl ?_
      refine V_getr (pc := 34) (t := 61) fk_X2_9 rfl dX2_weigh_34 kc_60 rfl ?_
      refine V_iload_n (pc := 37) dX2_weigh_37 rfl rfl ?_
      refine V_iconst (pc := 38) (v := (0 : Int32)) dX2_weigh_38 rfl ?_
      refine V_iast (pc := 39) (n := 8) dX2_weigh_39 kc_61 lc_61 (fun s39 => ?_)
      refine V_iinc (pc := 40) (v := (a27.1 + (1 : Int32))) (vs' := [some (.ref (wB w + 60)), some (.int (a27.1 + (1 : Int32)))]) dX2_weigh_40 (Nat.le_of_ble_eq_true rfl) rfl rfl rfl ?_
      refine V_goto (pc := 43) (tgt := 27) dX2_weigh_43 (by decide) ?_
      exact V_back (b27 ((a27.1 + (1 : Int32)), s39))
  refine V_aload_n (pc := 0) dX2_weigh_0 rfl rfl ?_
  refine V_callVpi (pc := 1) (As := []) (rest := []) (c_X2_isTold w n  σ) cw_X2_23 rfl rfl dX2_weigh_1 kc_60 rfl ⟨Nat.le_of_ble_eq_true rfl, Nat.le_of_ble_eq_true rfl⟩ rfl rfl (Nat.le_of_ble_eq_true rfl) (Nat.le_of_ble_eq_true rfl) (Nat.le_of_ble_eq_true rfl) rfl (fun q1 => ?_)
  refine V_if_ne (pc := 4) (tgt := 9) dX2_weigh_4 (by decide) ?_ ?_
  · refine V_aload_n (pc := 9) dX2_weigh_9 rfl rfl ?_
    refine V_iconst (pc := 10) (v := (0 : Int32)) dX2_weigh_10 rfl ?_
    refine V_puti (pc := 11) fp_X2_27 rfl dX2_weigh_11 kc_60 rfl (fun s11 => ?_)
    refine V_aload_n (pc := 14) dX2_weigh_14 rfl rfl ?_
    refine V_aload_n (pc := 15) dX2_weigh_15 rfl rfl ?_
    refine V_getr (pc := 16) (t := 3) fk_X2_15 rfl dX2_weigh_16 kc_60 rfl ?_
    refine V_callVpi (pc := 19) (As := []) (rest := [.ref (wB w + 60)]) (c_X4_everybody w 3 kc_3 s11) cw_X2_31 rfl rfl dX2_weigh_19 kc_3 rfl ⟨Nat.le_of_ble_eq_true rfl, Nat.le_of_ble_eq_true rfl⟩ rfl rfl (Nat.le_of_ble_eq_true rfl) (Nat.le_of_ble_eq_true rfl) (Nat.le_of_ble_eq_true rfl) rfl (fun q19 => ?_)
    refine V_puti (pc := 22) fp_X2_37 rfl dX2_weigh_22 kc_60 rfl (fun s22 => ?_)
    refine V_iconst (pc := 25) (v := (0 : Int32)) dX2_weigh_25 rfl ?_
    refine V_istore_n (pc := 26) (vs' := [some (.ref (wB w + 60)), some (.int (0 : Int32))]) dX2_weigh_26 rfl (Nat.le_of_ble_eq_true rfl) (Nat.le_of_ble_eq_true rfl) rfl ?_
    exact hL27 n ((0 : Int32), s22)
  · refine V_iconst (pc := 7) (v := (0 : Int32)) dX2_weigh_7 rfl ?_
    exact V_iretz (pc := 8) dX2_weigh_8 rfl rfl (hk := fun h => h)
def J_X2_parting_65 (n : Nat) (v1 : Int32) (v2 : Int32) (v3 : Int32) (σ : MS) : Option ((Int32 × Int32 × Int32) ⊕ (Int32)) := some (.inl (v1, v2, (v3 + (1 : Int32))))
def L_X2_parting_21 (n : Nat)  (σ : MS) (a21 : Int32 × Int32 × Int32) : Option ((Int32 × Int32 × Int32) ⊕ (Int32)) := (if (σ 3 0) ≤ a21.2.2 then (some a21.2.1).map Sum.inr else (if inb a21.2.2 8 then (if inb a21.2.2 8 then (if a21.1 ≤ (mxI (σ 61 (ix a21.2.2)) ((σ 60 3) - (σ 61 (ix a21.2.2)))) then J_X2_parting_65 n a21.1 a21.2.1 a21.2.2 σ else J_X2_parting_65 n (mxI (σ 61 (ix a21.2.2)) ((σ 60 3) - (σ 61 (ix a21.2.2)))) a21.2.2 a21.2.2 σ) else none) else none))
def f_X2_parting (n : Nat)  (σ : MS) : Option (Int32) := (if (2 : Int32) ≤ (σ 60 3) then itr (L_X2_parting_21 n  σ) n (((σ 60 3) + (1 : Int32)), (-1 : Int32), (0 : Int32)) else some (-1 : Int32))
set_option maxRecDepth 20000 in
set_option maxHeartbeats 2000000 in
theorem c_X2_parting (w : TG) (n : Nat)  (σ : MS) : MC m_X2_parting w [.ref (wB w + 60)] σ ((f_X2_parting n  σ).map (fun r => (r, σ))) := by
  refine V_methp (by decide +kernel) (Nat.le_of_ble_eq_true rfl) (by intro v hv; simp only [List.mem_cons, List.not_mem_nil, or_false] at hv; subst hv; rfl) (fun g x => ?_)
  show VV m_X2_parting w g 0 0 (QM m_X2_parting w g x) (fun b : Int32 => (b, σ) = x) 0 [some (.ref (wB w + 60)), none, none, none, none] [] σ (f_X2_parting n  σ)
  have hL21 : ∀  (n0 : Nat) (a : Int32 × Int32 × Int32), VV m_X2_parting w g 0 0 (QM m_X2_parting w g x) (fun b : Int32 => (b, σ) = x) 21 [some (.ref (wB w + 60)), some (.int a.1), some (.int a.2.1), some (.int a.2.2), none] [] σ (itr (L_X2_parting_21 n  σ) n0 a) := by
    refine V_itr (vf := fun a : Int32 × Int32 × Int32 => [some (.ref (wB w + 60)), some (.int a.1), some (.int a.2.1), some (.int a.2.2), none]) (sf := fun a : Int32 × Int32 × Int32 => σ) (fun κ21 b21 r21 a21 => ?_)
    show VV m_X2_parting w g 0 0 (QM m_X2_parting w g x) κ21 21 [some (.ref (wB w + 60)), some (.int a21.1), some (.int a21.2.1), some (.int a21.2.2), none] [] σ (L_X2_parting_21 n  σ a21)
    have hJ65 : ∀ (v1 : Int32) (v2 : Int32) (v3 : Int32), VV m_X2_parting w g 0 0 (QM m_X2_parting w g x) κ21 65 [some (.ref (wB w + 60)), some (.int v1), some (.int v2), some (.int v3), none] [] σ (J_X2_parting_65 n v1 v2 v3 σ) := by
      intro v1 v2 v3
      refine V_iinc (pc := 65) (v := (v3 + (1 : Int32))) (vs' := [some (.ref (wB w + 60)), some (.int v1), some (.int v2), some (.int (v3 + (1 : Int32))), none]) dX2_parting_65 (Nat.le_of_ble_eq_true rfl) rfl rfl rfl ?_
      refine V_goto (pc := 68) (tgt := 21) dX2_parting_68 (by decide) ?_
      exact V_back (b21 (v1, v2, (v3 + (1 : Int32))))
    refine V_iload_n (pc := 21) dX2_parting_21 rfl rfl ?_
    refine V_aload_n (pc := 22) dX2_parting_22 rfl rfl ?_
    refine V_getr (pc := 23) (t := 3) fk_X2_15 rfl dX2_parting_23 kc_60 rfl ?_
    refine V_geti (pc := 26) fk_X2_65 rfl dX2_parting_26 kc_3 rfl ?_
    refine V_icmp_ge (pc := 29) (tgt := 71) dX2_parting_29 (by decide) ?_ ?_
    · refine V_exit r21 ?_
      refine V_iload_n (pc := 71) dX2_parting_71 rfl rfl ?_
      exact V_ireti (pc := 72) dX2_parting_72 rfl (hk := fun h => h)
    · refine V_aload_n (pc := 32) dX2_parting_32 rfl rfl ?_
      refine V_getr (pc := 33) (t := 61) fk_X2_9 rfl dX2_parting_33 kc_60 rfl ?_
      refine V_iload_n (pc := 36) dX2_parting_36 rfl rfl ?_
      refine V_iald (pc := 37) (n := 8) dX2_parting_37 kc_61 lc_61 ?_
      refine V_aload_n (pc := 38) dX2_parting_38 rfl rfl ?_
      refine V_geti (pc := 39) fk_X2_27 rfl dX2_parting_39 kc_60 rfl ?_
      refine V_aload_n (pc := 42) dX2_parting_42 rfl rfl ?_
      refine V_getr (pc := 43) (t := 61) fk_X2_9 rfl dX2_parting_43 kc_60 rfl ?_
      refine V_iload_n (pc := 46) dX2_parting_46 rfl rfl ?_
      refine V_iald (pc := 47) (n := 8) dX2_parting_47 kc_61 lc_61 ?_
      refine V_isub (pc := 48) dX2_parting_48 ?_
      refine V_mmax (pc := 49) dX2_parting_49 rfl mw_X2_68 (Nat.le_of_ble_eq_true rfl) (Nat.le_of_ble_eq_true rfl) (Nat.le_of_ble_eq_true rfl) (Nat.le_of_ble_eq_true rfl) ?_
      refine V_istore (pc := 52) (vs' := [some (.ref (wB w + 60)), some (.int a21.1), some (.int a21.2.1), some (.int a21.2.2), some (.int (mxI (σ 61 (ix a21.2.2)) ((σ 60 3) - (σ 61 (ix a21.2.2)))))]) dX2_parting_52 (Nat.le_of_ble_eq_true rfl) (Nat.le_of_ble_eq_true rfl) rfl ?_
      refine V_iload (pc := 54) dX2_parting_54 rfl ?_
      refine V_iload_n (pc := 56) dX2_parting_56 rfl rfl ?_
      refine V_icmp_ge (pc := 57) (tgt := 65) dX2_parting_57 (by decide) ?_ ?_
      · refine V_sub (vs' := [some (.ref (wB w + 60)), some (.int a21.1), some (.int a21.2.1), some (.int a21.2.2), none]) (show vless _ _ from ⟨rfl, ⟨rfl, ⟨rfl, ⟨rfl, trivial⟩⟩⟩⟩) rfl ?_
        exact hJ65 a21.1 a21.2.1 a21.2.2
      · refine V_iload (pc := 60) dX2_parting_60 rfl ?_
        refine V_istore_n (pc := 62) (vs' := [some (.ref (wB w + 60)), some (.int (mxI (σ 61 (ix a21.2.2)) ((σ 60 3) - (σ 61 (ix a21.2.2))))), some (.int a21.2.1), some (.int a21.2.2), some (.int (mxI (σ 61 (ix a21.2.2)) ((σ 60 3) - (σ 61 (ix a21.2.2)))))]) dX2_parting_62 rfl (Nat.le_of_ble_eq_true rfl) (Nat.le_of_ble_eq_true rfl) rfl ?_
        refine V_iload_n (pc := 63) dX2_parting_63 rfl rfl ?_
        refine V_istore_n (pc := 64) (vs' := [some (.ref (wB w + 60)), some (.int (mxI (σ 61 (ix a21.2.2)) ((σ 60 3) - (σ 61 (ix a21.2.2))))), some (.int a21.2.2), some (.int a21.2.2), some (.int (mxI (σ 61 (ix a21.2.2)) ((σ 60 3) - (σ 61 (ix a21.2.2)))))]) dX2_parting_64 rfl (Nat.le_of_ble_eq_true rfl) (Nat.le_of_ble_eq_true rfl) rfl ?_
        refine V_sub (vs' := [some (.ref (wB w + 60)), some (.int (mxI (σ 61 (ix a21.2.2)) ((σ 60 3) - (σ 61 (ix a21.2.2))))), some (.int a21.2.2), some (.int a21.2.2), none]) (show vless _ _ from ⟨rfl, ⟨rfl, ⟨rfl, ⟨rfl, trivial⟩⟩⟩⟩) rfl ?_
        exact hJ65 (mxI (σ 61 (ix a21.2.2)) ((σ 60 3) - (σ 61 (ix a21.2.2)))) a21.2.2 a21.2.2
  refine V_aload_n (pc := 0) dX2_parting_0 rfl rfl ?_
  refine V_geti (pc := 1) fk_X2_27 rfl dX2_parting_1 kc_60 rfl ?_
  refine V_iconst (pc := 4) (v := (2 : Int32)) dX2_parting_4 rfl ?_
  refine V_icmp_ge (pc := 5) (tgt := 10) dX2_parting_5 (by decide) ?_ ?_
  · refine V_aload_n (pc := 10) dX2_parting_10 rfl rfl ?_
    refine V_geti (pc := 11) fk_X2_27 rfl dX2_parting_11 kc_60 rfl ?_
    refine V_iconst (pc := 14) (v := (1 : Int32)) dX2_parting_14 rfl ?_
    refine V_iadd (pc := 15) dX2_parting_15 ?_
    refine V_istore_n (pc := 16) (vs' := [some (.ref (wB w + 60)), some (.int ((σ 60 3) + (1 : Int32))), none, none, none]) dX2_parting_16 rfl (Nat.le_of_ble_eq_true rfl) (Nat.le_of_ble_eq_true rfl) rfl ?_
    refine V_iconst (pc := 17) (v := (-1 : Int32)) dX2_parting_17 rfl ?_
    refine V_istore_n (pc := 18) (vs' := [some (.ref (wB w + 60)), some (.int ((σ 60 3) + (1 : Int32))), some (.int (-1 : Int32)), none, none]) dX2_parting_18 rfl (Nat.le_of_ble_eq_true rfl) (Nat.le_of_ble_eq_true rfl) rfl ?_
    refine V_iconst (pc := 19) (v := (0 : Int32)) dX2_parting_19 rfl ?_
    refine V_istore_n (pc := 20) (vs' := [some (.ref (wB w + 60)), some (.int ((σ 60 3) + (1 : Int32))), some (.int (-1 : Int32)), some (.int (0 : Int32)), none]) dX2_parting_20 rfl (Nat.le_of_ble_eq_true rfl) (Nat.le_of_ble_eq_true rfl) rfl ?_
    exact hL21 n (((σ 60 3) + (1 : Int32)), (-1 : Int32), (0 : Int32))
  · refine V_iconst (pc := 8) (v := (-1 : Int32)) dX2_parting_8 rfl ?_
    exact V_ireti (pc := 9) dX2_parting_9 rfl (hk := fun h => h)
