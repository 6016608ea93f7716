def m_X6_begin : MD := (yX6_begin, cX6_begin, 1, none, 0, 0, 0, 0)
def m_X6_addStep : MD := (yX6_addStep, cX6_addStep, 2, none, 0, 0, 0, 0)
def m_X6_addLine : MD := (yX6_addLine, cX6_addLine, 3, none, 0, 0, 0, 0)
def m_X6_become : MD := (yX6_become, cX6_become, 2, none, 4, 200, 0, 0)
def m_X6_consider : MD := (yX6_consider, cX6_consider, 6, none, 2, 46, 0, 0)
def m_X6_joined : MD := (yX6_joined, cX6_joined, 3, (some .int), 0, 0, 0, 0)
def m_X6_isTrue : MD := (yX6_isTrue, cX6_isTrue, 5, (some .boolean), 1, 22, 0, 0)
def m_X6_sum : MD := (yX6_sum, cX6_sum, 4, (some .int), 2, 46, 0, 0)
def m_X6_bindsBy : MD := (yX6_bindsBy, cX6_bindsBy, 6, (some .int), 4, 200, 0, 0)
def m_X6_lastsFor : MD := (yX6_lastsFor, cX6_lastsFor, 6, (some .int), 3, 71, 0, 0)
def m_X6_suspectsBy : MD := (yX6_suspectsBy, cX6_suspectsBy, 4, (some .int), 3, 71, 0, 0)
def m_X1_force : MD := (yX1_force, cX1_force, 6, (some .int), 5, 225, 0, 0)
def m_X1_reach : MD := (yX1_reach, cX1_reach, 5, (some .int), 4, 200, 0, 0)
def m_X1_changes : MD := (yX1_changes, cX1_changes, 10, (some .boolean), 6, 250, 0, 0)
def m_X1_pour : MD := (yX1_pour, cX1_pour, 9, (some .int), 7, 279, 0, 0)
def m_X0_move : MD := (yX0_move, cX0_move, 4, none, 4, 93, 0, 0)
def m_X0_meet : MD := (yX0_meet, cX0_meet, 4, none, 5, 223, 0, 0)
def m_X0_pass : MD := (yX0_pass, cX0_pass, 7, (some .int), 6, 246, 0, 0)
def m_X1_foresee : MD := (yX1_foresee, cX1_foresee, 5, none, 6, 250, 0, 0)
def m_X1_newlyWithin : MD := (yX1_newlyWithin, cX1_newlyWithin, 4, (some .int), 1, 20, 0, 0)
def m_X1_binding : MD := (yX1_binding, cX1_binding, 6, (some .int), 7, 274, 0, 0)
def m_X2_isTold : MD := (yX2_isTold, cX2_isTold, 2, (some .boolean), 1, 21, 0, 0)
def m_X2_fits : MD := (yX2_fits, cX2_fits, 4, (some .boolean), 1, 20, 0, 0)
def m_X2_add : MD := (yX2_add, cX2_add, 3, none, 0, 0, 0, 0)
def m_X2_weigh : MD := (yX2_weigh, cX2_weigh, 2, (some .boolean), 2, 43, 0, 0)
def m_X2_parting : MD := (yX2_parting, cX2_parting, 5, (some .int), 4, 200, 0, 0)
theorem fp_X6_9 : fp RX6 9 6 0 .int := ⟨_, _, _, tyX6, rfl, in_6, by decide, rfl, by decide, gx 292 (by decide +kernel) (by decide +kernel), rfl, by decide +kernel, tyX6_ok, nmX6⟩
theorem fp_X6_34 : fp RX6 34 6 1 .int := ⟨_, _, _, tyX6, rfl, in_6, by decide, rfl, by decide, gx 294 (by decide +kernel) (by decide +kernel), rfl, by decide +kernel, tyX6_ok, nmX6⟩
theorem fk_X6_34 : fk RX6 34 6 1 := ⟨_, _, _, rfl, in_6, by decide, rfl, by decide, gx 294 (by decide +kernel) (by decide +kernel)⟩
theorem fk_X6_25 : fk RX6 25 6 5 := ⟨_, _, _, rfl, in_6, by decide, rfl, by decide, gx 298 (by decide +kernel) (by decide +kernel)⟩
theorem fk_X6_9 : fk RX6 9 6 0 := ⟨_, _, _, rfl, in_6, by decide, rfl, by decide, gx 292 (by decide +kernel) (by decide +kernel)⟩
theorem fk_X6_15 : fk RX6 15 6 2 := ⟨_, _, _, rfl, in_6, by decide, rfl, by decide, gx 295 (by decide +kernel) (by decide +kernel)⟩
theorem fk_X6_19 : fk RX6 19 6 3 := ⟨_, _, _, rfl, in_6, by decide, rfl, by decide, gx 296 (by decide +kernel) (by decide +kernel)⟩
theorem fk_X6_22 : fk RX6 22 6 4 := ⟨_, _, _, rfl, in_6, by decide, rfl, by decide, gx 297 (by decide +kernel) (by decide +kernel)⟩
theorem cpw_X6_37 : Cond.methodLink RX6 37 arraycopyName ∈ gtb ∧ Cond.native arraycopyName ∈ gtb ∧ Cond.static arraycopyName ∈ gtb ∧ Cond.initialized "java/lang/System" ∈ gtb := ⟨gx 651 (by decide +kernel) (by decide +kernel), copyw⟩
theorem fk_X6_28 : fk RX6 28 6 6 := ⟨_, _, _, rfl, in_6, by decide, rfl, by decide, gx 299 (by decide +kernel) (by decide +kernel)⟩
theorem cw_X6_74 : cwp RX6 74 m_X4_holds 2 := cwp_of wm_X4_holds (gx 1066 (by decide +kernel) (by decide +kernel))
theorem wm_X4_likingOf : wmp m_X4_likingOf 2 := ⟨gx 577 (by decide +kernel) (by decide +kernel), gx 578 (by decide +kernel) (by decide +kernel), gx 129 (by decide +kernel) (by decide +kernel), gx 579 (by decide +kernel) (by decide +kernel), by decide +kernel, by decide +kernel, by decide +kernel⟩
theorem cw_X6_65 : cwp RX6 65 m_X4_likingOf 2 := cwp_of wm_X4_likingOf (gx 1065 (by decide +kernel) (by decide +kernel))
theorem fk_X6_68 : fk RX6 68 4 5 := ⟨_, _, _, rfl, in_4, by decide, rfl, by decide, gx 228 (by decide +kernel) (by decide +kernel)⟩
theorem fk_X6_71 : fk RX6 71 4 9 := ⟨_, _, _, rfl, in_4, by decide, rfl, by decide, gx 242 (by decide +kernel) (by decide +kernel)⟩
theorem fk_X6_31 : fk RX6 31 6 7 := ⟨_, _, _, rfl, in_6, by decide, rfl, by decide, gx 300 (by decide +kernel) (by decide +kernel)⟩
theorem wm_X6_joined : wms m_X6_joined 3 := ⟨gx 1076 (by decide +kernel) (by decide +kernel), gx 130 (by decide +kernel) (by decide +kernel), gx 1077 (by decide +kernel) (by decide +kernel), by decide +kernel, by decide +kernel, by decide +kernel⟩
theorem cs_X6_82 : csp RX6 82 m_X6_joined 3 := csp_of wm_X6_joined (gx 1075 (by decide +kernel) (by decide +kernel))
theorem wm_X6_isTrue : wmp m_X6_isTrue 1 := ⟨gx 1073 (by decide +kernel) (by decide +kernel), gx 24 (by decide +kernel) (by decide +kernel), gx 130 (by decide +kernel) (by decide +kernel), gx 1074 (by decide +kernel) (by decide +kernel), by decide +kernel, by decide +kernel, by decide +kernel⟩
theorem cw_X6_78 : cwp RX6 78 m_X6_isTrue 1 := cwp_of wm_X6_isTrue (gx 1071 (by decide +kernel) (by decide +kernel))
theorem wm_X6_consider : wmp m_X6_consider 5 := ⟨gx 1063 (by decide +kernel) (by decide +kernel), gx 22 (by decide +kernel) (by decide +kernel), gx 130 (by decide +kernel) (by decide +kernel), gx 1064 (by decide +kernel) (by decide +kernel), by decide +kernel, by decide +kernel, by decide +kernel⟩
theorem cw_X6_43 : cwp RX6 43 m_X6_consider 5 := cwp_of wm_X6_consider (gx 1061 (by decide +kernel) (by decide +kernel))
theorem fk_X6_47 : fk RX6 47 4 3 := ⟨_, _, _, rfl, in_4, by decide, rfl, by decide, gx 217 (by decide +kernel) (by decide +kernel)⟩
theorem wm_X6_sum : wmp m_X6_sum 1 := ⟨gx 1069 (by decide +kernel) (by decide +kernel), gx 23 (by decide +kernel) (by decide +kernel), gx 130 (by decide +kernel) (by decide +kernel), gx 1070 (by decide +kernel) (by decide +kernel), by decide +kernel, by decide +kernel, by decide +kernel⟩
theorem cw_X6_52 : cwp RX6 52 m_X6_sum 1 := cwp_of wm_X6_sum (gx 1067 (by decide +kernel) (by decide +kernel))
theorem mw_X6_56 : Cond.methodLink RX6 56 Lib.Math.min.name ∈ gtb ∧ Cond.static Lib.Math.min.name ∈ gtb ∧ Cond.initialized "java/lang/Math" ∈ gtb ∧ Cond.code Lib.Math.min.name Lib.Math.min.code 2 (some .int) ∈ gtb := ⟨gx 1078 (by decide +kernel) (by decide +kernel), math_min⟩
theorem fk_X6_62 : fk RX6 62 4 4 := ⟨_, _, _, rfl, in_4, by decide, rfl, by decide, gx 221 (by decide +kernel) (by decide +kernel)⟩
theorem fk_X1_19 : fk RX1 19 1 1 := ⟨_, _, _, rfl, in_1, by decide, rfl, by decide, gx 345 (by decide +kernel) (by decide +kernel)⟩
theorem fk_X1_15 : fk RX1 15 1 0 := ⟨_, _, _, rfl, in_1, by decide, rfl, by decide, gx 344 (by decide +kernel) (by decide +kernel)⟩
theorem wm_X6_bindsBy : wmp m_X6_bindsBy 5 := ⟨gx 1058 (by decide +kernel) (by decide +kernel), gx 1059 (by decide +kernel) (by decide +kernel), gx 130 (by decide +kernel) (by decide +kernel), gx 1060 (by decide +kernel) (by decide +kernel), by decide +kernel, by decide +kernel, by decide +kernel⟩
theorem cw_X1_62 : cwp RX1 62 m_X6_bindsBy 5 := cwp_of wm_X6_bindsBy (gx 1117 (by decide +kernel) (by decide +kernel))
theorem mw_X1_68 : Cond.methodLink RX1 68 Lib.Math.min.name ∈ gtb ∧ Cond.static Lib.Math.min.name ∈ gtb ∧ Cond.initialized "java/lang/Math" ∈ gtb ∧ Cond.code Lib.Math.min.name Lib.Math.min.code 2 (some .int) ∈ gtb := ⟨gx 1118 (by decide +kernel) (by decide +kernel), math_min⟩
theorem fk_X1_71 : fk RX1 71 4 5 := ⟨_, _, _, rfl, in_4, by decide, rfl, by decide, gx 226 (by decide +kernel) (by decide +kernel)⟩
theorem wm_X6_lastsFor : wmp m_X6_lastsFor 5 := ⟨gx 1080 (by decide +kernel) (by decide +kernel), gx 1081 (by decide +kernel) (by decide +kernel), gx 130 (by decide +kernel) (by decide +kernel), gx 1082 (by decide +kernel) (by decide +kernel), by decide +kernel, by decide +kernel, by decide +kernel⟩
theorem cw_X1_74 : cwp RX1 74 m_X6_lastsFor 5 := cwp_of wm_X6_lastsFor (gx 1123 (by decide +kernel) (by decide +kernel))
theorem wm_X1_force : wmp m_X1_force 4 := ⟨gx 1115 (by decide +kernel) (by decide +kernel), gx 28 (by decide +kernel) (by decide +kernel), gx 133 (by decide +kernel) (by decide +kernel), gx 1116 (by decide +kernel) (by decide +kernel), by decide +kernel, by decide +kernel, by decide +kernel⟩
theorem cw_X1_39 : cwp RX1 39 m_X1_force 4 := cwp_of wm_X1_force (gx 1113 (by decide +kernel) (by decide +kernel))
theorem wm_X1_reach : wmp m_X1_reach 4 := ⟨gx 1121 (by decide +kernel) (by decide +kernel), gx 29 (by decide +kernel) (by decide +kernel), gx 133 (by decide +kernel) (by decide +kernel), gx 1122 (by decide +kernel) (by decide +kernel), by decide +kernel, by decide +kernel, by decide +kernel⟩
theorem cw_X1_43 : cwp RX1 43 m_X1_reach 4 := cwp_of wm_X1_reach (gx 1119 (by decide +kernel) (by decide +kernel))
theorem cw_X1_46 : cwp RX1 46 m_X4_held 2 := cwp_of wm_X4_held (gx 1124 (by decide +kernel) (by decide +kernel))
theorem cw_X1_50 : cwp RX1 50 m_X4_heldTill 2 := cwp_of wm_X4_heldTill (gx 1125 (by decide +kernel) (by decide +kernel))
theorem mw_X1_53 : Cond.methodLink RX1 53 Lib.Math.max.name ∈ gtb ∧ Cond.static Lib.Math.max.name ∈ gtb ∧ Cond.initialized "java/lang/Math" ∈ gtb ∧ Cond.code Lib.Math.max.name Lib.Math.max.code 2 (some .int) ∈ gtb := ⟨gx 1126 (by decide +kernel) (by decide +kernel), math_max⟩
theorem wm_X4_tie : wmp m_X4_tie 4 := ⟨gx 822 (by decide +kernel) (by decide +kernel), gx 823 (by decide +kernel) (by decide +kernel), gx 129 (by decide +kernel) (by decide +kernel), gx 824 (by decide +kernel) (by decide +kernel), by decide +kernel, by decide +kernel, by decide +kernel⟩
theorem cw_X1_58 : cwp RX1 58 m_X4_tie 4 := cwp_of wm_X4_tie (gx 1127 (by decide +kernel) (by decide +kernel))
theorem fk_X1_29 : fk RX1 29 4 0 := ⟨_, _, _, rfl, in_4, by decide, rfl, by decide, gx 201 (by decide +kernel) (by decide +kernel)⟩
theorem wm_X1_changes : wmp m_X1_changes 5 := ⟨gx 1111 (by decide +kernel) (by decide +kernel), gx 27 (by decide +kernel) (by decide +kernel), gx 133 (by decide +kernel) (by decide +kernel), gx 1112 (by decide +kernel) (by decide +kernel), by decide +kernel, by decide +kernel, by decide +kernel⟩
theorem cw_X1_35 : cwp RX1 35 m_X1_changes 5 := cwp_of wm_X1_changes (gx 1109 (by decide +kernel) (by decide +kernel))
theorem cs_X1_23 : csp RX1 23 m_J6_bitCount_0f7a4 1 := csp_of wm_J6_bitCount_0f7a4 (gx 1108 (by decide +kernel) (by decide +kernel))
theorem fk_X0_48 : fk RX0 48 4 8 := ⟨_, _, _, rfl, in_4, by decide, rfl, by decide, gx 236 (by decide +kernel) (by decide +kernel)⟩
theorem fk_X0_34 : fk RX0 34 4 0 := ⟨_, _, _, rfl, in_4, by decide, rfl, by decide, gx 203 (by decide +kernel) (by decide +kernel)⟩
theorem cw_X0_37 : cwp RX0 37 m_X4_closest 1 := cwp_of wm_X4_closest (gx 1198 (by decide +kernel) (by decide +kernel))
theorem wm_X4_draw : wmp m_X4_draw 0 := ⟨gx 1200 (by decide +kernel) (by decide +kernel), gx 1201 (by decide +kernel) (by decide +kernel), gx 129 (by decide +kernel) (by decide +kernel), gx 1202 (by decide +kernel) (by decide +kernel), by decide +kernel, by decide +kernel, by decide +kernel⟩
theorem cw_X0_41 : cwp RX0 41 m_X4_draw 0 := cwp_of wm_X4_draw (gx 1199 (by decide +kernel) (by decide +kernel))
theorem cw_X0_45 : cwp RX0 45 m_X4_held 2 := cwp_of wm_X4_held (gx 1204 (by decide +kernel) (by decide +kernel))
theorem fk_X0_52 : fk RX0 52 4 11 := ⟨_, _, _, rfl, in_4, by decide, rfl, by decide, gx 246 (by decide +kernel) (by decide +kernel)⟩
theorem fk_X0_55 : fk RX0 55 4 2 := ⟨_, _, _, rfl, in_4, by decide, rfl, by decide, gx 212 (by decide +kernel) (by decide +kernel)⟩
theorem cw_X0_58 : cwp RX0 58 m_X4_isSecret 2 := cwp_of wm_X4_isSecret (gx 1208 (by decide +kernel) (by decide +kernel))
theorem wm_X6_suspectsBy : wmp m_X6_suspectsBy 3 := ⟨gx 1084 (by decide +kernel) (by decide +kernel), gx 1085 (by decide +kernel) (by decide +kernel), gx 130 (by decide +kernel) (by decide +kernel), gx 1086 (by decide +kernel) (by decide +kernel), by decide +kernel, by decide +kernel, by decide +kernel⟩
theorem cw_X0_62 : cwp RX0 62 m_X6_suspectsBy 3 := cwp_of wm_X6_suspectsBy (gx 1209 (by decide +kernel) (by decide +kernel))
theorem wm_X4_leaveFootprint : wmp m_X4_leaveFootprint 3 := ⟨gx 1211 (by decide +kernel) (by decide +kernel), gx 1212 (by decide +kernel) (by decide +kernel), gx 129 (by decide +kernel) (by decide +kernel), gx 1213 (by decide +kernel) (by decide +kernel), by decide +kernel, by decide +kernel, by decide +kernel⟩
theorem cw_X0_68 : cwp RX0 68 m_X4_leaveFootprint 3 := cwp_of wm_X4_leaveFootprint (gx 1210 (by decide +kernel) (by decide +kernel))
theorem fk_X0_9 : fk RX0 9 4 7 := ⟨_, _, _, rfl, in_4, by decide, rfl, by decide, gx 232 (by decide +kernel) (by decide +kernel)⟩
theorem wm_X0_move : wms m_X0_move 2 := ⟨gx 1196 (by decide +kernel) (by decide +kernel), gx 154 (by decide +kernel) (by decide +kernel), gx 1197 (by decide +kernel) (by decide +kernel), by decide +kernel, by decide +kernel, by decide +kernel⟩
theorem cs_X0_15 : csp RX0 15 m_X0_move 2 := csp_of wm_X0_move (gx 1195 (by decide +kernel) (by decide +kernel))
theorem wm_X0_meet : wms m_X0_meet 2 := ⟨gx 1206 (by decide +kernel) (by decide +kernel), gx 154 (by decide +kernel) (by decide +kernel), gx 1207 (by decide +kernel) (by decide +kernel), by decide +kernel, by decide +kernel, by decide +kernel⟩
theorem cs_X0_21 : csp RX0 21 m_X0_meet 2 := csp_of wm_X0_meet (gx 1205 (by decide +kernel) (by decide +kernel))
theorem fk_X0_25 : fk RX0 25 4 5 := ⟨_, _, _, rfl, in_4, by decide, rfl, by decide, gx 223 (by decide +kernel) (by decide +kernel)⟩
theorem mw_X0_28 : Cond.methodLink RX0 28 Lib.Math.min.name ∈ gtb ∧ Cond.static Lib.Math.min.name ∈ gtb ∧ Cond.initialized "java/lang/Math" ∈ gtb ∧ Cond.code Lib.Math.min.name Lib.Math.min.code 2 (some .int) ∈ gtb := ⟨gx 1214 (by decide +kernel) (by decide +kernel), math_min⟩
theorem fp_X0_25 : fp RX0 25 4 5 .int := ⟨_, _, _, tyX4, rfl, in_4, by decide, rfl, by decide, gx 223 (by decide +kernel) (by decide +kernel), rfl, by decide +kernel, tyX4_ok, nmX4⟩
theorem cw_X1_88 : cwp RX1 88 m_X4_holds 2 := cwp_of wm_X4_holds (gx 1249 (by decide +kernel) (by decide +kernel))
theorem fk_X1_9 : fk RX1 9 1 2 := ⟨_, _, _, rfl, in_1, by decide, rfl, by decide, gx 346 (by decide +kernel) (by decide +kernel)⟩
theorem cw_X1_81 : cwp RX1 81 m_X4_everybody 0 := cwp_of wm_X4_everybody (gx 1250 (by decide +kernel) (by decide +kernel))
theorem wm_X1_newlyWithin : wmp m_X1_newlyWithin 1 := ⟨gx 1253 (by decide +kernel) (by decide +kernel), gx 32 (by decide +kernel) (by decide +kernel), gx 133 (by decide +kernel) (by decide +kernel), gx 1254 (by decide +kernel) (by decide +kernel), by decide +kernel, by decide +kernel, by decide +kernel⟩
theorem cw_X1_85 : cwp RX1 85 m_X1_newlyWithin 1 := cwp_of wm_X1_newlyWithin (gx 1251 (by decide +kernel) (by decide +kernel))
theorem wm_X1_foresee : wmp m_X1_foresee 2 := ⟨gx 1247 (by decide +kernel) (by decide +kernel), gx 31 (by decide +kernel) (by decide +kernel), gx 133 (by decide +kernel) (by decide +kernel), gx 1248 (by decide +kernel) (by decide +kernel), by decide +kernel, by decide +kernel, by decide +kernel⟩
theorem cw_X1_77 : cwp RX1 77 m_X1_foresee 2 := cwp_of wm_X1_foresee (gx 1245 (by decide +kernel) (by decide +kernel))
theorem fk_X2_19 : fk RX2 19 2 1 := ⟨_, _, _, rfl, in_2, by decide, rfl, by decide, gx 402 (by decide +kernel) (by decide +kernel)⟩
theorem fk_X2_48 : fk RX2 48 9 1 := ⟨_, _, _, rfl, in_9, by decide, rfl, by decide, gx 174 (by decide +kernel) (by decide +kernel)⟩
theorem fk_X2_53 : fk RX2 53 9 0 := ⟨_, _, _, rfl, in_9, by decide, rfl, by decide, gx 170 (by decide +kernel) (by decide +kernel)⟩
theorem fk_X2_15 : fk RX2 15 2 0 := ⟨_, _, _, rfl, in_2, by decide, rfl, by decide, gx 401 (by decide +kernel) (by decide +kernel)⟩
theorem wm_X4_has : wmp m_X4_has 1 := ⟨gx 986 (by decide +kernel) (by decide +kernel), gx 987 (by decide +kernel) (by decide +kernel), gx 129 (by decide +kernel) (by decide +kernel), gx 988 (by decide +kernel) (by decide +kernel), by decide +kernel, by decide +kernel, by decide +kernel⟩
theorem cw_X2_56 : cwp RX2 56 m_X4_has 1 := cwp_of wm_X4_has (gx 1325 (by decide +kernel) (by decide +kernel))
theorem cs_X2_59 : csp RX2 59 m_J6_bitCount_0f7a4 1 := csp_of wm_J6_bitCount_0f7a4 (gx 1331 (by decide +kernel) (by decide +kernel))
theorem fk_X2_65 : fk RX2 65 4 0 := ⟨_, _, _, rfl, in_4, by decide, rfl, by decide, gx 205 (by decide +kernel) (by decide +kernel)⟩
theorem fk_X2_9 : fk RX2 9 2 2 := ⟨_, _, _, rfl, in_2, by decide, rfl, by decide, gx 403 (by decide +kernel) (by decide +kernel)⟩
theorem fk_X2_27 : fk RX2 27 2 3 := ⟨_, _, _, rfl, in_2, by decide, rfl, by decide, gx 404 (by decide +kernel) (by decide +kernel)⟩
theorem fp_X2_27 : fp RX2 27 2 3 .int := ⟨_, _, _, tyX2, rfl, in_2, by decide, rfl, by decide, gx 404 (by decide +kernel) (by decide +kernel), rfl, by decide +kernel, tyX2_ok, nmX2⟩
theorem fk_X2_37 : fk RX2 37 2 4 := ⟨_, _, _, rfl, in_2, by decide, rfl, by decide, gx 406 (by decide +kernel) (by decide +kernel)⟩
theorem fp_X2_37 : fp RX2 37 2 4 .int := ⟨_, _, _, tyX2, rfl, in_2, by decide, rfl, by decide, gx 406 (by decide +kernel) (by decide +kernel), rfl, by decide +kernel, tyX2_ok, nmX2⟩
theorem cw_X2_31 : cwp RX2 31 m_X4_everybody 0 := cwp_of wm_X4_everybody (gx 1326 (by decide +kernel) (by decide +kernel))
theorem wm_X2_fits : wmp m_X2_fits 1 := ⟨gx 1329 (by decide +kernel) (by decide +kernel), gx 39 (by decide +kernel) (by decide +kernel), gx 137 (by decide +kernel) (by decide +kernel), gx 1330 (by decide +kernel) (by decide +kernel), by decide +kernel, by decide +kernel, by decide +kernel⟩
theorem cw_X2_40 : cwp RX2 40 m_X2_fits 1 := cwp_of wm_X2_fits (gx 1327 (by decide +kernel) (by decide +kernel))
theorem wm_X2_add : wmp m_X2_add 1 := ⟨gx 1334 (by decide +kernel) (by decide +kernel), gx 40 (by decide +kernel) (by decide +kernel), gx 137 (by decide +kernel) (by decide +kernel), gx 1335 (by decide +kernel) (by decide +kernel), by decide +kernel, by decide +kernel, by decide +kernel⟩
theorem cw_X2_44 : cwp RX2 44 m_X2_add 1 := cwp_of wm_X2_add (gx 1332 (by decide +kernel) (by decide +kernel))
theorem wm_X2_isTold : wmp m_X2_isTold 0 := ⟨gx 1323 (by decide +kernel) (by decide +kernel), gx 38 (by decide +kernel) (by decide +kernel), gx 137 (by decide +kernel) (by decide +kernel), gx 1324 (by decide +kernel) (by decide +kernel), by decide +kernel, by decide +kernel, by decide +kernel⟩
theorem cw_X2_23 : cwp RX2 23 m_X2_isTold 0 := cwp_of wm_X2_isTold (gx 1321 (by decide +kernel) (by decide +kernel))
theorem mw_X2_68 : Cond.methodLink RX2 68 Lib.Math.max.name ∈ gtb ∧ Cond.static Lib.Math.max.name ∈ gtb ∧ Cond.initialized "java/lang/Math" ∈ gtb ∧ Cond.code Lib.Math.max.name Lib.Math.max.code 2 (some .int) ∈ gtb := ⟨gx 1347 (by decide +kernel) (by decide +kernel), math_max⟩
def f_X6_begin (h0 : Nat) (σ : MS) : Option (Int32 × MS) := (ltM (mu σ h0 0 (0 : Int32)) (fun s2 => (ltM (mu s2 h0 1 (0 : Int32)) (fun s7 => some (0, s7)))))
set_option maxRecDepth 20000 in
set_option maxHeartbeats 2000000 in
theorem c_X6_begin (w : TG) (h0 : Nat) (k_h0 : kd h0 = 6) (σ : MS) : MC m_X6_begin w [.ref (wB w + h0)] σ (f_X6_begin h0 σ) := by
  refine V_meth (by decide +kernel) (Nat.le_of_ble_eq_true rfl) (by intro v hv; simp only [List.mem_cons, List.not_mem_nil, or_false] at hv; subst hv; rfl) (fun g x => ?_)
  show VV m_X6_begin w g 0 0 (QM m_X6_begin w g x) (fun b : Int32 × MS => b = x) 0 [some (.ref (wB w + h0))] [] σ (f_X6_begin h0 σ)
  refine V_aload_n (pc := 0) dX6_begin_0 rfl rfl ?_
  refine V_iconst (pc := 1) dX6_begin_1 ic_0 ?_
  refine V_puti (pc := 2) fp_X6_9 rfl dX6_begin_2 k_h0 (rf_6_0 _) (fun s2 => ?_)
  refine V_aload_n (pc := 5) dX6_begin_5 rfl rfl ?_
  refine V_iconst (pc := 6) dX6_begin_6 ic_0 ?_
  refine V_puti (pc := 7) fp_X6_34 rfl dX6_begin_7 k_h0 (rf_6_1 _) (fun s7 => ?_)
  exact V_ret (pc := 10) dX6_begin_10 rfl (hk := fun h => h)
def J_X6_addStep_32 (h0 : Nat) (σ : MS) : Option (Int32 × MS) := some (0, σ)
def f_X6_addStep (h0 : Nat) (p1 : Int32) (σ : MS) : Option (Int32 × MS) := (if (400 : Int32) ≤ (σ h0 1) then J_X6_addStep_32 h0 σ else (if inb (σ h0 1) 400 then ltM (mu σ (h0 + 4) (ix (σ h0 1)) p1) (fun s21 => (ltM (mu s21 h0 1 ((s21 h0 1) + (1 : Int32))) (fun s29 => J_X6_addStep_32 h0 s29))) else none))
set_option maxRecDepth 20000 in
set_option maxHeartbeats 2000000 in
theorem c_X6_addStep (w : TG) (h0 : Nat) (p1 : Int32) (k_h0 : kd h0 = 6) (σ : MS) : MC m_X6_addStep w [.ref (wB w + h0), .int p1] σ (f_X6_addStep h0 p1 σ) := by
  refine V_meth (by decide +kernel) (Nat.le_of_ble_eq_true rfl) (by intro v hv; simp only [List.mem_cons, List.not_mem_nil, or_false] at hv; rcases hv with rfl | rfl <;> rfl) (fun g x => ?_)
  show VV m_X6_addStep w g 0 0 (QM m_X6_addStep w g x) (fun b : Int32 × MS => b = x) 0 [some (.ref (wB w + h0)), some (.int p1)] [] σ (f_X6_addStep h0 p1 σ)
  have hJ32 : ∀ (σ : MS), VV m_X6_addStep w g 0 0 (QM m_X6_addStep w g x) (fun b : Int32 × MS => b = x) 32 [none, none] [] σ (J_X6_addStep_32 h0 σ) := by
    intro σ
    exact V_ret (pc := 32) dX6_addStep_32 rfl (hk := fun h => h)
  refine V_aload_n (pc := 0) dX6_addStep_0 rfl rfl ?_
  refine V_geti (pc := 1) fk_X6_34 rfl dX6_addStep_1 k_h0 (rf_6_1 _) ?_
  refine V_aload_n (pc := 4) dX6_addStep_4 rfl rfl ?_
  refine V_getr (pc := 5) (t := (h0 + 4)) fk_X6_25 rfl dX6_addStep_5 k_h0 (rf_6_5 _) ?_
  refine V_alen (pc := 8) (v := (400 : Int32)) dX6_addStep_8 (lA4 k_h0).1 (by rw [(lA4 k_h0).2]; exact aln_400) ?_
  refine V_icmp_ge (pc := 9) (tgt := 32) dX6_addStep_9 (by decide +kernel) ?_ ?_
  · refine V_sub (vs' := [none, none]) (show vless _ _ from trivial) rfl ?_
    exact hJ32 σ
  · refine V_aload_n (pc := 12) dX6_addStep_12 rfl rfl ?_
    refine V_getr (pc := 13) (t := (h0 + 4)) fk_X6_25 rfl dX6_addStep_13 k_h0 (rf_6_5 _) ?_
    refine V_aload_n (pc := 16) dX6_addStep_16 rfl rfl ?_
    refine V_geti (pc := 17) fk_X6_34 rfl dX6_addStep_17 k_h0 (rf_6_1 _) ?_
    refine V_iload_n (pc := 20) dX6_addStep_20 rfl rfl ?_
    refine V_iast (pc := 21) (n := 400) dX6_addStep_21 (lA4 k_h0).1 (lA4 k_h0).2 (fun s21 => ?_)
    refine V_aload_n (pc := 22) dX6_addStep_22 rfl rfl ?_
    refine V_dup (pc := 23) dX6_addStep_23 rfl ?_
    refine V_geti (pc := 24) fk_X6_34 rfl dX6_addStep_24 k_h0 (rf_6_1 _) ?_
    refine V_iconst (pc := 27) dX6_addStep_27 ic_1 ?_
    refine V_iadd (pc := 28) dX6_addStep_28 ?_
    refine V_puti (pc := 29) fp_X6_34 rfl dX6_addStep_29 k_h0 (rf_6_1 _) (fun s29 => ?_)
    refine V_sub (vs' := [none, none]) (show vless _ _ from trivial) rfl ?_
    exact hJ32 s29
def J_X6_addLine_59 (h0 : Nat) (σ : MS) : Option (Int32 × MS) := some (0, σ)
def f_X6_addLine (h0 : Nat) (p1 : Int32) (p2 : Int32) (σ : MS) : Option (Int32 × MS) := (if (σ h0 0) < 0 then J_X6_addLine_59 h0 σ else (if (12 : Int32) ≤ (σ h0 0) then J_X6_addLine_59 h0 σ else (if inb (σ h0 0) 12 then ltM (mu σ (h0 + 1) (ix (σ h0 0)) p1) (fun s25 => (if inb (s25 h0 0) 12 then ltM (mu s25 (h0 + 2) (ix (s25 h0 0)) p2) (fun s35 => (if inb (s35 h0 0) 12 then ltM (mu s35 (h0 + 3) (ix (s35 h0 0)) (s35 h0 1)) (fun s48 => (ltM (mu s48 h0 0 ((s48 h0 0) + (1 : Int32))) (fun s56 => J_X6_addLine_59 h0 s56))) else none)) else none)) else none)))
set_option maxRecDepth 20000 in
set_option maxHeartbeats 2000000 in
theorem c_X6_addLine (w : TG) (h0 : Nat) (p1 : Int32) (p2 : Int32) (k_h0 : kd h0 = 6) (σ : MS) : MC m_X6_addLine w [.ref (wB w + h0), .int p1, .int p2] σ (f_X6_addLine h0 p1 p2 σ) := by
  refine V_meth (by decide +kernel) (Nat.le_of_ble_eq_true rfl) (by intro v hv; simp only [List.mem_cons, List.not_mem_nil, or_false] at hv; rcases hv with rfl | rfl | rfl <;> rfl) (fun g x => ?_)
  show VV m_X6_addLine w g 0 0 (QM m_X6_addLine w g x) (fun b : Int32 × MS => b = x) 0 [some (.ref (wB w + h0)), some (.int p1), some (.int p2)] [] σ (f_X6_addLine h0 p1 p2 σ)
  have hJ59 : ∀ (σ : MS), VV m_X6_addLine w g 0 0 (QM m_X6_addLine w g x) (fun b : Int32 × MS => b = x) 59 [none, none, none] [] σ (J_X6_addLine_59 h0 σ) := by
    intro σ
    exact V_ret (pc := 59) dX6_addLine_59 rfl (hk := fun h => h)
  refine V_aload_n (pc := 0) dX6_addLine_0 rfl rfl ?_
  refine V_geti (pc := 1) fk_X6_9 rfl dX6_addLine_1 k_h0 (rf_6_0 _) ?_
  refine V_if_lt (pc := 4) (tgt := 59) dX6_addLine_4 (by decide +kernel) ?_ ?_
  · refine V_sub (vs' := [none, none, none]) (show vless _ _ from trivial) rfl ?_
    exact hJ59 σ
  · refine V_aload_n (pc := 7) dX6_addLine_7 rfl rfl ?_
    refine V_geti (pc := 8) fk_X6_9 rfl dX6_addLine_8 k_h0 (rf_6_0 _) ?_
    refine V_bipush (pc := 11) dX6_addLine_11 bp_12 ?_
    refine V_icmp_ge (pc := 13) (tgt := 59) dX6_addLine_13 (by decide +kernel) ?_ ?_
    · refine V_sub (vs' := [none, none, none]) (show vless _ _ from trivial) rfl ?_
      exact hJ59 σ
    · refine V_aload_n (pc := 16) dX6_addLine_16 rfl rfl ?_
      refine V_getr (pc := 17) (t := (h0 + 1)) fk_X6_15 rfl dX6_addLine_17 k_h0 (rf_6_2 _) ?_
      refine V_aload_n (pc := 20) dX6_addLine_20 rfl rfl ?_
      refine V_geti (pc := 21) fk_X6_9 rfl dX6_addLine_21 k_h0 (rf_6_0 _) ?_
      refine V_iload_n (pc := 24) dX6_addLine_24 rfl rfl ?_
      refine V_iast (pc := 25) (n := 12) dX6_addLine_25 (lA1 k_h0).1 (lA1 k_h0).2 (fun s25 => ?_)
      refine V_aload_n (pc := 26) dX6_addLine_26 rfl rfl ?_
      refine V_getr (pc := 27) (t := (h0 + 2)) fk_X6_19 rfl dX6_addLine_27 k_h0 (rf_6_3 _) ?_
      refine V_aload_n (pc := 30) dX6_addLine_30 rfl rfl ?_
      refine V_geti (pc := 31) fk_X6_9 rfl dX6_addLine_31 k_h0 (rf_6_0 _) ?_
      refine V_iload_n (pc := 34) dX6_addLine_34 rfl rfl ?_
      refine V_iast (pc := 35) (n := 12) dX6_addLine_35 (lA2 k_h0).1 (lA2 k_h0).2 (fun s35 => ?_)
      refine V_aload_n (pc := 36) dX6_addLine_36 rfl rfl ?_
      refine V_getr (pc := 37) (t := (h0 + 3)) fk_X6_22 rfl dX6_addLine_37 k_h0 (rf_6_4 _) ?_
      refine V_aload_n (pc := 40) dX6_addLine_40 rfl rfl ?_
      refine V_geti (pc := 41) fk_X6_9 rfl dX6_addLine_41 k_h0 (rf_6_0 _) ?_
      refine V_aload_n (pc := 44) dX6_addLine_44 rfl rfl ?_
      refine V_geti (pc := 45) fk_X6_34 rfl dX6_addLine_45 k_h0 (rf_6_1 _) ?_
      refine V_iast (pc := 48) (n := 12) dX6_addLine_48 (lA3 k_h0).1 (lA3 k_h0).2 (fun s48 => ?_)
      refine V_aload_n (pc := 49) dX6_addLine_49 rfl rfl ?_
      refine V_dup (pc := 50) dX6_addLine_50 rfl ?_
      refine V_geti (pc := 51) fk_X6_9 rfl dX6_addLine_51 k_h0 (rf_6_0 _) ?_
      refine V_iconst (pc := 54) dX6_addLine_54 ic_1 ?_
      refine V_iadd (pc := 55) dX6_addLine_55 ?_
      refine V_puti (pc := 56) fp_X6_9 rfl dX6_addLine_56 k_h0 (rf_6_0 _) (fun s56 => ?_)
      refine V_sub (vs' := [none, none, none]) (show vless _ _ from trivial) rfl ?_
      exact hJ59 s56
def f_X6_become (h0 : Nat) (h1 : Nat) (σ : MS) : Option (Int32 × MS) := (ltM (mu σ h0 0 (σ h1 0)) (fun s5 => (ltM (mu s5 h0 1 (s5 h1 1)) (fun s13 => (ltM (mcp s13 (h1 + 1) (h0 + 1) 12) (fun s31 => (ltM (mcp s31 (h1 + 2) (h0 + 2) 12) (fun s49 => (ltM (mcp s49 (h1 + 3) (h0 + 3) 12) (fun s67 => (ltM (mcp s67 (h1 + 4) (h0 + 4) 400) (fun s85 => some (0, s85)))))))))))))
set_option maxRecDepth 20000 in
set_option maxHeartbeats 2000000 in
theorem c_X6_become (w : TG) (h0 : Nat) (h1 : Nat) (k_h0 : kd h0 = 6) (k_h1 : kd h1 = 6) (σ : MS) : MC m_X6_become w [.ref (wB w + h0), .ref (wB w + h1)] σ (f_X6_become h0 h1 σ) := by
  refine V_meth (by decide +kernel) (Nat.le_of_ble_eq_true rfl) (by intro v hv; simp only [List.mem_cons, List.not_mem_nil, or_false] at hv; rcases hv with rfl | rfl <;> rfl) (fun g x => ?_)
  show VV m_X6_become w g 0 0 (QM m_X6_become w g x) (fun b : Int32 × MS => b = x) 0 [some (.ref (wB w + h0)), some (.ref (wB w + h1))] [] σ (f_X6_become h0 h1 σ)
  refine V_aload_n (pc := 0) dX6_become_0 rfl rfl ?_
  refine V_aload_n (pc := 1) dX6_become_1 rfl rfl ?_
  refine V_geti (pc := 2) fk_X6_9 rfl dX6_become_2 k_h1 (rf_6_0 _) ?_
  refine V_puti (pc := 5) fp_X6_9 rfl dX6_become_5 k_h0 (rf_6_0 _) (fun s5 => ?_)
  refine V_aload_n (pc := 8) dX6_become_8 rfl rfl ?_
  refine V_aload_n (pc := 9) dX6_become_9 rfl rfl ?_
  refine V_geti (pc := 10) fk_X6_34 rfl dX6_become_10 k_h1 (rf_6_1 _) ?_
  refine V_puti (pc := 13) fp_X6_34 rfl dX6_become_13 k_h0 (rf_6_1 _) (fun s13 => ?_)
  refine V_aload_n (pc := 16) dX6_become_16 rfl rfl ?_
  refine V_getr (pc := 17) (t := (h1 + 1)) fk_X6_15 rfl dX6_become_17 k_h1 (rf_6_2 _) ?_
  refine V_iconst (pc := 20) dX6_become_20 ic_0 ?_
  refine V_aload_n (pc := 21) dX6_become_21 rfl rfl ?_
  refine V_getr (pc := 22) (t := (h0 + 1)) fk_X6_15 rfl dX6_become_22 k_h0 (rf_6_2 _) ?_
  refine V_iconst (pc := 25) dX6_become_25 ic_0 ?_
  refine V_aload_n (pc := 26) dX6_become_26 rfl rfl ?_
  refine V_getr (pc := 27) (t := (h0 + 1)) fk_X6_15 rfl dX6_become_27 k_h0 (rf_6_2 _) ?_
  refine V_alen (pc := 30) (v := (12 : Int32)) dX6_become_30 (lA1 k_h0).1 (by rw [(lA1 k_h0).2]; exact aln_12) ?_
  refine V_copy (pc := 31) (N := 12) dX6_become_31 rfl cpw_X6_37 (Nat.le_of_ble_eq_true rfl) (Nat.le_trans copyr (Nat.le_of_ble_eq_true rfl)) (lA1 k_h1).1 (lA1 k_h0).1 (lA1 k_h1).2 (lA1 k_h0).2 aln_12.symm (Nat.le_of_ble_eq_true rfl) (fun s31 => ?_)
  refine V_aload_n (pc := 34) dX6_become_34 rfl rfl ?_
  refine V_getr (pc := 35) (t := (h1 + 2)) fk_X6_19 rfl dX6_become_35 k_h1 (rf_6_3 _) ?_
  refine V_iconst (pc := 38) dX6_become_38 ic_0 ?_
  refine V_aload_n (pc := 39) dX6_become_39 rfl rfl ?_
  refine V_getr (pc := 40) (t := (h0 + 2)) fk_X6_19 rfl dX6_become_40 k_h0 (rf_6_3 _) ?_
  refine V_iconst (pc := 43) dX6_become_43 ic_0 ?_
  refine V_aload_n (pc := 44) dX6_become_44 rfl rfl ?_
  refine V_getr (pc := 45) (t := (h0 + 2)) fk_X6_19 rfl dX6_become_45 k_h0 (rf_6_3 _) ?_
  refine V_alen (pc := 48) (v := (12 : Int32)) dX6_become_48 (lA2 k_h0).1 (by rw [(lA2 k_h0).2]; exact aln_12) ?_
  refine V_copy (pc := 49) (N := 12) dX6_become_49 rfl cpw_X6_37 (Nat.le_of_ble_eq_true rfl) (Nat.le_trans copyr (Nat.le_of_ble_eq_true rfl)) (lA2 k_h1).1 (lA2 k_h0).1 (lA2 k_h1).2 (lA2 k_h0).2 aln_12.symm (Nat.le_of_ble_eq_true rfl) (fun s49 => ?_)
  refine V_aload_n (pc := 52) dX6_become_52 rfl rfl ?_
  refine V_getr (pc := 53) (t := (h1 + 3)) fk_X6_22 rfl dX6_become_53 k_h1 (rf_6_4 _) ?_
  refine V_iconst (pc := 56) dX6_become_56 ic_0 ?_
  refine V_aload_n (pc := 57) dX6_become_57 rfl rfl ?_
  refine V_getr (pc := 58) (t := (h0 + 3)) fk_X6_22 rfl dX6_become_58 k_h0 (rf_6_4 _) ?_
  refine V_iconst (pc := 61) dX6_become_61 ic_0 ?_
  refine V_aload_n (pc := 62) dX6_become_62 rfl rfl ?_
  refine V_getr (pc := 63) (t := (h0 + 3)) fk_X6_22 rfl dX6_become_63 k_h0 (rf_6_4 _) ?_
  refine V_alen (pc := 66) (v := (12 : Int32)) dX6_become_66 (lA3 k_h0).1 (by rw [(lA3 k_h0).2]; exact aln_12) ?_
  refine V_copy (pc := 67) (N := 12) dX6_become_67 rfl cpw_X6_37 (Nat.le_of_ble_eq_true rfl) (Nat.le_trans copyr (Nat.le_of_ble_eq_true rfl)) (lA3 k_h1).1 (lA3 k_h0).1 (lA3 k_h1).2 (lA3 k_h0).2 aln_12.symm (Nat.le_of_ble_eq_true rfl) (fun s67 => ?_)
  refine V_aload_n (pc := 70) dX6_become_70 rfl rfl ?_
  refine V_getr (pc := 71) (t := (h1 + 4)) fk_X6_25 rfl dX6_become_71 k_h1 (rf_6_5 _) ?_
  refine V_iconst (pc := 74) dX6_become_74 ic_0 ?_
  refine V_aload_n (pc := 75) dX6_become_75 rfl rfl ?_
  refine V_getr (pc := 76) (t := (h0 + 4)) fk_X6_25 rfl dX6_become_76 k_h0 (rf_6_5 _) ?_
  refine V_iconst (pc := 79) dX6_become_79 ic_0 ?_
  refine V_aload_n (pc := 80) dX6_become_80 rfl rfl ?_
  refine V_getr (pc := 81) (t := (h0 + 4)) fk_X6_25 rfl dX6_become_81 k_h0 (rf_6_5 _) ?_
  refine V_alen (pc := 84) (v := (400 : Int32)) dX6_become_84 (lA4 k_h0).1 (by rw [(lA4 k_h0).2]; exact aln_400) ?_
  refine V_copy (pc := 85) (N := 400) dX6_become_85 rfl cpw_X6_37 (Nat.le_of_ble_eq_true rfl) (Nat.le_trans copyr (Nat.le_of_ble_eq_true rfl)) (lA4 k_h1).1 (lA4 k_h0).1 (lA4 k_h1).2 (lA4 k_h0).2 aln_400.symm (Nat.le_of_ble_eq_true rfl) (fun s85 => ?_)
  exact V_ret (pc := 88) dX6_become_88 rfl (hk := fun h => h)
def J_X6_consider_101 (h0 : Nat) (h1 : Nat) (t0 : Int32) (t1 : Int32) (σ : MS) : Option (Int32 × MS) := (if inb t1 8 then ltM (mu σ (h0 + 5) (ix t1) t0) (fun s101 => some (0, s101)) else none)
def J_X6_consider_80 (h0 : Nat) (h1 : Nat) (v2 : Int32) (v3 : Int32) (t0 : Int32) (t1 : Int32) (σ : MS) : Option (Int32 × MS) := (if inb t1 8 then ltM (mu σ (h0 + 5) (ix t1) t0) (fun s80 => ((f_X4_holds h1 v2 v3 s80).bind (fun q90 => (if q90 = 0 then J_X6_consider_101 h0 h1 (0 : Int32) (7 : Int32) s80 else J_X6_consider_101 h0 h1 (1 : Int32) (7 : Int32) s80)))) else none)
def f_X6_consider (h0 : Nat) (h1 : Nat) (p2 : Int32) (p3 : Int32) (p4 : Int32) (p5 : Int32) (σ : MS) : Option (Int32 × MS) := (ltM (mu σ (h0 + 5) 0 p2) (fun s6 => (ltM (mu s6 (h0 + 5) 1 p3) (fun s13 => (ltM (mu s13 (h0 + 5) 2 p4) (fun s21 => (ltM (mu s21 (h0 + 5) 3 p5) (fun s29 => ((f_X4_likingOf h1 p2 p3 s29).bind (fun q38 => ((f_X4_likingOf h1 p3 p2 s29).bind (fun q44 => (ltM (mu s29 (h0 + 5) 4 (q38 + q44)) (fun s48 => (ltM (mu s48 (h0 + 5) 5 (s48 h1 5)) (fun s58 => (if inb p2 8 then (if (s58 (h1 + 2) (ix p2)) = p3 then J_X6_consider_80 h0 h1 p2 p3 (1 : Int32) (6 : Int32) s58 else J_X6_consider_80 h0 h1 p2 p3 (0 : Int32) (6 : Int32) s58) else none)))))))))))))))))
set_option maxRecDepth 20000 in
set_option maxHeartbeats 2000000 in
theorem c_X6_consider (w : TG) (h0 : Nat) (h1 : Nat) (p2 : Int32) (p3 : Int32) (p4 : Int32) (p5 : Int32) (k_h0 : kd h0 = 6) (k_h1 : kd h1 = 4) (σ : MS) : MC m_X6_consider w [.ref (wB w + h0), .ref (wB w + h1), .int p2, .int p3, .int p4, .int p5] σ (f_X6_consider h0 h1 p2 p3 p4 p5 σ) := by
  refine V_meth (by decide +kernel) (Nat.le_of_ble_eq_true rfl) (by intro v hv; simp only [List.mem_cons, List.not_mem_nil, or_false] at hv; rcases hv with rfl | rfl | rfl | rfl | rfl | rfl <;> rfl) (fun g x => ?_)
  show VV m_X6_consider w g 0 0 (QM m_X6_consider w g x) (fun b : Int32 × MS => b = x) 0 [some (.ref (wB w + h0)), some (.ref (wB w + h1)), some (.int p2), some (.int p3), some (.int p4), some (.int p5)] [] σ (f_X6_consider h0 h1 p2 p3 p4 p5 σ)
  have hJ101 : ∀ (t0 : Int32) (t1 : Int32) (σ : MS), VV m_X6_consider w g 0 0 (QM m_X6_consider w g x) (fun b : Int32 × MS => b = x) 101 [none, none, none, none, none, none] [.int t0, .int t1, .ref (wB w + (h0 + 5))] σ (J_X6_consider_101 h0 h1 t0 t1 σ) := by
    intro t0 t1 σ
    refine V_iast (pc := 101) (n := 8) dX6_consider_101 (lA5 k_h0).1 (lA5 k_h0).2 (fun s101 => ?_)
    exact V_ret (pc := 102) dX6_consider_102 rfl (hk := fun h => h)
  have hJ80 : ∀ (t0 : Int32) (t1 : Int32) (σ : MS), VV m_X6_consider w g 0 0 (QM m_X6_consider w g x) (fun b : Int32 × MS => b = x) 80 [some (.ref (wB w + h0)), some (.ref (wB w + h1)), some (.int p2), some (.int p3), none, none] [.int t0, .int t1, .ref (wB w + (h0 + 5))] σ (J_X6_consider_80 h0 h1 p2 p3 t0 t1 σ) := by
    intro t0 t1 σ
    refine V_iast (pc := 80) (n := 8) dX6_consider_80 (lA5 k_h0).1 (lA5 k_h0).2 (fun s80 => ?_)
    refine V_aload_n (pc := 81) dX6_consider_81 rfl rfl ?_
    refine V_getr (pc := 82) (t := (h0 + 5)) fk_X6_28 rfl dX6_consider_82 k_h0 (rf_6_6 _) ?_
    refine V_bipush (pc := 85) dX6_consider_85 bp_7 ?_
    refine V_aload_n (pc := 87) dX6_consider_87 rfl rfl ?_
    refine V_iload_n (pc := 88) dX6_consider_88 rfl rfl ?_
    refine V_iload_n (pc := 89) dX6_consider_89 rfl rfl ?_
    refine V_callVpi (pc := 90) (As := [.int p2, .int p3]) (rest := [.int (7 : Int32), .ref (wB w + (h0 + 5))]) (c_X4_holds w h1 p2 p3 k_h1 s80) cw_X6_74 rfl rfl dX6_consider_90 k_h1 ci_4 ⟨Nat.le_of_ble_eq_true rfl, Nat.le_of_ble_eq_true rfl⟩ rfl rfl (Nat.le_of_ble_eq_true rfl) (Nat.le_of_ble_eq_true rfl) (Nat.le_of_ble_eq_true rfl) rfl (fun q90 => ?_)
    refine V_if_eq (pc := 93) (tgt := 100) dX6_consider_93 (by decide +kernel) ?_ ?_
    · refine V_iconst (pc := 100) dX6_consider_100 ic_0 ?_
      refine V_sub (vs' := [none, none, none, none, none, none]) (show vless _ _ from trivial) rfl ?_
      exact hJ101 (0 : Int32) (7 : Int32) s80
    · refine V_iconst (pc := 96) dX6_consider_96 ic_1 ?_
      refine V_goto (pc := 97) (tgt := 101) dX6_consider_97 (by decide +kernel) ?_
      refine V_sub (vs' := [none, none, none, none, none, none]) (show vless _ _ from trivial) rfl ?_
      exact hJ101 (1 : Int32) (7 : Int32) s80
  refine V_aload_n (pc := 0) dX6_consider_0 rfl rfl ?_
  refine V_getr (pc := 1) (t := (h0 + 5)) fk_X6_28 rfl dX6_consider_1 k_h0 (rf_6_6 _) ?_
  refine V_iconst (pc := 4) dX6_consider_4 ic_0 ?_
  refine V_iload_n (pc := 5) dX6_consider_5 rfl rfl ?_
  refine V_iastC (pc := 6) (n := 8) dX6_consider_6 (lA5 k_h0).1 (lA5 k_h0).2 inb_0_8 (fun s6 => ?_)
  refine V_aload_n (pc := 7) dX6_consider_7 rfl rfl ?_
  refine V_getr (pc := 8) (t := (h0 + 5)) fk_X6_28 rfl dX6_consider_8 k_h0 (rf_6_6 _) ?_
  refine V_iconst (pc := 11) dX6_consider_11 ic_1 ?_
  refine V_iload_n (pc := 12) dX6_consider_12 rfl rfl ?_
  refine V_iastC (pc := 13) (n := 8) dX6_consider_13 (lA5 k_h0).1 (lA5 k_h0).2 inb_1_8 (fun s13 => ?_)
  refine V_aload_n (pc := 14) dX6_consider_14 rfl rfl ?_
  refine V_getr (pc := 15) (t := (h0 + 5)) fk_X6_28 rfl dX6_consider_15 k_h0 (rf_6_6 _) ?_
  refine V_iconst (pc := 18) dX6_consider_18 ic_2 ?_
  refine V_iload (pc := 19) dX6_consider_19 rfl ?_
  refine V_iastC (pc := 21) (n := 8) dX6_consider_21 (lA5 k_h0).1 (lA5 k_h0).2 inb_2_8 (fun s21 => ?_)
  refine V_aload_n (pc := 22) dX6_consider_22 rfl rfl ?_
  refine V_getr (pc := 23) (t := (h0 + 5)) fk_X6_28 rfl dX6_consider_23 k_h0 (rf_6_6 _) ?_
  refine V_iconst (pc := 26) dX6_consider_26 ic_3 ?_
  refine V_iload (pc := 27) dX6_consider_27 rfl ?_
  refine V_iastC (pc := 29) (n := 8) dX6_consider_29 (lA5 k_h0).1 (lA5 k_h0).2 inb_3_8 (fun s29 => ?_)
  refine V_aload_n (pc := 30) dX6_consider_30 rfl rfl ?_
  refine V_getr (pc := 31) (t := (h0 + 5)) fk_X6_28 rfl dX6_consider_31 k_h0 (rf_6_6 _) ?_
  refine V_iconst (pc := 34) dX6_consider_34 ic_4 ?_
  refine V_aload_n (pc := 35) dX6_consider_35 rfl rfl ?_
  refine V_iload_n (pc := 36) dX6_consider_36 rfl rfl ?_
  refine V_iload_n (pc := 37) dX6_consider_37 rfl rfl ?_
  refine V_callVpi (pc := 38) (As := [.int p2, .int p3]) (rest := [.int (4 : Int32), .ref (wB w + (h0 + 5))]) (c_X4_likingOf w h1 p2 p3 k_h1 s29) cw_X6_65 rfl rfl dX6_consider_38 k_h1 ci_4 ⟨Nat.le_of_ble_eq_true rfl, Nat.le_of_ble_eq_true rfl⟩ rfl rfl (Nat.le_of_ble_eq_true rfl) (Nat.le_of_ble_eq_true rfl) (Nat.le_of_ble_eq_true rfl) rfl (fun q38 => ?_)
  refine V_aload_n (pc := 41) dX6_consider_41 rfl rfl ?_
  refine V_iload_n (pc := 42) dX6_consider_42 rfl rfl ?_
  refine V_iload_n (pc := 43) dX6_consider_43 rfl rfl ?_
  refine V_callVpi (pc := 44) (As := [.int p3, .int p2]) (rest := [.int q38, .int (4 : Int32), .ref (wB w + (h0 + 5))]) (c_X4_likingOf w h1 p3 p2 k_h1 s29) cw_X6_65 rfl rfl dX6_consider_44 k_h1 ci_4 ⟨Nat.le_of_ble_eq_true rfl, Nat.le_of_ble_eq_true rfl⟩ rfl rfl (Nat.le_of_ble_eq_true rfl) (Nat.le_of_ble_eq_true rfl) (Nat.le_of_ble_eq_true rfl) rfl (fun q44 => ?_)
  refine V_iadd (pc := 47) dX6_consider_47 ?_
  refine V_iastC (pc := 48) (n := 8) dX6_consider_48 (lA5 k_h0).1 (lA5 k_h0).2 inb_4_8 (fun s48 => ?_)
  refine V_aload_n (pc := 49) dX6_consider_49 rfl rfl ?_
  refine V_getr (pc := 50) (t := (h0 + 5)) fk_X6_28 rfl dX6_consider_50 k_h0 (rf_6_6 _) ?_
  refine V_iconst (pc := 53) dX6_consider_53 ic_5 ?_
  refine V_aload_n (pc := 54) dX6_consider_54 rfl rfl ?_
  refine V_geti (pc := 55) fk_X6_68 rfl dX6_consider_55 k_h1 (rf_4_5 _) ?_
  refine V_iastC (pc := 58) (n := 8) dX6_consider_58 (lA5 k_h0).1 (lA5 k_h0).2 inb_5_8 (fun s58 => ?_)
  refine V_aload_n (pc := 59) dX6_consider_59 rfl rfl ?_
  refine V_getr (pc := 60) (t := (h0 + 5)) fk_X6_28 rfl dX6_consider_60 k_h0 (rf_6_6 _) ?_
  refine V_bipush (pc := 63) dX6_consider_63 bp_6 ?_
  refine V_aload_n (pc := 65) dX6_consider_65 rfl rfl ?_
  refine V_getr (pc := 66) (t := (h1 + 2)) fk_X6_71 rfl dX6_consider_66 k_h1 (rf_4_9 _) ?_
  refine V_iload_n (pc := 69) dX6_consider_69 rfl rfl ?_
  refine V_iald (pc := 70) (n := 8) dX6_consider_70 (hA2 k_h1).1 (hA2 k_h1).2 ?_
  refine V_iload_n (pc := 71) dX6_consider_71 rfl rfl ?_
  refine V_icmp_ne (pc := 72) (tgt := 79) dX6_consider_72 (by decide +kernel) ?_ ?_
  · refine V_iconst (pc := 79) dX6_consider_79 ic_0 ?_
    refine V_sub (vs' := [some (.ref (wB w + h0)), some (.ref (wB w + h1)), some (.int p2), some (.int p3), none, none]) (show vless _ _ from ⟨rfl, ⟨rfl, ⟨rfl, ⟨rfl, trivial⟩⟩⟩⟩) rfl ?_
    exact hJ80 (0 : Int32) (6 : Int32) s58
  · refine V_iconst (pc := 75) dX6_consider_75 ic_1 ?_
    refine V_goto (pc := 76) (tgt := 80) dX6_consider_76 (by decide +kernel) ?_
    refine V_sub (vs' := [some (.ref (wB w + h0)), some (.ref (wB w + h1)), some (.int p2), some (.int p3), none, none]) (show vless _ _ from ⟨rfl, ⟨rfl, ⟨rfl, ⟨rfl, trivial⟩⟩⟩⟩) rfl ?_
    exact hJ80 (1 : Int32) (6 : Int32) s58
def J_X6_joined_65 (t0 : Int32) (σ : MS) : Option (Int32) := some t0
def J_X6_joined_54 (t0 : Int32) (σ : MS) : Option (Int32) := some t0
def f_X6_joined (p0 : Int32) (p1 : Int32) (p2 : Int32) (σ : MS) : Option (Int32) := (if p0 = (2001 : Int32) then some (p1 &&& p2) else (if p0 = (2002 : Int32) then some (p1 ||| p2) else (if p0 = (2003 : Int32) then some (p1 + p2) else (if p0 = (2004 : Int32) then (if p2 ≤ p1 then J_X6_joined_54 (0 : Int32) σ else J_X6_joined_54 (1 : Int32) σ) else (if p1 ≤ p2 then J_X6_joined_65 (0 : Int32) σ else J_X6_joined_65 (1 : Int32) σ)))))
set_option maxRecDepth 20000 in
set_option maxHeartbeats 2000000 in
theorem c_X6_joined (w : TG) (p0 : Int32) (p1 : Int32) (p2 : Int32) (σ : MS) : MC m_X6_joined w [.int p0, .int p1, .int p2] σ ((f_X6_joined p0 p1 p2 σ).map (fun r => (r, σ))) := by
  refine V_methp (by decide +kernel) (Nat.le_of_ble_eq_true rfl) (by intro v hv; simp only [List.mem_cons, List.not_mem_nil, or_false] at hv; rcases hv with rfl | rfl | rfl <;> rfl) (fun g x => ?_)
  show VV m_X6_joined w g 0 0 (QM m_X6_joined w g x) (fun b : Int32 => (b, σ) = x) 0 [some (.int p0), some (.int p1), some (.int p2)] [] σ (f_X6_joined p0 p1 p2 σ)
  have hJ65 : ∀ (t0 : Int32), VV m_X6_joined w g 0 0 (QM m_X6_joined w g x) (fun b : Int32 => (b, σ) = x) 65 [none, none, none] [.int t0] σ (J_X6_joined_65 t0 σ) := by
    intro t0
    exact V_ireti (pc := 65) dX6_joined_65 rfl (hk := fun h => h)
  have hJ54 : ∀ (t0 : Int32), VV m_X6_joined w g 0 0 (QM m_X6_joined w g x) (fun b : Int32 => (b, σ) = x) 54 [none, none, none] [.int t0] σ (J_X6_joined_54 t0 σ) := by
    intro t0
    exact V_ireti (pc := 54) dX6_joined_54 rfl (hk := fun h => h)
  refine V_iload_n (pc := 0) dX6_joined_0 rfl rfl ?_
  refine V_ite (c := p0 = (2001 : Int32)) (fun hx => ?_) (fun hx2001 => ?_)
  · refine V_tabIn (pc := 1) (x := p0) (tgt := 32) dX6_joined_1 (by rw [hx]; decide) (by rw [hx]; decide) (by rw [hx]; rfl) (by decide) ?_
    refine V_iload_n (pc := 32) dX6_joined_32 rfl rfl ?_
    refine V_iload_n (pc := 33) dX6_joined_33 rfl rfl ?_
    refine V_iand (pc := 34) dX6_joined_34 ?_
    exact V_ireti (pc := 35) dX6_joined_35 rfl (hk := fun h => h)
  refine V_ite (c := p0 = (2002 : Int32)) (fun hx => ?_) (fun hx2002 => ?_)
  · refine V_tabIn (pc := 1) (x := p0) (tgt := 36) dX6_joined_1 (by rw [hx]; decide) (by rw [hx]; decide) (by rw [hx]; rfl) (by decide) ?_
    refine V_iload_n (pc := 36) dX6_joined_36 rfl rfl ?_
    refine V_iload_n (pc := 37) dX6_joined_37 rfl rfl ?_
    refine V_ior (pc := 38) dX6_joined_38 ?_
    exact V_ireti (pc := 39) dX6_joined_39 rfl (hk := fun h => h)
  refine V_ite (c := p0 = (2003 : Int32)) (fun hx => ?_) (fun hx2003 => ?_)
  · refine V_tabIn (pc := 1) (x := p0) (tgt := 40) dX6_joined_1 (by rw [hx]; decide) (by rw [hx]; decide) (by rw [hx]; rfl) (by decide) ?_
    refine V_iload_n (pc := 40) dX6_joined_40 rfl rfl ?_
    refine V_iload_n (pc := 41) dX6_joined_41 rfl rfl ?_
    refine V_iadd (pc := 42) dX6_joined_42 ?_
    exact V_ireti (pc := 43) dX6_joined_43 rfl (hk := fun h => h)
  refine V_ite (c := p0 = (2004 : Int32)) (fun hx => ?_) (fun hx2004 => ?_)
  · refine V_tabIn (pc := 1) (x := p0) (tgt := 44) dX6_joined_1 (by rw [hx]; decide) (by rw [hx]; decide) (by rw [hx]; rfl) (by decide) ?_
    refine V_iload_n (pc := 44) dX6_joined_44 rfl rfl ?_
    refine V_iload_n (pc := 45) dX6_joined_45 rfl rfl ?_
    refine V_icmp_ge (pc := 46) (tgt := 53) dX6_joined_46 (by decide +kernel) ?_ ?_
    · refine V_iconst (pc := 53) dX6_joined_53 ic_0 ?_
      refine V_sub (vs' := [none, none, none]) (show vless _ _ from trivial) rfl ?_
      exact hJ54 (0 : Int32)
    · refine V_iconst (pc := 49) dX6_joined_49 ic_1 ?_
      refine V_goto (pc := 50) (tgt := 54) dX6_joined_50 (by decide +kernel) ?_
      refine V_sub (vs' := [none, none, none]) (show vless _ _ from trivial) rfl ?_
      exact hJ54 (1 : Int32)
  refine V_tabOut (pc := 1) (tgt := 55) dX6_joined_1 (tabout p0 2001 2004 (by decide) (by decide) (fun k h1 h2 => ?_)) (by decide) ?_
  · rcases (show k = 2001 ∨ k = 2002 ∨ k = 2003 ∨ k = 2004 by omega) with rfl | rfl | rfl | rfl
    · exact hx2001
    · exact hx2002
    · exact hx2003
    · exact hx2004
  · refine V_iload_n (pc := 55) dX6_joined_55 rfl rfl ?_
    refine V_iload_n (pc := 56) dX6_joined_56 rfl rfl ?_
    refine V_icmp_le (pc := 57) (tgt := 64) dX6_joined_57 (by decide +kernel) ?_ ?_
    · refine V_iconst (pc := 64) dX6_joined_64 ic_0 ?_
      refine V_sub (vs' := [none, none, none]) (show vless _ _ from trivial) rfl ?_
      exact hJ65 (0 : Int32)
    · refine V_iconst (pc := 60) dX6_joined_60 ic_1 ?_
      refine V_goto (pc := 61) (tgt := 65) dX6_joined_61 (by decide +kernel) ?_
      refine V_sub (vs' := [none, none, none]) (show vless _ _ from trivial) rfl ?_
      exact hJ65 (1 : Int32)
def J_X6_isTrue_182 (n : Nat) (h0 : Nat) (t0 : Int32) (σ : MS) : Option (Int32 × MS) := (if t0 = 0 ∨ t0 = 1 then some (t0, σ) else none)
def J_X6_isTrue_177 (n : Nat) (h0 : Nat) (σ : MS) : Option (Int32 × MS) := J_X6_isTrue_182 n h0 (1 : Int32) σ
def J_X6_isTrue_158 (n : Nat) (h0 : Nat) (v1 : Int32) (v2 : Int32) (v3 : Int32) (σ : MS) : Option ((Int32 × Int32 × MS) ⊕ (Int32 × MS)) := some (.inl (v2, (v3 + (1 : Int32)), σ))
def J_X6_isTrue_83 (n : Nat) (h0 : Nat) (v1 : Int32) (v2 : Int32) (v3 : Int32) (t0 : Int32) (t1 : Int32) (σ : MS) : Option ((Int32 × Int32 × MS) ⊕ (Int32 × MS)) := (if inb t1 32 then ltM (mu σ (h0 + 6) (ix t1) t0) (fun s83 => J_X6_isTrue_158 n h0 v1 (v2 + (1 : Int32)) v3 s83) else none)
def L_X6_isTrue_19 (n : Nat) (h0 : Nat) (v1 : Int32) (σ : MS) (a19 : Int32 × Int32 × MS) : Option ((Int32 × Int32 × MS) ⊕ (Int32 × MS)) := (if inb v1 12 then (if (a19.2.2 (h0 + 3) (ix v1)) ≤ a19.2.1 then ((if a19.1 = 0 then J_X6_isTrue_177 n h0 a19.2.2 else (if (a19.2.2 (h0 + 6) 0) = 0 then J_X6_isTrue_182 n h0 (0 : Int32) a19.2.2 else J_X6_isTrue_177 n h0 a19.2.2))).map Sum.inr else (if inb a19.2.1 400 then (if (2000 : Int32) ≤ (a19.2.2 (h0 + 4) (ix a19.2.1)) then (if (a19.2.2 (h0 + 4) (ix a19.2.1)) = (2000 : Int32) then (if a19.1 ≤ 0 then J_X6_isTrue_158 n h0 v1 a19.1 a19.2.1 a19.2.2 else (if inb (a19.1 - (1 : Int32)) 32 then (if inb (a19.1 - (1 : Int32)) 32 then ltM (mu a19.2.2 (h0 + 6) (ix (a19.1 - (1 : Int32))) ((1 : Int32) - (a19.2.2 (h0 + 6) (ix (a19.1 - (1 : Int32)))))) (fun s119 => J_X6_isTrue_158 n h0 v1 a19.1 a19.2.1 s119) else none) else none)) else (if a19.1 ≤ (1 : Int32) then J_X6_isTrue_158 n h0 v1 a19.1 a19.2.1 a19.2.2 else (if inb ((a19.1 + (-1 : Int32)) - (1 : Int32)) 32 then (if inb (a19.1 + (-1 : Int32)) 32 then ((f_X6_joined (a19.2.2 (h0 + 4) (ix a19.2.1)) (a19.2.2 (h0 + 6) (ix ((a19.1 + (-1 : Int32)) - (1 : Int32)))) (a19.2.2 (h0 + 6) (ix (a19.1 + (-1 : Int32)))) a19.2.2).bind (fun q154 => (if inb ((a19.1 + (-1 : Int32)) - (1 : Int32)) 32 then ltM (mu a19.2.2 (h0 + 6) (ix ((a19.1 + (-1 : Int32)) - (1 : Int32))) q154) (fun s157 => J_X6_isTrue_158 n h0 v1 (a19.1 + (-1 : Int32)) a19.2.1 s157) else none))) else none) else none))) else (if (32 : Int32) ≤ a19.1 then J_X6_isTrue_158 n h0 v1 a19.1 a19.2.1 a19.2.2 else (if (1000 : Int32) ≤ (a19.2.2 (h0 + 4) (ix a19.2.1)) then (if inb ((a19.2.2 (h0 + 4) (ix a19.2.1)) - (1000 : Int32)) 8 then J_X6_isTrue_83 n h0 v1 a19.1 a19.2.1 (a19.2.2 (h0 + 5) (ix ((a19.2.2 (h0 + 4) (ix a19.2.1)) - (1000 : Int32)))) a19.1 a19.2.2 else none) else J_X6_isTrue_83 n h0 v1 a19.1 a19.2.1 (a19.2.2 (h0 + 4) (ix a19.2.1)) a19.1 a19.2.2))) else none)) else none)
def J_X6_isTrue_18 (n : Nat) (h0 : Nat) (v1 : Int32) (v2 : Int32) (t0 : Int32) (σ : MS) : Option (Int32 × MS) := itr (L_X6_isTrue_19 n h0 v1 σ) n (v2, t0, σ)
def f_X6_isTrue (n : Nat) (h0 : Nat) (p1 : Int32) (σ : MS) : Option (Int32 × MS) := (if p1 = 0 then J_X6_isTrue_18 n h0 p1 (0 : Int32) (0 : Int32) σ else (if inb (p1 - (1 : Int32)) 12 then J_X6_isTrue_18 n h0 p1 (0 : Int32) (σ (h0 + 3) (ix (p1 - (1 : Int32)))) σ else none))
set_option maxRecDepth 20000 in
set_option maxHeartbeats 2000000 in
theorem c_X6_isTrue (w : TG) (n : Nat) (h0 : Nat) (p1 : Int32) (k_h0 : kd h0 = 6) (σ : MS) : MC m_X6_isTrue w [.ref (wB w + h0), .int p1] σ (f_X6_isTrue n h0 p1 σ) := by
  refine V_meth (by decide +kernel) (Nat.le_of_ble_eq_true rfl) (by intro v hv; simp only [List.mem_cons, List.not_mem_nil, or_false] at hv; rcases hv with rfl | rfl <;> rfl) (fun g x => ?_)
  show VV m_X6_isTrue w g 0 0 (QM m_X6_isTrue w g x) (fun b : Int32 × MS => b = x) 0 [some (.ref (wB w + h0)), some (.int p1), none, none, none] [] σ (f_X6_isTrue n h0 p1 σ)
  have hJ182 : ∀ (t0 : Int32) (σ : MS), VV m_X6_isTrue w g 0 0 (QM m_X6_isTrue w g x) (fun b : Int32 × MS => b = x) 182 [none, none, none, none, none] [.int t0] σ (J_X6_isTrue_182 n h0 t0 σ) := by
    intro t0 σ
    exact V_iretZ (pc := 182) dX6_isTrue_182 rfl (hk := fun h => h)
  have hJ177 : ∀ (σ : MS), VV m_X6_isTrue w g 0 0 (QM m_X6_isTrue w g x) (fun b : Int32 × MS => b = x) 177 [none, none, none, none, none] [] σ (J_X6_isTrue_177 n h0 σ) := by
    intro σ
    refine V_iconst (pc := 177) dX6_isTrue_177 ic_1 ?_
    refine V_goto (pc := 178) (tgt := 182) dX6_isTrue_178 (by decide +kernel) ?_
    exact hJ182 (1 : Int32) σ
  have hL19 : ∀  (n0 : Nat) (a : Int32 × Int32 × MS), VV m_X6_isTrue w g 0 0 (QM m_X6_isTrue w g x) (fun b : Int32 × MS => b = x) 19 [some (.ref (wB w + h0)), some (.int p1), some (.int a.1), some (.int a.2.1), none] [] a.2.2 (itr (L_X6_isTrue_19 n h0 p1 σ) n0 a) := by
    refine V_itr (vf := fun a : Int32 × Int32 × MS => [some (.ref (wB w + h0)), some (.int p1), some (.int a.1), some (.int a.2.1), none]) (sf := fun a : Int32 × Int32 × MS => a.2.2) (fun κ19 b19 r19 a19 => ?_)
    obtain ⟨a19_1, a19_2, a19_3⟩ := a19
    show VV m_X6_isTrue w g 0 0 (QM m_X6_isTrue w g x) κ19 19 [some (.ref (wB w + h0)), some (.int p1), some (.int a19_1), some (.int a19_2), none] [] a19_3 (L_X6_isTrue_19 n h0 p1 σ (a19_1, a19_2, a19_3))
    have hJ158 : ∀ (v2 : Int32) (v3 : Int32) (σ : MS), VV m_X6_isTrue w g 0 0 (QM m_X6_isTrue w g x) κ19 158 [some (.ref (wB w + h0)), some (.int p1), some (.int v2), some (.int v3), none] [] σ (J_X6_isTrue_158 n h0 p1 v2 v3 σ) := by
      intro v2 v3 σ
      refine V_iincC (pc := 158) (vs' := [some (.ref (wB w + h0)), some (.int p1), some (.int v2), some (.int (v3 + (1 : Int32))), none]) dX6_isTrue_158 (Nat.le_of_ble_eq_true rfl) rfl ic_1 rfl ?_
      refine V_goto (pc := 161) (tgt := 19) dX6_isTrue_161 (by decide +kernel) ?_
      exact V_back (b19 (v2, (v3 + (1 : Int32)), σ))
    have hJ83 : ∀ (v2 : Int32) (v3 : Int32) (t0 : Int32) (t1 : Int32) (σ : MS), VV m_X6_isTrue w g 0 0 (QM m_X6_isTrue w g x) κ19 83 [some (.ref (wB w + h0)), some (.int p1), some (.int v2), some (.int v3), none] [.int t0, .int t1, .ref (wB w + (h0 + 6))] σ (J_X6_isTrue_83 n h0 p1 v2 v3 t0 t1 σ) := by
      intro v2 v3 t0 t1 σ
      refine V_iast (pc := 83) (n := 32) dX6_isTrue_83 (lA6 k_h0).1 (lA6 k_h0).2 (fun s83 => ?_)
      refine V_iincC (pc := 84) (vs' := [some (.ref (wB w + h0)), some (.int p1), some (.int (v2 + (1 : Int32))), some (.int v3), none]) dX6_isTrue_84 (Nat.le_of_ble_eq_true rfl) rfl ic_1 rfl ?_
      refine V_goto (pc := 87) (tgt := 158) dX6_isTrue_87 (by decide +kernel) ?_
      exact hJ158 (v2 + (1 : Int32)) v3 s83
    refine V_iload_n (pc := 19) dX6_isTrue_19 rfl rfl ?_
    refine V_aload_n (pc := 20) dX6_isTrue_20 rfl rfl ?_
    refine V_getr (pc := 21) (t := (h0 + 3)) fk_X6_22 rfl dX6_isTrue_21 k_h0 (rf_6_4 _) ?_
    refine V_iload_n (pc := 24) dX6_isTrue_24 rfl rfl ?_
    refine V_iald (pc := 25) (n := 12) dX6_isTrue_25 (lA3 k_h0).1 (lA3 k_h0).2 ?_
    refine V_icmp_ge (pc := 26) (tgt := 164) dX6_isTrue_26 (by decide +kernel) ?_ ?_
    · refine V_exit r19 ?_
      refine V_iload_n (pc := 164) dX6_isTrue_164 rfl rfl ?_
      refine V_if_eq (pc := 165) (tgt := 177) dX6_isTrue_165 (by decide +kernel) ?_ ?_
      · refine V_sub (vs' := [none, none, none, none, none]) (show vless _ _ from trivial) rfl ?_
        exact hJ177 a19_3
      · refine V_aload_n (pc := 168) dX6_isTrue_168 rfl rfl ?_
        refine V_getr (pc := 169) (t := (h0 + 6)) fk_X6_31 rfl dX6_isTrue_169 k_h0 (rf_6_7 _) ?_
        refine V_iconst (pc := 172) dX6_isTrue_172 ic_0 ?_
        refine V_ialdC (pc := 173) (n := 32) dX6_isTrue_173 (lA6 k_h0).1 (lA6 k_h0).2 inb_0_32 ?_
        refine V_if_eq (pc := 174) (tgt := 181) dX6_isTrue_174 (by decide +kernel) ?_ ?_
        · refine V_iconst (pc := 181) dX6_isTrue_181 ic_0 ?_
          refine V_sub (vs' := [none, none, none, none, none]) (show vless _ _ from trivial) rfl ?_
          exact hJ182 (0 : Int32) a19_3
        · refine V_sub (vs' := [none, none, none, none, none]) (show vless _ _ from trivial) rfl ?_
          exact hJ177 a19_3
    · refine V_aload_n (pc := 29) dX6_isTrue_29 rfl rfl ?_
      refine V_getr (pc := 30) (t := (h0 + 4)) fk_X6_25 rfl dX6_isTrue_30 k_h0 (rf_6_5 _) ?_
      refine V_iload_n (pc := 33) dX6_isTrue_33 rfl rfl ?_
      refine V_iald (pc := 34) (n := 400) dX6_isTrue_34 (lA4 k_h0).1 (lA4 k_h0).2 ?_
      refine V_istore (pc := 35) (vs' := [some (.ref (wB w + h0)), some (.int p1), some (.int a19_1), some (.int a19_2), some (.int (a19_3 (h0 + 4) (ix a19_2)))]) dX6_isTrue_35 (Nat.le_of_ble_eq_true rfl) (Nat.le_of_ble_eq_true rfl) rfl ?_
      refine V_iload (pc := 37) dX6_isTrue_37 rfl ?_
      refine V_sipush (pc := 39) dX6_isTrue_39 sp_2000 ?_
      refine V_icmp_ge (pc := 42) (tgt := 90) dX6_isTrue_42 (by decide +kernel) ?_ ?_
      · refine V_iload (pc := 90) dX6_isTrue_90 rfl ?_
        refine V_sipush (pc := 92) dX6_isTrue_92 sp_2000 ?_
        refine V_icmp_ne (pc := 95) (tgt := 123) dX6_isTrue_95 (by decide +kernel) ?_ ?_
        · refine V_iload_n (pc := 123) dX6_isTrue_123 rfl rfl ?_
          refine V_iconst (pc := 124) dX6_isTrue_124 ic_1 ?_
          refine V_icmp_le (pc := 125) (tgt := 158) dX6_isTrue_125 (by decide +kernel) ?_ ?_
          · refine V_sub (vs' := [some (.ref (wB w + h0)), some (.int p1), some (.int a19_1), some (.int a19_2), none]) (show vless _ _ from ⟨rfl, ⟨rfl, ⟨rfl, ⟨rfl, trivial⟩⟩⟩⟩) rfl ?_
            exact hJ158 a19_1 a19_2 a19_3
          · refine V_iincC (pc := 128) (vs' := [some (.ref (wB w + h0)), some (.int p1), some (.int (a19_1 + (-1 : Int32))), some (.int a19_2), some (.int (a19_3 (h0 + 4) (ix a19_2)))]) dX6_isTrue_128 (Nat.le_of_ble_eq_true rfl) rfl ic_m1 rfl ?_
            refine V_aload_n (pc := 131) dX6_isTrue_131 rfl rfl ?_
            refine V_getr (pc := 132) (t := (h0 + 6)) fk_X6_31 rfl dX6_isTrue_132 k_h0 (rf_6_7 _) ?_
            refine V_iload_n (pc := 135) dX6_isTrue_135 rfl rfl ?_
            refine V_iconst (pc := 136) dX6_isTrue_136 ic_1 ?_
            refine V_isub (pc := 137) dX6_isTrue_137 ?_
            refine V_iload (pc := 138) dX6_isTrue_138 rfl ?_
            refine V_aload_n (pc := 140) dX6_isTrue_140 rfl rfl ?_
            refine V_getr (pc := 141) (t := (h0 + 6)) fk_X6_31 rfl dX6_isTrue_141 k_h0 (rf_6_7 _) ?_
            refine V_iload_n (pc := 144) dX6_isTrue_144 rfl rfl ?_
            refine V_iconst (pc := 145) dX6_isTrue_145 ic_1 ?_
            refine V_isub (pc := 146) dX6_isTrue_146 ?_
            refine V_iald (pc := 147) (n := 32) dX6_isTrue_147 (lA6 k_h0).1 (lA6 k_h0).2 ?_
            refine V_aload_n (pc := 148) dX6_isTrue_148 rfl rfl ?_
            refine V_getr (pc := 149) (t := (h0 + 6)) fk_X6_31 rfl dX6_isTrue_149 k_h0 (rf_6_7 _) ?_
            refine V_iload_n (pc := 152) dX6_isTrue_152 rfl rfl ?_
            refine V_iald (pc := 153) (n := 32) dX6_isTrue_153 (lA6 k_h0).1 (lA6 k_h0).2 ?_
            refine V_callSpi (pc := 154) (As := [.int (a19_3 (h0 + 4) (ix a19_2)), .int (a19_3 (h0 + 6) (ix ((a19_1 + (-1 : Int32)) - (1 : Int32)))), .int (a19_3 (h0 + 6) (ix (a19_1 + (-1 : Int32))))]) (rest := [.int ((a19_1 + (-1 : Int32)) - (1 : Int32)), .ref (wB w + (h0 + 6))]) (c_X6_joined w (a19_3 (h0 + 4) (ix a19_2)) (a19_3 (h0 + 6) (ix ((a19_1 + (-1 : Int32)) - (1 : Int32)))) (a19_3 (h0 + 6) (ix (a19_1 + (-1 : Int32)))) a19_3) cs_X6_82 rfl rfl dX6_isTrue_154 ⟨Nat.le_of_ble_eq_true rfl, Nat.le_of_ble_eq_true rfl⟩ rfl rfl (Nat.le_of_ble_eq_true rfl) (Nat.le_of_ble_eq_true rfl) (Nat.le_of_ble_eq_true rfl) rfl (fun q154 => ?_)
            refine V_iast (pc := 157) (n := 32) dX6_isTrue_157 (lA6 k_h0).1 (lA6 k_h0).2 (fun s157 => ?_)
            refine V_sub (vs' := [some (.ref (wB w + h0)), some (.int p1), some (.int (a19_1 + (-1 : Int32))), some (.int a19_2), none]) (show vless _ _ from ⟨rfl, ⟨rfl, ⟨rfl, ⟨rfl, trivial⟩⟩⟩⟩) rfl ?_
            exact hJ158 (a19_1 + (-1 : Int32)) a19_2 s157
        · refine V_iload_n (pc := 98) dX6_isTrue_98 rfl rfl ?_
          refine V_if_le (pc := 99) (tgt := 158) dX6_isTrue_99 (by decide +kernel) ?_ ?_
          · refine V_sub (vs' := [some (.ref (wB w + h0)), some (.int p1), some (.int a19_1), some (.int a19_2), none]) (show vless _ _ from ⟨rfl, ⟨rfl, ⟨rfl, ⟨rfl, trivial⟩⟩⟩⟩) rfl ?_
            exact hJ158 a19_1 a19_2 a19_3
          · refine V_aload_n (pc := 102) dX6_isTrue_102 rfl rfl ?_
            refine V_getr (pc := 103) (t := (h0 + 6)) fk_X6_31 rfl dX6_isTrue_103 k_h0 (rf_6_7 _) ?_
            refine V_iload_n (pc := 106) dX6_isTrue_106 rfl rfl ?_
            refine V_iconst (pc := 107) dX6_isTrue_107 ic_1 ?_
            refine V_isub (pc := 108) dX6_isTrue_108 ?_
            refine V_iconst (pc := 109) dX6_isTrue_109 ic_1 ?_
            refine V_aload_n (pc := 110) dX6_isTrue_110 rfl rfl ?_
            refine V_getr (pc := 111) (t := (h0 + 6)) fk_X6_31 rfl dX6_isTrue_111 k_h0 (rf_6_7 _) ?_
            refine V_iload_n (pc := 114) dX6_isTrue_114 rfl rfl ?_
            refine V_iconst (pc := 115) dX6_isTrue_115 ic_1 ?_
            refine V_isub (pc := 116) dX6_isTrue_116 ?_
            refine V_iald (pc := 117) (n := 32) dX6_isTrue_117 (lA6 k_h0).1 (lA6 k_h0).2 ?_
            refine V_isub (pc := 118) dX6_isTrue_118 ?_
            refine V_iast (pc := 119) (n := 32) dX6_isTrue_119 (lA6 k_h0).1 (lA6 k_h0).2 (fun s119 => ?_)
            refine V_goto (pc := 120) (tgt := 158) dX6_isTrue_120 (by decide +kernel) ?_
            refine V_sub (vs' := [some (.ref (wB w + h0)), some (.int p1), some (.int a19_1), some (.int a19_2), none]) (show vless _ _ from ⟨rfl, ⟨rfl, ⟨rfl, ⟨rfl, trivial⟩⟩⟩⟩) rfl ?_
            exact hJ158 a19_1 a19_2 s119
      · refine V_iload_n (pc := 45) dX6_isTrue_45 rfl rfl ?_
        refine V_aload_n (pc := 46) dX6_isTrue_46 rfl rfl ?_
        refine V_getr (pc := 47) (t := (h0 + 6)) fk_X6_31 rfl dX6_isTrue_47 k_h0 (rf_6_7 _) ?_
        refine V_alen (pc := 50) (v := (32 : Int32)) dX6_isTrue_50 (lA6 k_h0).1 (by rw [(lA6 k_h0).2]; exact aln_32) ?_
        refine V_icmp_ge (pc := 51) (tgt := 158) dX6_isTrue_51 (by decide +kernel) ?_ ?_
        · refine V_sub (vs' := [some (.ref (wB w + h0)), some (.int p1), some (.int a19_1), some (.int a19_2), none]) (show vless _ _ from ⟨rfl, ⟨rfl, ⟨rfl, ⟨rfl, trivial⟩⟩⟩⟩) rfl ?_
          exact hJ158 a19_1 a19_2 a19_3
        · refine V_aload_n (pc := 54) dX6_isTrue_54 rfl rfl ?_
          refine V_getr (pc := 55) (t := (h0 + 6)) fk_X6_31 rfl dX6_isTrue_55 k_h0 (rf_6_7 _) ?_
          refine V_iload_n (pc := 58) dX6_isTrue_58 rfl rfl ?_
          refine V_iload (pc := 59) dX6_isTrue_59 rfl ?_
          refine V_sipush (pc := 61) dX6_isTrue_61 sp_1000 ?_
          refine V_icmp_ge (pc := 64) (tgt := 72) dX6_isTrue_64 (by decide +kernel) ?_ ?_
          · refine V_aload_n (pc := 72) dX6_isTrue_72 rfl rfl ?_
            refine V_getr (pc := 73) (t := (h0 + 5)) fk_X6_28 rfl dX6_isTrue_73 k_h0 (rf_6_6 _) ?_
            refine V_iload (pc := 76) dX6_isTrue_76 rfl ?_
            refine V_sipush (pc := 78) dX6_isTrue_78 sp_1000 ?_
            refine V_isub (pc := 81) dX6_isTrue_81 ?_
            refine V_iald (pc := 82) (n := 8) dX6_isTrue_82 (lA5 k_h0).1 (lA5 k_h0).2 ?_
            refine V_sub (vs' := [some (.ref (wB w + h0)), some (.int p1), some (.int a19_1), some (.int a19_2), none]) (show vless _ _ from ⟨rfl, ⟨rfl, ⟨rfl, ⟨rfl, trivial⟩⟩⟩⟩) rfl ?_
            exact hJ83 a19_1 a19_2 (a19_3 (h0 + 5) (ix ((a19_3 (h0 + 4) (ix a19_2)) - (1000 : Int32)))) a19_1 a19_3
          · refine V_iload (pc := 67) dX6_isTrue_67 rfl ?_
            refine V_goto (pc := 69) (tgt := 83) dX6_isTrue_69 (by decide +kernel) ?_
            refine V_sub (vs' := [some (.ref (wB w + h0)), some (.int p1), some (.int a19_1), some (.int a19_2), none]) (show vless _ _ from ⟨rfl, ⟨rfl, ⟨rfl, ⟨rfl, trivial⟩⟩⟩⟩) rfl ?_
            exact hJ83 a19_1 a19_2 (a19_3 (h0 + 4) (ix a19_2)) a19_1 a19_3
  have hJ18 : ∀ (v2 : Int32) (t0 : Int32) (σ : MS), VV m_X6_isTrue w g 0 0 (QM m_X6_isTrue w g x) (fun b : Int32 × MS => b = x) 18 [some (.ref (wB w + h0)), some (.int p1), some (.int v2), none, none] [.int t0] σ (J_X6_isTrue_18 n h0 p1 v2 t0 σ) := by
    intro v2 t0 σ
    refine V_istore_n (pc := 18) (vs' := [some (.ref (wB w + h0)), some (.int p1), some (.int v2), some (.int t0), none]) dX6_isTrue_18 rfl (Nat.le_of_ble_eq_true rfl) (Nat.le_of_ble_eq_true rfl) rfl ?_
    exact hL19 n (v2, t0, σ)
  refine V_iconst (pc := 0) dX6_isTrue_0 ic_0 ?_
  refine V_istore_n (pc := 1) (vs' := [some (.ref (wB w + h0)), some (.int p1), some (.int (0 : Int32)), none, none]) dX6_isTrue_1 rfl (Nat.le_of_ble_eq_true rfl) (Nat.le_of_ble_eq_true rfl) rfl ?_
  refine V_iload_n (pc := 2) dX6_isTrue_2 rfl rfl ?_
  refine V_if_ne (pc := 3) (tgt := 10) dX6_isTrue_3 (by decide +kernel) ?_ ?_
  · refine V_aload_n (pc := 10) dX6_isTrue_10 rfl rfl ?_
    refine V_getr (pc := 11) (t := (h0 + 3)) fk_X6_22 rfl dX6_isTrue_11 k_h0 (rf_6_4 _) ?_
    refine V_iload_n (pc := 14) dX6_isTrue_14 rfl rfl ?_
    refine V_iconst (pc := 15) dX6_isTrue_15 ic_1 ?_
    refine V_isub (pc := 16) dX6_isTrue_16 ?_
    refine V_iald (pc := 17) (n := 12) dX6_isTrue_17 (lA3 k_h0).1 (lA3 k_h0).2 ?_
    exact hJ18 (0 : Int32) (σ (h0 + 3) (ix (p1 - (1 : Int32)))) σ
  · refine V_iconst (pc := 6) dX6_isTrue_6 ic_0 ?_
    refine V_goto (pc := 7) (tgt := 18) dX6_isTrue_7 (by decide +kernel) ?_
    exact hJ18 (0 : Int32) (0 : Int32) σ
def J_X6_sum_39 (n : Nat) (h0 : Nat) (v1 : Int32) (v2 : Int32) (v3 : Int32) (σ : MS) : Option ((Int32 × Int32 × MS) ⊕ (Int32 × MS)) := some (.inl (v2, (v3 + (1 : Int32)), σ))
def L_X6_sum_4 (n : Nat) (h0 : Nat) (v1 : Int32) (σ : MS) (a4 : Int32 × Int32 × MS) : Option ((Int32 × Int32 × MS) ⊕ (Int32 × MS)) := (if (a4.2.2 h0 0) ≤ a4.2.1 then (some (a4.1, a4.2.2)).map Sum.inr else (if inb a4.2.1 12 then (if (a4.2.2 (h0 + 1) (ix a4.2.1)) = v1 then ((f_X6_isTrue n h0 a4.2.1 a4.2.2).bind (fun q24 => (if q24.1 = 0 then J_X6_sum_39 n h0 v1 a4.1 a4.2.1 q24.2 else (if inb a4.2.1 12 then J_X6_sum_39 n h0 v1 (a4.1 + (q24.2 (h0 + 2) (ix a4.2.1))) a4.2.1 q24.2 else none)))) else J_X6_sum_39 n h0 v1 a4.1 a4.2.1 a4.2.2) else none))
def f_X6_sum (n : Nat) (h0 : Nat) (p1 : Int32) (σ : MS) : Option (Int32 × MS) := itr (L_X6_sum_4 n h0 p1 σ) n ((0 : Int32), (0 : Int32), σ)
set_option maxRecDepth 20000 in
set_option maxHeartbeats 2000000 in
theorem c_X6_sum (w : TG) (n : Nat) (h0 : Nat) (p1 : Int32) (k_h0 : kd h0 = 6) (σ : MS) : MC m_X6_sum w [.ref (wB w + h0), .int p1] σ (f_X6_sum n h0 p1 σ) := by
  refine V_meth (by decide +kernel) (Nat.le_of_ble_eq_true rfl) (by intro v hv; simp only [List.mem_cons, List.not_mem_nil, or_false] at hv; rcases hv with rfl | rfl <;> rfl) (fun g x => ?_)
  show VV m_X6_sum w g 0 0 (QM m_X6_sum w g x) (fun b : Int32 × MS => b = x) 0 [some (.ref (wB w + h0)), some (.int p1), none, none] [] σ (f_X6_sum n h0 p1 σ)
  have hL4 : ∀  (n0 : Nat) (a : Int32 × Int32 × MS), VV m_X6_sum w g 0 0 (QM m_X6_sum w g x) (fun b : Int32 × MS => b = x) 4 [some (.ref (wB w + h0)), some (.int p1), some (.int a.1), some (.int a.2.1)] [] a.2.2 (itr (L_X6_sum_4 n h0 p1 σ) n0 a) := by
    refine V_itr (vf := fun a : Int32 × Int32 × MS => [some (.ref (wB w + h0)), some (.int p1), some (.int a.1), some (.int a.2.1)]) (sf := fun a : Int32 × Int32 × MS => a.2.2) (fun κ4 b4 r4 a4 => ?_)
    obtain ⟨a4_1, a4_2, a4_3⟩ := a4
    show VV m_X6_sum w g 0 0 (QM m_X6_sum w g x) κ4 4 [some (.ref (wB w + h0)), some (.int p1), some (.int a4_1), some (.int a4_2)] [] a4_3 (L_X6_sum_4 n h0 p1 σ (a4_1, a4_2, a4_3))
    have hJ39 : ∀ (v2 : Int32) (v3 : Int32) (σ : MS), VV m_X6_sum w g 0 0 (QM m_X6_sum w g x) κ4 39 [some (.ref (wB w + h0)), some (.int p1), some (.int v2), some (.int v3)] [] σ (J_X6_sum_39 n h0 p1 v2 v3 σ) := by
      intro v2 v3 σ
      refine V_iincC (pc := 39) (vs' := [some (.ref (wB w + h0)), some (.int p1), some (.int v2), some (.int (v3 + (1 : Int32)))]) dX6_sum_39 (Nat.le_of_ble_eq_true rfl) rfl ic_1 rfl ?_
      refine V_goto (pc := 42) (tgt := 4) dX6_sum_42 (by decide +kernel) ?_
      exact V_back (b4 (v2, (v3 + (1 : Int32)), σ))
    refine V_iload_n (pc := 4) dX6_sum_4 rfl rfl ?_
    refine V_aload_n (pc := 5) dX6_sum_5 rfl rfl ?_
    refine V_geti (pc := 6) fk_X6_9 rfl dX6_sum_6 k_h0 (rf_6_0 _) ?_
    refine V_icmp_ge (pc := 9) (tgt := 45) dX6_sum_9 (by decide +kernel) ?_ ?_
    · refine V_exit r4 ?_
      refine V_iload_n (pc := 45) dX6_sum_45 rfl rfl ?_
      exact V_ireti (pc := 46) dX6_sum_46 rfl (hk := fun h => h)
    · refine V_aload_n (pc := 12) dX6_sum_12 rfl rfl ?_
      refine V_getr (pc := 13) (t := (h0 + 1)) fk_X6_15 rfl dX6_sum_13 k_h0 (rf_6_2 _) ?_
      refine V_iload_n (pc := 16) dX6_sum_16 rfl rfl ?_
      refine V_iald (pc := 17) (n := 12) dX6_sum_17 (lA1 k_h0).1 (lA1 k_h0).2 ?_
      refine V_iload_n (pc := 18) dX6_sum_18 rfl rfl ?_
      refine V_icmp_ne (pc := 19) (tgt := 39) dX6_sum_19 (by decide +kernel) ?_ ?_
      · exact hJ39 a4_1 a4_2 a4_3
      · refine V_aload_n (pc := 22) dX6_sum_22 rfl rfl ?_
        refine V_iload_n (pc := 23) dX6_sum_23 rfl rfl ?_
        refine V_callVi (pc := 24) (As := [.int a4_2]) (rest := []) (c_X6_isTrue w n h0 a4_2 k_h0 a4_3) cw_X6_78 rfl rfl dX6_sum_24 k_h0 ci_6 ⟨Nat.le_of_ble_eq_true rfl, Nat.le_of_ble_eq_true rfl⟩ rfl rfl (Nat.le_of_ble_eq_true rfl) (Nat.le_of_ble_eq_true rfl) (Nat.le_of_ble_eq_true rfl) rfl (fun q24 => ?_)
        refine V_if_eq (pc := 27) (tgt := 39) dX6_sum_27 (by decide +kernel) ?_ ?_
        · exact hJ39 a4_1 a4_2 q24.2
        · refine V_iload_n (pc := 30) dX6_sum_30 rfl rfl ?_
          refine V_aload_n (pc := 31) dX6_sum_31 rfl rfl ?_
          refine V_getr (pc := 32) (t := (h0 + 2)) fk_X6_19 rfl dX6_sum_32 k_h0 (rf_6_3 _) ?_
          refine V_iload_n (pc := 35) dX6_sum_35 rfl rfl ?_
          refine V_iald (pc := 36) (n := 12) dX6_sum_36 (lA2 k_h0).1 (lA2 k_h0).2 ?_
          refine V_iadd (pc := 37) dX6_sum_37 ?_
          refine V_istore_n (pc := 38) (vs' := [some (.ref (wB w + h0)), some (.int p1), some (.int (a4_1 + (q24.2 (h0 + 2) (ix a4_2)))), some (.int a4_2)]) dX6_sum_38 rfl (Nat.le_of_ble_eq_true rfl) (Nat.le_of_ble_eq_true rfl) rfl ?_
          exact hJ39 (a4_1 + (q24.2 (h0 + 2) (ix a4_2))) a4_2 q24.2
  refine V_iconst (pc := 0) dX6_sum_0 ic_0 ?_
  refine V_istore_n (pc := 1) (vs' := [some (.ref (wB w + h0)), some (.int p1), some (.int (0 : Int32)), none]) dX6_sum_1 rfl (Nat.le_of_ble_eq_true rfl) (Nat.le_of_ble_eq_true rfl) rfl ?_
  refine V_iconst (pc := 2) dX6_sum_2 ic_0 ?_
  refine V_istore_n (pc := 3) (vs' := [some (.ref (wB w + h0)), some (.int p1), some (.int (0 : Int32)), some (.int (0 : Int32))]) dX6_sum_3 rfl (Nat.le_of_ble_eq_true rfl) (Nat.le_of_ble_eq_true rfl) rfl ?_
  exact hL4 n ((0 : Int32), (0 : Int32), σ)
def f_X6_bindsBy (n : Nat) (h0 : Nat) (h1 : Nat) (p2 : Int32) (p3 : Int32) (p4 : Int32) (p5 : Int32) (σ : MS) : Option (Int32 × MS) := ((f_X6_consider h0 h1 p2 p3 p4 p5 σ).bind (fun q8 => ((f_X6_sum n h0 (0 : Int32) q8.2).bind (fun q19 => some ((mnI (9 : Int32) ((q8.2 h1 3) + q19.1)), q19.2)))))
set_option maxRecDepth 20000 in
set_option maxHeartbeats 2000000 in
theorem c_X6_bindsBy (w : TG) (n : Nat) (h0 : Nat) (h1 : Nat) (p2 : Int32) (p3 : Int32) (p4 : Int32) (p5 : Int32) (k_h0 : kd h0 = 6) (k_h1 : kd h1 = 4) (σ : MS) : MC m_X6_bindsBy w [.ref (wB w + h0), .ref (wB w + h1), .int p2, .int p3, .int p4, .int p5] σ (f_X6_bindsBy n h0 h1 p2 p3 p4 p5 σ) := by
  refine V_meth (by decide +kernel) (Nat.le_of_ble_eq_true rfl) (by intro v hv; simp only [List.mem_cons, List.not_mem_nil, or_false] at hv; rcases hv with rfl | rfl | rfl | rfl | rfl | rfl <;> rfl) (fun g x => ?_)
  show VV m_X6_bindsBy w g 0 0 (QM m_X6_bindsBy w g x) (fun b : Int32 × MS => b = x) 0 [some (.ref (wB w + h0)), some (.ref (wB w + h1)), some (.int p2), some (.int p3), some (.int p4), some (.int p5)] [] σ (f_X6_bindsBy n h0 h1 p2 p3 p4 p5 σ)
  refine V_aload_n (pc := 0) dX6_bindsBy_0 rfl rfl ?_
  refine V_aload_n (pc := 1) dX6_bindsBy_1 rfl rfl ?_
  refine V_iload_n (pc := 2) dX6_bindsBy_2 rfl rfl ?_
  refine V_iload_n (pc := 3) dX6_bindsBy_3 rfl rfl ?_
  refine V_iload (pc := 4) dX6_bindsBy_4 rfl ?_
  refine V_iload (pc := 6) dX6_bindsBy_6 rfl ?_
  refine V_callVv (pc := 8) (As := [.ref (wB w + h1), .int p2, .int p3, .int p4, .int p5]) (rest := []) (c_X6_consider w h0 h1 p2 p3 p4 p5 k_h0 k_h1 σ) cw_X6_43 rfl rfl dX6_bindsBy_8 k_h0 ci_6 ⟨Nat.le_of_ble_eq_true rfl, Nat.le_of_ble_eq_true rfl⟩ rfl rfl (Nat.le_of_ble_eq_true rfl) (Nat.le_of_ble_eq_true rfl) (Nat.le_of_ble_eq_true rfl) rfl (fun q8 => ?_)
  refine V_bipush (pc := 11) dX6_bindsBy_11 bp_9 ?_
  refine V_aload_n (pc := 13) dX6_bindsBy_13 rfl rfl ?_
  refine V_geti (pc := 14) fk_X6_47 rfl dX6_bindsBy_14 k_h1 (rf_4_3 _) ?_
  refine V_aload_n (pc := 17) dX6_bindsBy_17 rfl rfl ?_
  refine V_iconst (pc := 18) dX6_bindsBy_18 ic_0 ?_
  refine V_callVi (pc := 19) (As := [.int (0 : Int32)]) (rest := [.int (q8.2 h1 3), .int (9 : Int32)]) (c_X6_sum w n h0 (0 : Int32) k_h0 q8.2) cw_X6_52 rfl rfl dX6_bindsBy_19 k_h0 ci_6 ⟨Nat.le_of_ble_eq_true rfl, Nat.le_of_ble_eq_true rfl⟩ rfl rfl (Nat.le_of_ble_eq_true rfl) (Nat.le_of_ble_eq_true rfl) (Nat.le_of_ble_eq_true rfl) rfl (fun q19 => ?_)
  refine V_iadd (pc := 22) dX6_bindsBy_22 ?_
  refine V_mmin (pc := 23) dX6_bindsBy_23 rfl mw_X6_56 (Nat.le_of_ble_eq_true rfl) (Nat.le_of_ble_eq_true rfl) (Nat.le_of_ble_eq_true rfl) (Nat.le_of_ble_eq_true rfl) ?_
  exact V_ireti (pc := 26) dX6_bindsBy_26 rfl (hk := fun h => h)
def f_X6_lastsFor (n : Nat) (h0 : Nat) (h1 : Nat) (p2 : Int32) (p3 : Int32) (p4 : Int32) (p5 : Int32) (σ : MS) : Option (Int32 × MS) := ((f_X6_consider h0 h1 p2 p3 p4 p5 σ).bind (fun q8 => ((f_X6_sum n h0 (1 : Int32) q8.2).bind (fun q17 => some (((q8.2 h1 4) + q17.1), q17.2)))))
set_option maxRecDepth 20000 in
set_option maxHeartbeats 2000000 in
theorem c_X6_lastsFor (w : TG) (n : Nat) (h0 : Nat) (h1 : Nat) (p2 : Int32) (p3 : Int32) (p4 : Int32) (p5 : Int32) (k_h0 : kd h0 = 6) (k_h1 : kd h1 = 4) (σ : MS) : MC m_X6_lastsFor w [.ref (wB w + h0), .ref (wB w + h1), .int p2, .int p3, .int p4, .int p5] σ (f_X6_lastsFor n h0 h1 p2 p3 p4 p5 σ) := by
  refine V_meth (by decide +kernel) (Nat.le_of_ble_eq_true rfl) (by intro v hv; simp only [List.mem_cons, List.not_mem_nil, or_false] at hv; rcases hv with rfl | rfl | rfl | rfl | rfl | rfl <;> rfl) (fun g x => ?_)
  show VV m_X6_lastsFor w g 0 0 (QM m_X6_lastsFor w g x) (fun b : Int32 × MS => b = x) 0 [some (.ref (wB w + h0)), some (.ref (wB w + h1)), some (.int p2), some (.int p3), some (.int p4), some (.int p5)] [] σ (f_X6_lastsFor n h0 h1 p2 p3 p4 p5 σ)
  refine V_aload_n (pc := 0) dX6_lastsFor_0 rfl rfl ?_
  refine V_aload_n (pc := 1) dX6_lastsFor_1 rfl rfl ?_
  refine V_iload_n (pc := 2) dX6_lastsFor_2 rfl rfl ?_
  refine V_iload_n (pc := 3) dX6_lastsFor_3 rfl rfl ?_
  refine V_iload (pc := 4) dX6_lastsFor_4 rfl ?_
  refine V_iload (pc := 6) dX6_lastsFor_6 rfl ?_
  refine V_callVv (pc := 8) (As := [.ref (wB w + h1), .int p2, .int p3, .int p4, .int p5]) (rest := []) (c_X6_consider w h0 h1 p2 p3 p4 p5 k_h0 k_h1 σ) cw_X6_43 rfl rfl dX6_lastsFor_8 k_h0 ci_6 ⟨Nat.le_of_ble_eq_true rfl, Nat.le_of_ble_eq_true rfl⟩ rfl rfl (Nat.le_of_ble_eq_true rfl) (Nat.le_of_ble_eq_true rfl) (Nat.le_of_ble_eq_true rfl) rfl (fun q8 => ?_)
  refine V_aload_n (pc := 11) dX6_lastsFor_11 rfl rfl ?_
  refine V_geti (pc := 12) fk_X6_62 rfl dX6_lastsFor_12 k_h1 (rf_4_4 _) ?_
  refine V_aload_n (pc := 15) dX6_lastsFor_15 rfl rfl ?_
  refine V_iconst (pc := 16) dX6_lastsFor_16 ic_1 ?_
  refine V_callVi (pc := 17) (As := [.int (1 : Int32)]) (rest := [.int (q8.2 h1 4)]) (c_X6_sum w n h0 (1 : Int32) k_h0 q8.2) cw_X6_52 rfl rfl dX6_lastsFor_17 k_h0 ci_6 ⟨Nat.le_of_ble_eq_true rfl, Nat.le_of_ble_eq_true rfl⟩ rfl rfl (Nat.le_of_ble_eq_true rfl) (Nat.le_of_ble_eq_true rfl) (Nat.le_of_ble_eq_true rfl) rfl (fun q17 => ?_)
  refine V_iadd (pc := 20) dX6_lastsFor_20 ?_
  exact V_ireti (pc := 21) dX6_lastsFor_21 rfl (hk := fun h => h)
def f_X6_suspectsBy (n : Nat) (h0 : Nat) (h1 : Nat) (p2 : Int32) (p3 : Int32) (σ : MS) : Option (Int32 × MS) := (if (σ h0 0) = (-1 : Int32) then some ((5 : Int32), σ) else ((f_X6_consider h0 h1 p2 p3 (0 : Int32) (0 : Int32) σ).bind (fun q16 => ((f_X6_sum n h0 (2 : Int32) q16.2).bind (fun q21 => some (q21.1, q21.2))))))
set_option maxRecDepth 20000 in
set_option maxHeartbeats 2000000 in
theorem c_X6_suspectsBy (w : TG) (n : Nat) (h0 : Nat) (h1 : Nat) (p2 : Int32) (p3 : Int32) (k_h0 : kd h0 = 6) (k_h1 : kd h1 = 4) (σ : MS) : MC m_X6_suspectsBy w [.ref (wB w + h0), .ref (wB w + h1), .int p2, .int p3] σ (f_X6_suspectsBy n h0 h1 p2 p3 σ) := by
  refine V_meth (by decide +kernel) (Nat.le_of_ble_eq_true rfl) (by intro v hv; simp only [List.mem_cons, List.not_mem_nil, or_false] at hv; rcases hv with rfl | rfl | rfl | rfl <;> rfl) (fun g x => ?_)
  show VV m_X6_suspectsBy w g 0 0 (QM m_X6_suspectsBy w g x) (fun b : Int32 × MS => b = x) 0 [some (.ref (wB w + h0)), some (.ref (wB w + h1)), some (.int p2), some (.int p3)] [] σ (f_X6_suspectsBy n h0 h1 p2 p3 σ)
  refine V_aload_n (pc := 0) dX6_suspectsBy_0 rfl rfl ?_
  refine V_geti (pc := 1) fk_X6_9 rfl dX6_suspectsBy_1 k_h0 (rf_6_0 _) ?_
  refine V_iconst (pc := 4) dX6_suspectsBy_4 ic_m1 ?_
  refine V_icmp_ne (pc := 5) (tgt := 10) dX6_suspectsBy_5 (by decide +kernel) ?_ ?_
  · refine V_aload_n (pc := 10) dX6_suspectsBy_10 rfl rfl ?_
    refine V_aload_n (pc := 11) dX6_suspectsBy_11 rfl rfl ?_
    refine V_iload_n (pc := 12) dX6_suspectsBy_12 rfl rfl ?_
    refine V_iload_n (pc := 13) dX6_suspectsBy_13 rfl rfl ?_
    refine V_iconst (pc := 14) dX6_suspectsBy_14 ic_0 ?_
    refine V_iconst (pc := 15) dX6_suspectsBy_15 ic_0 ?_
    refine V_callVv (pc := 16) (As := [.ref (wB w + h1), .int p2, .int p3, .int (0 : Int32), .int (0 : Int32)]) (rest := []) (c_X6_consider w h0 h1 p2 p3 (0 : Int32) (0 : Int32) k_h0 k_h1 σ) cw_X6_43 rfl rfl dX6_suspectsBy_16 k_h0 ci_6 ⟨Nat.le_of_ble_eq_true rfl, Nat.le_of_ble_eq_true rfl⟩ rfl rfl (Nat.le_of_ble_eq_true rfl) (Nat.le_of_ble_eq_true rfl) (Nat.le_of_ble_eq_true rfl) rfl (fun q16 => ?_)
    refine V_aload_n (pc := 19) dX6_suspectsBy_19 rfl rfl ?_
    refine V_iconst (pc := 20) dX6_suspectsBy_20 ic_2 ?_
    refine V_callVi (pc := 21) (As := [.int (2 : Int32)]) (rest := []) (c_X6_sum w n h0 (2 : Int32) k_h0 q16.2) cw_X6_52 rfl rfl dX6_suspectsBy_21 k_h0 ci_6 ⟨Nat.le_of_ble_eq_true rfl, Nat.le_of_ble_eq_true rfl⟩ rfl rfl (Nat.le_of_ble_eq_true rfl) (Nat.le_of_ble_eq_true rfl) (Nat.le_of_ble_eq_true rfl) rfl (fun q21 => ?_)
    exact V_ireti (pc := 24) dX6_suspectsBy_24 rfl (hk := fun h => h)
  · refine V_iconst (pc := 8) dX6_suspectsBy_8 ic_5 ?_
    exact V_ireti (pc := 9) dX6_suspectsBy_9 rfl (hk := fun h => h)
def f_X1_force (n : Nat) (p1 : Int32) (p2 : Int32) (p3 : Int32) (p4 : Int32) (σ : MS) : Option (Int32 × MS) := ((f_X6_bindsBy n 30 3 p1 p2 p3 p4 σ).bind (fun q13 => (if p3 = (0 : Int32) then some (q13.1, q13.2) else (if p3 = (1 : Int32) then some ((q13.1 / (2 : Int32)), q13.2) else (if p3 = (2 : Int32) then some ((mnI (9 : Int32) (q13.1 * (2 : Int32))), q13.2) else some ((0 : Int32), q13.2))))))
set_option maxRecDepth 20000 in
set_option maxHeartbeats 2000000 in
theorem c_X1_force (w : TG) (n : Nat) (p1 : Int32) (p2 : Int32) (p3 : Int32) (p4 : Int32) (σ : MS) : MC m_X1_force w [.ref (wB w + 53), .int p1, .int p2, .int p3, .int p4] σ (f_X1_force n p1 p2 p3 p4 σ) := by
  refine V_meth (by decide +kernel) (Nat.le_of_ble_eq_true rfl) (by intro v hv; simp only [List.mem_cons, List.not_mem_nil, or_false] at hv; rcases hv with rfl | rfl | rfl | rfl | rfl <;> rfl) (fun g x => ?_)
  show VV m_X1_force w g 0 0 (QM m_X1_force w g x) (fun b : Int32 × MS => b = x) 0 [some (.ref (wB w + 53)), some (.int p1), some (.int p2), some (.int p3), some (.int p4), none] [] σ (f_X1_force n p1 p2 p3 p4 σ)
  refine V_aload_n (pc := 0) dX1_force_0 rfl rfl ?_
  refine V_getr (pc := 1) (t := 30) fk_X1_19 rfl dX1_force_1 kc_53 rf_1_1_53 ?_
  refine V_aload_n (pc := 4) dX1_force_4 rfl rfl ?_
  refine V_getr (pc := 5) (t := 3) fk_X1_15 rfl dX1_force_5 kc_53 rf_1_0_53 ?_
  refine V_iload_n (pc := 8) dX1_force_8 rfl rfl ?_
  refine V_iload_n (pc := 9) dX1_force_9 rfl rfl ?_
  refine V_iload_n (pc := 10) dX1_force_10 rfl rfl ?_
  refine V_iload (pc := 11) dX1_force_11 rfl ?_
  refine V_callVi (pc := 13) (As := [.ref (wB w + 3), .int p1, .int p2, .int p3, .int p4]) (rest := []) (c_X6_bindsBy w n 30 3 p1 p2 p3 p4 kc_30 kc_3 σ) cw_X1_62 rfl rfl dX1_force_13 kc_30 ci_6 ⟨Nat.le_of_ble_eq_true rfl, Nat.le_of_ble_eq_true rfl⟩ rfl rfl (Nat.le_of_ble_eq_true rfl) (Nat.le_of_ble_eq_true rfl) (Nat.le_of_ble_eq_true rfl) rfl (fun q13 => ?_)
  refine V_istore (pc := 16) (vs' := [some (.ref (wB w + 53)), some (.int p1), some (.int p2), some (.int p3), some (.int p4), some (.int q13.1)]) dX1_force_16 (Nat.le_of_ble_eq_true rfl) (Nat.le_of_ble_eq_true rfl) rfl ?_
  refine V_iload_n (pc := 18) dX1_force_18 rfl rfl ?_
  refine V_ite (c := p3 = (0 : Int32)) (fun hx => ?_) (fun hx0 => ?_)
  · refine V_tabIn (pc := 19) (x := p3) (tgt := 44) dX1_force_19 (by rw [hx]; decide) (by rw [hx]; decide) (by rw [hx]; rfl) (by decide) ?_
    refine V_iload (pc := 44) dX1_force_44 rfl ?_
    exact V_ireti (pc := 46) dX1_force_46 rfl (hk := fun h => h)
  refine V_ite (c := p3 = (1 : Int32)) (fun hx => ?_) (fun hx1 => ?_)
  · refine V_tabIn (pc := 19) (x := p3) (tgt := 47) dX1_force_19 (by rw [hx]; decide) (by rw [hx]; decide) (by rw [hx]; rfl) (by decide) ?_
    refine V_iload (pc := 47) dX1_force_47 rfl ?_
    refine V_iconst (pc := 49) dX1_force_49 ic_2 ?_
    refine V_idiv (pc := 50) dX1_force_50 (by decide +kernel) ?_
    exact V_ireti (pc := 51) dX1_force_51 rfl (hk := fun h => h)
  refine V_ite (c := p3 = (2 : Int32)) (fun hx => ?_) (fun hx2 => ?_)
  · refine V_tabIn (pc := 19) (x := p3) (tgt := 52) dX1_force_19 (by rw [hx]; decide) (by rw [hx]; decide) (by rw [hx]; rfl) (by decide) ?_
    refine V_bipush (pc := 52) dX1_force_52 bp_9 ?_
    refine V_iload (pc := 54) dX1_force_54 rfl ?_
    refine V_iconst (pc := 56) dX1_force_56 ic_2 ?_
    refine V_imul (pc := 57) dX1_force_57 ?_
    refine V_mmin (pc := 58) dX1_force_58 rfl mw_X1_68 (Nat.le_of_ble_eq_true rfl) (Nat.le_of_ble_eq_true rfl) (Nat.le_of_ble_eq_true rfl) (Nat.le_of_ble_eq_true rfl) ?_
    exact V_ireti (pc := 61) dX1_force_61 rfl (hk := fun h => h)
  refine V_tabOut (pc := 19) (tgt := 62) dX1_force_19 (tabout p3 0 2 (by decide) (by decide) (fun k h1 h2 => ?_)) (by decide) ?_
  · rcases (show k = 0 ∨ k = 1 ∨ k = 2 by omega) with rfl | rfl | rfl
    · exact hx0
    · exact hx1
    · exact hx2
  · refine V_iconst (pc := 62) dX1_force_62 ic_0 ?_
    exact V_ireti (pc := 63) dX1_force_63 rfl (hk := fun h => h)
def f_X1_reach (n : Nat) (p1 : Int32) (p2 : Int32) (p3 : Int32) (p4 : Int32) (σ : MS) : Option (Int32 × MS) := ((f_X6_lastsFor n 30 3 p1 p2 p3 p4 σ).bind (fun q23 => some ((mnI (9999 : Int32) ((σ 3 5) + q23.1)), q23.2)))
set_option maxRecDepth 20000 in
set_option maxHeartbeats 2000000 in
theorem c_X1_reach (w : TG) (n : Nat) (p1 : Int32) (p2 : Int32) (p3 : Int32) (p4 : Int32) (σ : MS) : MC m_X1_reach w [.ref (wB w + 53), .int p1, .int p2, .int p3, .int p4] σ (f_X1_reach n p1 p2 p3 p4 σ) := by
  refine V_meth (by decide +kernel) (Nat.le_of_ble_eq_true rfl) (by intro v hv; simp only [List.mem_cons, List.not_mem_nil, or_false] at hv; rcases hv with rfl | rfl | rfl | rfl | rfl <;> rfl) (fun g x => ?_)
  show VV m_X1_reach w g 0 0 (QM m_X1_reach w g x) (fun b : Int32 × MS => b = x) 0 [some (.ref (wB w + 53)), some (.int p1), some (.int p2), some (.int p3), some (.int p4)] [] σ (f_X1_reach n p1 p2 p3 p4 σ)
  refine V_sipush (pc := 0) dX1_reach_0 sp_9999 ?_
  refine V_aload_n (pc := 3) dX1_reach_3 rfl rfl ?_
  refine V_getr (pc := 4) (t := 3) fk_X1_15 rfl dX1_reach_4 kc_53 rf_1_0_53 ?_
  refine V_geti (pc := 7) fk_X1_71 rfl dX1_reach_7 kc_3 rf_4_5_3 ?_
  refine V_aload_n (pc := 10) dX1_reach_10 rfl rfl ?_
  refine V_getr (pc := 11) (t := 30) fk_X1_19 rfl dX1_reach_11 kc_53 rf_1_1_53 ?_
  refine V_aload_n (pc := 14) dX1_reach_14 rfl rfl ?_
  refine V_getr (pc := 15) (t := 3) fk_X1_15 rfl dX1_reach_15 kc_53 rf_1_0_53 ?_
  refine V_iload_n (pc := 18) dX1_reach_18 rfl rfl ?_
  refine V_iload_n (pc := 19) dX1_reach_19 rfl rfl ?_
  refine V_iload_n (pc := 20) dX1_reach_20 rfl rfl ?_
  refine V_iload (pc := 21) dX1_reach_21 rfl ?_
  refine V_callVi (pc := 23) (As := [.ref (wB w + 3), .int p1, .int p2, .int p3, .int p4]) (rest := [.int (σ 3 5), .int (9999 : Int32)]) (c_X6_lastsFor w n 30 3 p1 p2 p3 p4 kc_30 kc_3 σ) cw_X1_74 rfl rfl dX1_reach_23 kc_30 ci_6 ⟨Nat.le_of_ble_eq_true rfl, Nat.le_of_ble_eq_true rfl⟩ rfl rfl (Nat.le_of_ble_eq_true rfl) (Nat.le_of_ble_eq_true rfl) (Nat.le_of_ble_eq_true rfl) rfl (fun q23 => ?_)
  refine V_iadd (pc := 26) dX1_reach_26 ?_
  refine V_mmin (pc := 27) dX1_reach_27 rfl mw_X1_68 (Nat.le_of_ble_eq_true rfl) (Nat.le_of_ble_eq_true rfl) (Nat.le_of_ble_eq_true rfl) (Nat.le_of_ble_eq_true rfl) ?_
  exact V_ireti (pc := 30) dX1_reach_30 rfl (hk := fun h => h)
def J_X1_changes_98 (n : Nat) (t0 : Int32) (σ : MS) : Option (Int32 × MS) := (if t0 = 0 ∨ t0 = 1 then some (t0, σ) else none)
def J_X1_changes_93 (n : Nat)  (σ : MS) : Option (Int32 × MS) := J_X1_changes_98 n (1 : Int32) σ
def J_X1_changes_79 (n : Nat) (v6 : Int32) (v7 : Int32) (v8 : Int32) (v9 : Int32) (σ : MS) : Option (Int32 × MS) := (if v8 < v6 then J_X1_changes_93 n  σ else (if v7 ≤ v9 then J_X1_changes_98 n (0 : Int32) σ else J_X1_changes_93 n  σ))
def f_X1_changes (n : Nat) (p1 : Int32) (p2 : Int32) (p3 : Int32) (p4 : Int32) (p5 : Int32) (σ : MS) : Option (Int32 × MS) := ((f_X1_force n p1 p2 p3 p4 σ).bind (fun q6 => (if q6.1 = 0 then some ((0 : Int32), q6.2) else ((f_X1_reach n p1 p2 p3 p4 q6.2).bind (fun q24 => ((f_X4_held 3 p1 p2 q24.2).bind (fun q35 => ((f_X4_heldTill 3 p1 p2 q24.2).bind (fun q46 => (if p5 = 0 then J_X1_changes_79 n q6.1 q24.1 q35 q46 q24.2 else ((f_X4_tie 3 p1 p2 (mxI q35 q6.1) (mxI q46 q24.1) q24.2).bind (fun q76 => J_X1_changes_79 n q6.1 q24.1 q35 q46 q76.2))))))))))))
set_option maxRecDepth 20000 in
set_option maxHeartbeats 2000000 in
theorem c_X1_changes (w : TG) (n : Nat) (p1 : Int32) (p2 : Int32) (p3 : Int32) (p4 : Int32) (p5 : Int32) (σ : MS) : MC m_X1_changes w [.ref (wB w + 53), .int p1, .int p2, .int p3, .int p4, .int p5] σ (f_X1_changes n p1 p2 p3 p4 p5 σ) := by
  refine V_meth (by decide +kernel) (Nat.le_of_ble_eq_true rfl) (by intro v hv; simp only [List.mem_cons, List.not_mem_nil, or_false] at hv; rcases hv with rfl | rfl | rfl | rfl | rfl | rfl <;> rfl) (fun g x => ?_)
  show VV m_X1_changes w g 0 0 (QM m_X1_changes w g x) (fun b : Int32 × MS => b = x) 0 [some (.ref (wB w + 53)), some (.int p1), some (.int p2), some (.int p3), some (.int p4), some (.int p5), none, none, none, none] [] σ (f_X1_changes n p1 p2 p3 p4 p5 σ)
  have hJ98 : ∀ (t0 : Int32) (σ : MS), VV m_X1_changes w g 0 0 (QM m_X1_changes w g x) (fun b : Int32 × MS => b = x) 98 [none, none, none, none, none, none, none, none, none, none] [.int t0] σ (J_X1_changes_98 n t0 σ) := by
    intro t0 σ
    exact V_iretZ (pc := 98) dX1_changes_98 rfl (hk := fun h => h)
  have hJ93 : ∀ (σ : MS), VV m_X1_changes w g 0 0 (QM m_X1_changes w g x) (fun b : Int32 × MS => b = x) 93 [none, none, none, none, none, none, none, none, none, none] [] σ (J_X1_changes_93 n  σ) := by
    intro σ
    refine V_iconst (pc := 93) dX1_changes_93 ic_1 ?_
    refine V_goto (pc := 94) (tgt := 98) dX1_changes_94 (by decide +kernel) ?_
    exact hJ98 (1 : Int32) σ
  have hJ79 : ∀ (v6 : Int32) (v7 : Int32) (v8 : Int32) (v9 : Int32) (σ : MS), VV m_X1_changes w g 0 0 (QM m_X1_changes w g x) (fun b : Int32 × MS => b = x) 79 [none, none, none, none, none, none, some (.int v6), some (.int v7), some (.int v8), some (.int v9)] [] σ (J_X1_changes_79 n v6 v7 v8 v9 σ) := by
    intro v6 v7 v8 v9 σ
    refine V_iload (pc := 79) dX1_changes_79 rfl ?_
    refine V_iload (pc := 81) dX1_changes_81 rfl ?_
    refine V_icmp_gt (pc := 83) (tgt := 93) dX1_changes_83 (by decide +kernel) ?_ ?_
    · refine V_sub (vs' := [none, none, none, none, none, none, none, none, none, none]) (show vless _ _ from trivial) rfl ?_
      exact hJ93 σ
    · refine V_iload (pc := 86) dX1_changes_86 rfl ?_
      refine V_iload (pc := 88) dX1_changes_88 rfl ?_
      refine V_icmp_le (pc := 90) (tgt := 97) dX1_changes_90 (by decide +kernel) ?_ ?_
      · refine V_iconst (pc := 97) dX1_changes_97 ic_0 ?_
        refine V_sub (vs' := [none, none, none, none, none, none, none, none, none, none]) (show vless _ _ from trivial) rfl ?_
        exact hJ98 (0 : Int32) σ
      · refine V_sub (vs' := [none, none, none, none, none, none, none, none, none, none]) (show vless _ _ from trivial) rfl ?_
        exact hJ93 σ
  refine V_aload_n (pc := 0) dX1_changes_0 rfl rfl ?_
  refine V_iload_n (pc := 1) dX1_changes_1 rfl rfl ?_
  refine V_iload_n (pc := 2) dX1_changes_2 rfl rfl ?_
  refine V_iload_n (pc := 3) dX1_changes_3 rfl rfl ?_
  refine V_iload (pc := 4) dX1_changes_4 rfl ?_
  refine V_callVi (pc := 6) (As := [.int p1, .int p2, .int p3, .int p4]) (rest := []) (c_X1_force w n p1 p2 p3 p4 σ) cw_X1_39 rfl rfl dX1_changes_6 kc_53 ci_1 ⟨Nat.le_of_ble_eq_true rfl, Nat.le_of_ble_eq_true rfl⟩ rfl rfl (Nat.le_of_ble_eq_true rfl) (Nat.le_of_ble_eq_true rfl) (Nat.le_of_ble_eq_true rfl) rfl (fun q6 => ?_)
  refine V_istore (pc := 9) (vs' := [some (.ref (wB w + 53)), some (.int p1), some (.int p2), some (.int p3), some (.int p4), some (.int p5), some (.int q6.1), none, none, none]) dX1_changes_9 (Nat.le_of_ble_eq_true rfl) (Nat.le_of_ble_eq_true rfl) rfl ?_
  refine V_iload (pc := 11) dX1_changes_11 rfl ?_
  refine V_if_ne (pc := 13) (tgt := 18) dX1_changes_13 (by decide +kernel) ?_ ?_
  · refine V_aload_n (pc := 18) dX1_changes_18 rfl rfl ?_
    refine V_iload_n (pc := 19) dX1_changes_19 rfl rfl ?_
    refine V_iload_n (pc := 20) dX1_changes_20 rfl rfl ?_
    refine V_iload_n (pc := 21) dX1_changes_21 rfl rfl ?_
    refine V_iload (pc := 22) dX1_changes_22 rfl ?_
    refine V_callVi (pc := 24) (As := [.int p1, .int p2, .int p3, .int p4]) (rest := []) (c_X1_reach w n p1 p2 p3 p4 q6.2) cw_X1_43 rfl rfl dX1_changes_24 kc_53 ci_1 ⟨Nat.le_of_ble_eq_true rfl, Nat.le_of_ble_eq_true rfl⟩ rfl rfl (Nat.le_of_ble_eq_true rfl) (Nat.le_of_ble_eq_true rfl) (Nat.le_of_ble_eq_true rfl) rfl (fun q24 => ?_)
    refine V_istore (pc := 27) (vs' := [some (.ref (wB w + 53)), some (.int p1), some (.int p2), some (.int p3), some (.int p4), some (.int p5), some (.int q6.1), some (.int q24.1), none, none]) dX1_changes_27 (Nat.le_of_ble_eq_true rfl) (Nat.le_of_ble_eq_true rfl) rfl ?_
    refine V_aload_n (pc := 29) dX1_changes_29 rfl rfl ?_
    refine V_getr (pc := 30) (t := 3) fk_X1_15 rfl dX1_changes_30 kc_53 rf_1_0_53 ?_
    refine V_iload_n (pc := 33) dX1_changes_33 rfl rfl ?_
    refine V_iload_n (pc := 34) dX1_changes_34 rfl rfl ?_
    refine V_callVpi (pc := 35) (As := [.int p1, .int p2]) (rest := []) (c_X4_held w 3 p1 p2 kc_3 q24.2) cw_X1_46 rfl rfl dX1_changes_35 kc_3 ci_4 ⟨Nat.le_of_ble_eq_true rfl, Nat.le_of_ble_eq_true rfl⟩ rfl rfl (Nat.le_of_ble_eq_true rfl) (Nat.le_of_ble_eq_true rfl) (Nat.le_of_ble_eq_true rfl) rfl (fun q35 => ?_)
    refine V_istore (pc := 38) (vs' := [some (.ref (wB w + 53)), some (.int p1), some (.int p2), some (.int p3), some (.int p4), some (.int p5), some (.int q6.1), some (.int q24.1), some (.int q35), none]) dX1_changes_38 (Nat.le_of_ble_eq_true rfl) (Nat.le_of_ble_eq_true rfl) rfl ?_
    refine V_aload_n (pc := 40) dX1_changes_40 rfl rfl ?_
    refine V_getr (pc := 41) (t := 3) fk_X1_15 rfl dX1_changes_41 kc_53 rf_1_0_53 ?_
    refine V_iload_n (pc := 44) dX1_changes_44 rfl rfl ?_
    refine V_iload_n (pc := 45) dX1_changes_45 rfl rfl ?_
    refine V_callVpi (pc := 46) (As := [.int p1, .int p2]) (rest := []) (c_X4_heldTill w 3 p1 p2 kc_3 q24.2) cw_X1_50 rfl rfl dX1_changes_46 kc_3 ci_4 ⟨Nat.le_of_ble_eq_true rfl, Nat.le_of_ble_eq_true rfl⟩ rfl rfl (Nat.le_of_ble_eq_true rfl) (Nat.le_of_ble_eq_true rfl) (Nat.le_of_ble_eq_true rfl) rfl (fun q46 => ?_)
    refine V_istore (pc := 49) (vs' := [some (.ref (wB w + 53)), some (.int p1), some (.int p2), some (.int p3), some (.int p4), some (.int p5), some (.int q6.1), some (.int q24.1), some (.int q35), some (.int q46)]) dX1_changes_49 (Nat.le_of_ble_eq_true rfl) (Nat.le_of_ble_eq_true rfl) rfl ?_
    refine V_iload (pc := 51) dX1_changes_51 rfl ?_
    refine V_if_eq (pc := 53) (tgt := 79) dX1_changes_53 (by decide +kernel) ?_ ?_
    · refine V_sub (vs' := [none, none, none, none, none, none, some (.int q6.1), some (.int q24.1), some (.int q35), some (.int q46)]) (show vless _ _ from ⟨rfl, ⟨rfl, ⟨rfl, ⟨rfl, trivial⟩⟩⟩⟩) rfl ?_
      exact hJ79 q6.1 q24.1 q35 q46 q24.2
    · refine V_aload_n (pc := 56) dX1_changes_56 rfl rfl ?_
      refine V_getr (pc := 57) (t := 3) fk_X1_15 rfl dX1_changes_57 kc_53 rf_1_0_53 ?_
      refine V_iload_n (pc := 60) dX1_changes_60 rfl rfl ?_
      refine V_iload_n (pc := 61) dX1_changes_61 rfl rfl ?_
      refine V_iload (pc := 62) dX1_changes_62 rfl ?_
      refine V_iload (pc := 64) dX1_changes_64 rfl ?_
      refine V_mmax (pc := 66) dX1_changes_66 rfl mw_X1_53 (Nat.le_of_ble_eq_true rfl) (Nat.le_of_ble_eq_true rfl) (Nat.le_of_ble_eq_true rfl) (Nat.le_of_ble_eq_true rfl) ?_
      refine V_iload (pc := 69) dX1_changes_69 rfl ?_
      refine V_iload (pc := 71) dX1_changes_71 rfl ?_
      refine V_mmax (pc := 73) dX1_changes_73 rfl mw_X1_53 (Nat.le_of_ble_eq_true rfl) (Nat.le_of_ble_eq_true rfl) (Nat.le_of_ble_eq_true rfl) (Nat.le_of_ble_eq_true rfl) ?_
      refine V_callVv (pc := 76) (As := [.int p1, .int p2, .int (mxI q35 q6.1), .int (mxI q46 q24.1)]) (rest := []) (c_X4_tie w 3 p1 p2 (mxI q35 q6.1) (mxI q46 q24.1) kc_3 q24.2) cw_X1_58 rfl rfl dX1_changes_76 kc_3 ci_4 ⟨Nat.le_of_ble_eq_true rfl, Nat.le_of_ble_eq_true rfl⟩ rfl rfl (Nat.le_of_ble_eq_true rfl) (Nat.le_of_ble_eq_true rfl) (Nat.le_of_ble_eq_true rfl) rfl (fun q76 => ?_)
      refine V_sub (vs' := [none, none, none, none, none, none, some (.int q6.1), some (.int q24.1), some (.int q35), some (.int q46)]) (show vless _ _ from ⟨rfl, ⟨rfl, ⟨rfl, ⟨rfl, trivial⟩⟩⟩⟩) rfl ?_
      exact hJ79 q6.1 q24.1 q35 q46 q76.2
  · refine V_iconst (pc := 16) dX1_changes_16 ic_0 ?_
    exact V_iretz (pc := 17) dX1_changes_17 rfl rfl (hk := fun h => h)
def J_X1_pour_80 (n : Nat) (v1 : Int32) (v2 : Int32) (v3 : Int32) (v4 : Int32) (v6 : Int32) (v5 : Int32) (v7 : Int32) (σ : MS) : Option ((Int32 × Int32 × MS) ⊕ ((Int32 × Int32 × MS) ⊕ (Int32 × MS))) := some (.inl (v5, (v7 + (1 : Int32)), σ))
def L_X1_pour_30 (n : Nat) (v1 : Int32) (v2 : Int32) (v3 : Int32) (v4 : Int32) (v6 : Int32) (σ : MS) (a30 : Int32 × Int32 × MS) : Option ((Int32 × Int32 × MS) ⊕ ((Int32 × Int32 × MS) ⊕ (Int32 × MS))) := (if (a30.2.2 3 0) ≤ a30.2.1 then (some (.inl (a30.1, (v6 + (1 : Int32)), a30.2.2))).map Sum.inr else (if (v1 &&& ((shlI (1 : Int32) v6) ||| (shlI (1 : Int32) a30.2.1))) = ((shlI (1 : Int32) v6) ||| (shlI (1 : Int32) a30.2.1)) then ((f_X1_changes n v6 a30.2.1 v2 v4 v3 a30.2.2).bind (fun q71 => (if q71.1 = 0 then J_X1_pour_80 n v1 v2 v3 v4 v6 a30.1 a30.2.1 q71.2 else J_X1_pour_80 n v1 v2 v3 v4 v6 (a30.1 + (1 : Int32)) a30.2.1 q71.2))) else J_X1_pour_80 n v1 v2 v3 v4 v6 a30.1 a30.2.1 a30.2.2))
def L_X1_pour_12 (n : Nat) (v1 : Int32) (v2 : Int32) (v3 : Int32) (v4 : Int32) (σ : MS) (a12 : Int32 × Int32 × MS) : Option ((Int32 × Int32 × MS) ⊕ (Int32 × MS)) := (if (a12.2.2 3 0) ≤ a12.2.1 then (some (a12.1, a12.2.2)).map Sum.inr else itr (L_X1_pour_30 n v1 v2 v3 v4 a12.2.1 σ) n (a12.1, (a12.2.1 + (1 : Int32)), a12.2.2))
def f_X1_pour (n : Nat) (p1 : Int32) (p2 : Int32) (p3 : Int32) (σ : MS) : Option (Int32 × MS) := ((f_J6_bitCount_0f7a4 p1 σ).bind (fun q1 => itr (L_X1_pour_12 n p1 p2 p3 q1 σ) n ((0 : Int32), (0 : Int32), σ)))
set_option maxRecDepth 20000 in
set_option maxHeartbeats 2000000 in
theorem c_X1_pour (w : TG) (n : Nat) (p1 : Int32) (p2 : Int32) (p3 : Int32) (σ : MS) : MC m_X1_pour w [.ref (wB w + 53), .int p1, .int p2, .int p3] σ (f_X1_pour n p1 p2 p3 σ) := by
  refine V_meth (by decide +kernel) (Nat.le_of_ble_eq_true rfl) (by intro v hv; simp only [List.mem_cons, List.not_mem_nil, or_false] at hv; rcases hv with rfl | rfl | rfl | rfl <;> rfl) (fun g x => ?_)
  show VV m_X1_pour w g 0 0 (QM m_X1_pour w g x) (fun b : Int32 × MS => b = x) 0 [some (.ref (wB w + 53)), some (.int p1), some (.int p2), some (.int p3), none, none, none, none, none] [] σ (f_X1_pour n p1 p2 p3 σ)
  have hL12 : ∀ (v4 : Int32) (n0 : Nat) (a : Int32 × Int32 × MS), VV m_X1_pour w g 0 0 (QM m_X1_pour w g x) (fun b : Int32 × MS => b = x) 12 [some (.ref (wB w + 53)), some (.int p1), some (.int p2), some (.int p3), some (.int v4), some (.int a.1), some (.int a.2.1), none, none] [] a.2.2 (itr (L_X1_pour_12 n p1 p2 p3 v4 σ) n0 a) := by
    intro v4
    refine V_itr (vf := fun a : Int32 × Int32 × MS => [some (.ref (wB w + 53)), some (.int p1), some (.int p2), some (.int p3), some (.int v4), some (.int a.1), some (.int a.2.1), none, none]) (sf := fun a : Int32 × Int32 × MS => a.2.2) (fun κ12 b12 r12 a12 => ?_)
    obtain ⟨a12_1, a12_2, a12_3⟩ := a12
    show VV m_X1_pour w g 0 0 (QM m_X1_pour w g x) κ12 12 [some (.ref (wB w + 53)), some (.int p1), some (.int p2), some (.int p3), some (.int v4), some (.int a12_1), some (.int a12_2), none, none] [] a12_3 (L_X1_pour_12 n p1 p2 p3 v4 σ (a12_1, a12_2, a12_3))
    have hL30 : ∀ (v6 : Int32) (n0 : Nat) (a : Int32 × Int32 × MS), VV m_X1_pour w g 0 0 (QM m_X1_pour w g x) κ12 30 [some (.ref (wB w + 53)), some (.int p1), some (.int p2), some (.int p3), some (.int v4), some (.int a.1), some (.int v6), some (.int a.2.1), none] [] a.2.2 (itr (L_X1_pour_30 n p1 p2 p3 v4 v6 σ) n0 a) := by
      intro v6
      refine V_itr (vf := fun a : Int32 × Int32 × MS => [some (.ref (wB w + 53)), some (.int p1), some (.int p2), some (.int p3), some (.int v4), some (.int a.1), some (.int v6), some (.int a.2.1), none]) (sf := fun a : Int32 × Int32 × MS => a.2.2) (fun κ30 b30 r30 a30 => ?_)
      obtain ⟨a30_1, a30_2, a30_3⟩ := a30
      show VV m_X1_pour w g 0 0 (QM m_X1_pour w g x) κ30 30 [some (.ref (wB w + 53)), some (.int p1), some (.int p2), some (.int p3), some (.int v4), some (.int a30_1), some (.int v6), some (.int a30_2), none] [] a30_3 (L_X1_pour_30 n p1 p2 p3 v4 v6 σ (a30_1, a30_2, a30_3))
      have hJ80 : ∀ (v5 : Int32) (v7 : Int32) (σ : MS), VV m_X1_pour w g 0 0 (QM m_X1_pour w g x) κ30 80 [some (.ref (wB w + 53)), some (.int p1), some (.int p2), some (.int p3), some (.int v4), some (.int v5), some (.int v6), some (.int v7), none] [] σ (J_X1_pour_80 n p1 p2 p3 v4 v6 v5 v7 σ) := by
        intro v5 v7 σ
        refine V_iincC (pc := 80) (vs' := [some (.ref (wB w + 53)), some (.int p1), some (.int p2), some (.int p3), some (.int v4), some (.int v5), some (.int v6), some (.int (v7 + (1 : Int32))), none]) dX1_pour_80 (Nat.le_of_ble_eq_true rfl) rfl ic_1 rfl ?_
        refine V_goto (pc := 83) (tgt := 30) dX1_pour_83 (by decide +kernel) ?_
        exact V_back (b30 (v5, (v7 + (1 : Int32)), σ))
      refine V_iload (pc := 30) dX1_pour_30 rfl ?_
      refine V_aload_n (pc := 32) dX1_pour_32 rfl rfl ?_
      refine V_getr (pc := 33) (t := 3) fk_X1_15 rfl dX1_pour_33 kc_53 rf_1_0_53 ?_
      refine V_geti (pc := 36) fk_X1_29 rfl dX1_pour_36 kc_3 rf_4_0_3 ?_
      refine V_icmp_ge (pc := 39) (tgt := 86) dX1_pour_39 (by decide +kernel) ?_ ?_
      · refine V_exit r30 ?_
        refine V_iincC (pc := 86) (vs' := [some (.ref (wB w + 53)), some (.int p1), some (.int p2), some (.int p3), some (.int v4), some (.int a30_1), some (.int (v6 + (1 : Int32))), some (.int a30_2), none]) dX1_pour_86 (Nat.le_of_ble_eq_true rfl) rfl ic_1 rfl ?_
        refine V_goto (pc := 89) (tgt := 12) dX1_pour_89 (by decide +kernel) ?_
        refine V_sub (vs' := [some (.ref (wB w + 53)), some (.int p1), some (.int p2), some (.int p3), some (.int v4), some (.int a30_1), some (.int (v6 + (1 : Int32))), none, none]) (show vless _ _ from ⟨rfl, ⟨rfl, ⟨rfl, ⟨rfl, ⟨rfl, ⟨rfl, ⟨rfl, trivial⟩⟩⟩⟩⟩⟩⟩) rfl ?_
        exact V_back (b12 (a30_1, (v6 + (1 : Int32)), a30_3))
      · refine V_iconst (pc := 42) dX1_pour_42 ic_1 ?_
        refine V_iload (pc := 43) dX1_pour_43 rfl ?_
        refine V_ishl (pc := 45) dX1_pour_45 ?_
        refine V_iconst (pc := 46) dX1_pour_46 ic_1 ?_
        refine V_iload (pc := 47) dX1_pour_47 rfl ?_
        refine V_ishl (pc := 49) dX1_pour_49 ?_
        refine V_ior (pc := 50) dX1_pour_50 ?_
        refine V_istore (pc := 51) (vs' := [some (.ref (wB w + 53)), some (.int p1), some (.int p2), some (.int p3), some (.int v4), some (.int a30_1), some (.int v6), some (.int a30_2), some (.int ((shlI (1 : Int32) v6) ||| (shlI (1 : Int32) a30_2)))]) dX1_pour_51 (Nat.le_of_ble_eq_true rfl) (Nat.le_of_ble_eq_true rfl) rfl ?_
        refine V_iload_n (pc := 53) dX1_pour_53 rfl rfl ?_
        refine V_iload (pc := 54) dX1_pour_54 rfl ?_
        refine V_iand (pc := 56) dX1_pour_56 ?_
        refine V_iload (pc := 57) dX1_pour_57 rfl ?_
        refine V_icmp_ne (pc := 59) (tgt := 80) dX1_pour_59 (by decide +kernel) ?_ ?_
        · refine V_sub (vs' := [some (.ref (wB w + 53)), some (.int p1), some (.int p2), some (.int p3), some (.int v4), some (.int a30_1), some (.int v6), some (.int a30_2), none]) (show vless _ _ from ⟨rfl, ⟨rfl, ⟨rfl, ⟨rfl, ⟨rfl, ⟨rfl, ⟨rfl, ⟨rfl, trivial⟩⟩⟩⟩⟩⟩⟩⟩) rfl ?_
          exact hJ80 a30_1 a30_2 a30_3
        · refine V_aload_n (pc := 62) dX1_pour_62 rfl rfl ?_
          refine V_iload (pc := 63) dX1_pour_63 rfl ?_
          refine V_iload (pc := 65) dX1_pour_65 rfl ?_
          refine V_iload_n (pc := 67) dX1_pour_67 rfl rfl ?_
          refine V_iload (pc := 68) dX1_pour_68 rfl ?_
          refine V_iload_n (pc := 70) dX1_pour_70 rfl rfl ?_
          refine V_callVi (pc := 71) (As := [.int v6, .int a30_2, .int p2, .int v4, .int p3]) (rest := []) (c_X1_changes w n v6 a30_2 p2 v4 p3 a30_3) cw_X1_35 rfl rfl dX1_pour_71 kc_53 ci_1 ⟨Nat.le_of_ble_eq_true rfl, Nat.le_of_ble_eq_true rfl⟩ rfl rfl (Nat.le_of_ble_eq_true rfl) (Nat.le_of_ble_eq_true rfl) (Nat.le_of_ble_eq_true rfl) rfl (fun q71 => ?_)
          refine V_if_eq (pc := 74) (tgt := 80) dX1_pour_74 (by decide +kernel) ?_ ?_
          · refine V_sub (vs' := [some (.ref (wB w + 53)), some (.int p1), some (.int p2), some (.int p3), some (.int v4), some (.int a30_1), some (.int v6), some (.int a30_2), none]) (show vless _ _ from ⟨rfl, ⟨rfl, ⟨rfl, ⟨rfl, ⟨rfl, ⟨rfl, ⟨rfl, ⟨rfl, trivial⟩⟩⟩⟩⟩⟩⟩⟩) rfl ?_
            exact hJ80 a30_1 a30_2 q71.2
          · refine V_iincC (pc := 77) (vs' := [some (.ref (wB w + 53)), some (.int p1), some (.int p2), some (.int p3), some (.int v4), some (.int (a30_1 + (1 : Int32))), some (.int v6), some (.int a30_2), some (.int ((shlI (1 : Int32) v6) ||| (shlI (1 : Int32) a30_2)))]) dX1_pour_77 (Nat.le_of_ble_eq_true rfl) rfl ic_1 rfl ?_
            refine V_sub (vs' := [some (.ref (wB w + 53)), some (.int p1), some (.int p2), some (.int p3), some (.int v4), some (.int (a30_1 + (1 : Int32))), some (.int v6), some (.int a30_2), none]) (show vless _ _ from ⟨rfl, ⟨rfl, ⟨rfl, ⟨rfl, ⟨rfl, ⟨rfl, ⟨rfl, ⟨rfl, trivial⟩⟩⟩⟩⟩⟩⟩⟩) rfl ?_
            exact hJ80 (a30_1 + (1 : Int32)) a30_2 q71.2
    refine V_iload (pc := 12) dX1_pour_12 rfl ?_
    refine V_aload_n (pc := 14) dX1_pour_14 rfl rfl ?_
    refine V_getr (pc := 15) (t := 3) fk_X1_15 rfl dX1_pour_15 kc_53 rf_1_0_53 ?_
    refine V_geti (pc := 18) fk_X1_29 rfl dX1_pour_18 kc_3 rf_4_0_3 ?_
    refine V_icmp_ge (pc := 21) (tgt := 92) dX1_pour_21 (by decide +kernel) ?_ ?_
    · refine V_exit r12 ?_
      refine V_iload (pc := 92) dX1_pour_92 rfl ?_
      exact V_ireti (pc := 94) dX1_pour_94 rfl (hk := fun h => h)
    · refine V_iload (pc := 24) dX1_pour_24 rfl ?_
      refine V_iconst (pc := 26) dX1_pour_26 ic_1 ?_
      refine V_iadd (pc := 27) dX1_pour_27 ?_
      refine V_istore (pc := 28) (vs' := [some (.ref (wB w + 53)), some (.int p1), some (.int p2), some (.int p3), some (.int v4), some (.int a12_1), some (.int a12_2), some (.int (a12_2 + (1 : Int32))), none]) dX1_pour_28 (Nat.le_of_ble_eq_true rfl) (Nat.le_of_ble_eq_true rfl) rfl ?_
      exact hL30 a12_2 n (a12_1, (a12_2 + (1 : Int32)), a12_3)
  refine V_iload_n (pc := 0) dX1_pour_0 rfl rfl ?_
  refine V_callSpi (pc := 1) (As := [.int p1]) (rest := []) (c_J6_bitCount_0f7a4 w p1 σ) cs_X1_23 rfl rfl dX1_pour_1 ⟨Nat.le_of_ble_eq_true rfl, Nat.le_of_ble_eq_true rfl⟩ rfl rfl (Nat.le_of_ble_eq_true rfl) (Nat.le_of_ble_eq_true rfl) (Nat.le_of_ble_eq_true rfl) rfl (fun q1 => ?_)
  refine V_istore (pc := 4) (vs' := [some (.ref (wB w + 53)), some (.int p1), some (.int p2), some (.int p3), some (.int q1), none, none, none, none]) dX1_pour_4 (Nat.le_of_ble_eq_true rfl) (Nat.le_of_ble_eq_true rfl) rfl ?_
  refine V_iconst (pc := 6) dX1_pour_6 ic_0 ?_
  refine V_istore (pc := 7) (vs' := [some (.ref (wB w + 53)), some (.int p1), some (.int p2), some (.int p3), some (.int q1), some (.int (0 : Int32)), none, none, none]) dX1_pour_7 (Nat.le_of_ble_eq_true rfl) (Nat.le_of_ble_eq_true rfl) rfl ?_
  refine V_iconst (pc := 9) dX1_pour_9 ic_0 ?_
  refine V_istore (pc := 10) (vs' := [some (.ref (wB w + 53)), some (.int p1), some (.int p2), some (.int p3), some (.int q1), some (.int (0 : Int32)), some (.int (0 : Int32)), none, none]) dX1_pour_10 (Nat.le_of_ble_eq_true rfl) (Nat.le_of_ble_eq_true rfl) rfl ?_
  exact hL12 q1 n ((0 : Int32), (0 : Int32), σ)
def J_X0_move_53 (n : Nat) (h0 : Nat) (v1 : Int32) (v2 : Int32) (σ : MS) : Option ((Int32 × MS) ⊕ (Int32 × MS)) := some (.inl ((v2 + (1 : Int32)), σ))
def J_X0_move_41 (n : Nat) (h0 : Nat) (v1 : Int32) (v2 : Int32) (v3 : Int32) (σ : MS) : Option ((Int32 × MS) ⊕ (Int32 × MS)) := (if inb v3 8 then (if inb v2 8 then ltM (mu σ (h0 + 1) (ix v2) (σ (h0 + 1) (ix v3))) (fun s52 => J_X0_move_53 n h0 v1 v2 s52) else none) else none)
def L_X0_move_2 (n : Nat) (h0 : Nat) (v1 : Int32) (σ : MS) (a2 : Int32 × MS) : Option ((Int32 × MS) ⊕ (Int32 × MS)) := (if (a2.2 h0 0) ≤ a2.1 then (some (0, a2.2)).map Sum.inr else ((f_X4_closest n h0 a2.1 a2.2).bind (fun q12 => (if q12 = (-1 : Int32) then J_X0_move_53 n h0 v1 a2.1 a2.2 else (if v1 = 0 then J_X0_move_41 n h0 v1 a2.1 q12 a2.2 else ((f_X4_draw h0 a2.2).bind (fun q26 => ((f_X4_held h0 a2.1 q12 q26.2).bind (fun q35 => (if q35 ≤ (remI q26.1 (10 : Int32)) then J_X0_move_53 n h0 v1 a2.1 q26.2 else J_X0_move_41 n h0 v1 a2.1 q12 q26.2))))))))))
def f_X0_move (n : Nat) (h0 : Nat) (p1 : Int32) (σ : MS) : Option (Int32 × MS) := itr (L_X0_move_2 n h0 p1 σ) n ((0 : Int32), σ)
set_option maxRecDepth 20000 in
set_option maxHeartbeats 2000000 in
theorem c_X0_move (w : TG) (n : Nat) (h0 : Nat) (p1 : Int32) (k_h0 : kd h0 = 4) (σ : MS) : MC m_X0_move w [.ref (wB w + h0), .int p1] σ (f_X0_move n h0 p1 σ) := by
  refine V_meth (by decide +kernel) (Nat.le_of_ble_eq_true rfl) (by intro v hv; simp only [List.mem_cons, List.not_mem_nil, or_false] at hv; rcases hv with rfl | rfl <;> rfl) (fun g x => ?_)
  show VV m_X0_move w g 0 0 (QM m_X0_move w g x) (fun b : Int32 × MS => b = x) 0 [some (.ref (wB w + h0)), some (.int p1), none, none] [] σ (f_X0_move n h0 p1 σ)
  have hL2 : ∀  (n0 : Nat) (a : Int32 × MS), VV m_X0_move w g 0 0 (QM m_X0_move w g x) (fun b : Int32 × MS => b = x) 2 [some (.ref (wB w + h0)), some (.int p1), some (.int a.1), none] [] a.2 (itr (L_X0_move_2 n h0 p1 σ) n0 a) := by
    refine V_itr (vf := fun a : Int32 × MS => [some (.ref (wB w + h0)), some (.int p1), some (.int a.1), none]) (sf := fun a : Int32 × MS => a.2) (fun κ2 b2 r2 a2 => ?_)
    obtain ⟨a2_1, a2_2⟩ := a2
    show VV m_X0_move w g 0 0 (QM m_X0_move w g x) κ2 2 [some (.ref (wB w + h0)), some (.int p1), some (.int a2_1), none] [] a2_2 (L_X0_move_2 n h0 p1 σ (a2_1, a2_2))
    have hJ53 : ∀ (v2 : Int32) (σ : MS), VV m_X0_move w g 0 0 (QM m_X0_move w g x) κ2 53 [some (.ref (wB w + h0)), some (.int p1), some (.int v2), none] [] σ (J_X0_move_53 n h0 p1 v2 σ) := by
      intro v2 σ
      refine V_iincC (pc := 53) (vs' := [some (.ref (wB w + h0)), some (.int p1), some (.int (v2 + (1 : Int32))), none]) dX0_move_53 (Nat.le_of_ble_eq_true rfl) rfl ic_1 rfl ?_
      refine V_goto (pc := 56) (tgt := 2) dX0_move_56 (by decide +kernel) ?_
      exact V_back (b2 ((v2 + (1 : Int32)), σ))
    have hJ41 : ∀ (v2 : Int32) (v3 : Int32) (σ : MS), VV m_X0_move w g 0 0 (QM m_X0_move w g x) κ2 41 [some (.ref (wB w + h0)), some (.int p1), some (.int v2), some (.int v3)] [] σ (J_X0_move_41 n h0 p1 v2 v3 σ) := by
      intro v2 v3 σ
      refine V_aload_n (pc := 41) dX0_move_41 rfl rfl ?_
      refine V_getr (pc := 42) (t := (h0 + 1)) fk_X0_48 rfl dX0_move_42 k_h0 (rf_4_8 _) ?_
      refine V_iload_n (pc := 45) dX0_move_45 rfl rfl ?_
      refine V_aload_n (pc := 46) dX0_move_46 rfl rfl ?_
      refine V_getr (pc := 47) (t := (h0 + 1)) fk_X0_48 rfl dX0_move_47 k_h0 (rf_4_8 _) ?_
      refine V_iload_n (pc := 50) dX0_move_50 rfl rfl ?_
      refine V_iald (pc := 51) (n := 8) dX0_move_51 (hA1 k_h0).1 (hA1 k_h0).2 ?_
      refine V_iast (pc := 52) (n := 8) dX0_move_52 (hA1 k_h0).1 (hA1 k_h0).2 (fun s52 => ?_)
      refine V_sub (vs' := [some (.ref (wB w + h0)), some (.int p1), some (.int v2), none]) (show vless _ _ from ⟨rfl, ⟨rfl, ⟨rfl, trivial⟩⟩⟩) rfl ?_
      exact hJ53 v2 s52
    refine V_iload_n (pc := 2) dX0_move_2 rfl rfl ?_
    refine V_aload_n (pc := 3) dX0_move_3 rfl rfl ?_
    refine V_geti (pc := 4) fk_X0_34 rfl dX0_move_4 k_h0 (rf_4_0 _) ?_
    refine V_icmp_ge (pc := 7) (tgt := 59) dX0_move_7 (by decide +kernel) ?_ ?_
    · refine V_exit r2 ?_
      exact V_ret (pc := 59) dX0_move_59 rfl (hk := fun h => h)
    · refine V_aload_n (pc := 10) dX0_move_10 rfl rfl ?_
      refine V_iload_n (pc := 11) dX0_move_11 rfl rfl ?_
      refine V_callVpi (pc := 12) (As := [.int a2_1]) (rest := []) (c_X4_closest w n h0 a2_1 k_h0 a2_2) cw_X0_37 rfl rfl dX0_move_12 k_h0 ci_4 ⟨Nat.le_of_ble_eq_true rfl, Nat.le_of_ble_eq_true rfl⟩ rfl rfl (Nat.le_of_ble_eq_true rfl) (Nat.le_of_ble_eq_true rfl) (Nat.le_of_ble_eq_true rfl) rfl (fun q12 => ?_)
      refine V_istore_n (pc := 15) (vs' := [some (.ref (wB w + h0)), some (.int p1), some (.int a2_1), some (.int q12)]) dX0_move_15 rfl (Nat.le_of_ble_eq_true rfl) (Nat.le_of_ble_eq_true rfl) rfl ?_
      refine V_iload_n (pc := 16) dX0_move_16 rfl rfl ?_
      refine V_iconst (pc := 17) dX0_move_17 ic_m1 ?_
      refine V_icmp_eq (pc := 18) (tgt := 53) dX0_move_18 (by decide +kernel) ?_ ?_
      · refine V_sub (vs' := [some (.ref (wB w + h0)), some (.int p1), some (.int a2_1), none]) (show vless _ _ from ⟨rfl, ⟨rfl, ⟨rfl, trivial⟩⟩⟩) rfl ?_
        exact hJ53 a2_1 a2_2
      · refine V_iload_n (pc := 21) dX0_move_21 rfl rfl ?_
        refine V_if_eq (pc := 22) (tgt := 41) dX0_move_22 (by decide +kernel) ?_ ?_
        · exact hJ41 a2_1 q12 a2_2
        · refine V_aload_n (pc := 25) dX0_move_25 rfl rfl ?_
          refine V_callVi (pc := 26) (As := []) (rest := []) (c_X4_draw w h0 k_h0 a2_2) cw_X0_41 rfl rfl dX0_move_26 k_h0 ci_4 ⟨Nat.le_of_ble_eq_true rfl, Nat.le_of_ble_eq_true rfl⟩ rfl rfl (Nat.le_of_ble_eq_true rfl) (Nat.le_of_ble_eq_true rfl) (Nat.le_of_ble_eq_true rfl) rfl (fun q26 => ?_)
          refine V_bipush (pc := 29) dX0_move_29 bp_10 ?_
          refine V_irem (pc := 31) dX0_move_31 (by decide +kernel) ?_
          refine V_aload_n (pc := 32) dX0_move_32 rfl rfl ?_
          refine V_iload_n (pc := 33) dX0_move_33 rfl rfl ?_
          refine V_iload_n (pc := 34) dX0_move_34 rfl rfl ?_
          refine V_callVpi (pc := 35) (As := [.int a2_1, .int q12]) (rest := [.int (remI q26.1 (10 : Int32))]) (c_X4_held w h0 a2_1 q12 k_h0 q26.2) cw_X0_45 rfl rfl dX0_move_35 k_h0 ci_4 ⟨Nat.le_of_ble_eq_true rfl, Nat.le_of_ble_eq_true rfl⟩ rfl rfl (Nat.le_of_ble_eq_true rfl) (Nat.le_of_ble_eq_true rfl) (Nat.le_of_ble_eq_true rfl) rfl (fun q35 => ?_)
          refine V_icmp_ge (pc := 38) (tgt := 53) dX0_move_38 (by decide +kernel) ?_ ?_
          · refine V_sub (vs' := [some (.ref (wB w + h0)), some (.int p1), some (.int a2_1), none]) (show vless _ _ from ⟨rfl, ⟨rfl, ⟨rfl, trivial⟩⟩⟩) rfl ?_
            exact hJ53 a2_1 q26.2
          · exact hJ41 a2_1 q12 q26.2
  refine V_iconst (pc := 0) dX0_move_0 ic_0 ?_
  refine V_istore_n (pc := 1) (vs' := [some (.ref (wB w + h0)), some (.int p1), some (.int (0 : Int32)), none]) dX0_move_1 rfl (Nat.le_of_ble_eq_true rfl) (Nat.le_of_ble_eq_true rfl) rfl ?_
  exact hL2 n ((0 : Int32), σ)
def J_X0_meet_102 (n : Nat) (h0 : Nat) (h1 : Nat) (v2 : Int32) (v3 : Int32) (σ : MS) : Option ((Int32 × MS) ⊕ ((Int32 × MS) ⊕ (Int32 × MS))) := some (.inl ((v3 + (1 : Int32)), σ))
def L_X0_meet_14 (n : Nat) (h0 : Nat) (h1 : Nat) (v2 : Int32) (σ : MS) (a14 : Int32 × MS) : Option ((Int32 × MS) ⊕ ((Int32 × MS) ⊕ (Int32 × MS))) := (if (a14.2 h0 0) ≤ a14.1 then (some (.inl ((v2 + (1 : Int32)), a14.2))).map Sum.inr else (if inb v2 8 then (if inb a14.1 8 then (if (a14.2 (h0 + 1) (ix v2)) = (a14.2 (h0 + 1) (ix a14.1)) then (if inb v2 8 then (if inb v2 8 then ltM (mu a14.2 (h0 + 4) (ix v2) ((a14.2 (h0 + 4) (ix v2)) ||| (shlI (1 : Int32) a14.1))) (fun s51 => (if inb a14.1 8 then (if inb a14.1 8 then ltM (mu s51 (h0 + 4) (ix a14.1) ((s51 (h0 + 4) (ix a14.1)) ||| (shlI (1 : Int32) v2))) (fun s63 => (if inb v2 8 then (if ((s63 h0 2) &&& (shlI (1 : Int32) (s63 (h0 + 1) (ix v2)))) = 0 then J_X0_meet_102 n h0 h1 v2 a14.1 s63 else ((f_X4_isSecret h0 v2 a14.1 s63).bind (fun q83 => (if q83 = 0 then J_X0_meet_102 n h0 h1 v2 a14.1 s63 else ((f_X6_suspectsBy n h1 h0 v2 a14.1 s63).bind (fun q96 => ((f_X4_leaveFootprint h0 v2 a14.1 q96.1 q96.2).bind (fun q99 => J_X0_meet_102 n h0 h1 v2 a14.1 q99.2)))))))) else none)) else none) else none)) else none) else none) else J_X0_meet_102 n h0 h1 v2 a14.1 a14.2) else none) else none))
def L_X0_meet_2 (n : Nat) (h0 : Nat) (h1 : Nat) (σ : MS) (a2 : Int32 × MS) : Option ((Int32 × MS) ⊕ (Int32 × MS)) := (if (a2.2 h0 0) ≤ a2.1 then (some (0, a2.2)).map Sum.inr else itr (L_X0_meet_14 n h0 h1 a2.1 σ) n ((a2.1 + (1 : Int32)), a2.2))
def f_X0_meet (n : Nat) (h0 : Nat) (h1 : Nat) (σ : MS) : Option (Int32 × MS) := itr (L_X0_meet_2 n h0 h1 σ) n ((0 : Int32), σ)
set_option maxRecDepth 20000 in
set_option maxHeartbeats 2000000 in
theorem c_X0_meet (w : TG) (n : Nat) (h0 : Nat) (h1 : Nat) (k_h0 : kd h0 = 4) (k_h1 : kd h1 = 6) (σ : MS) : MC m_X0_meet w [.ref (wB w + h0), .ref (wB w + h1)] σ (f_X0_meet n h0 h1 σ) := by
  refine V_meth (by decide +kernel) (Nat.le_of_ble_eq_true rfl) (by intro v hv; simp only [List.mem_cons, List.not_mem_nil, or_false] at hv; rcases hv with rfl | rfl <;> rfl) (fun g x => ?_)
  show VV m_X0_meet w g 0 0 (QM m_X0_meet w g x) (fun b : Int32 × MS => b = x) 0 [some (.ref (wB w + h0)), some (.ref (wB w + h1)), none, none] [] σ (f_X0_meet n h0 h1 σ)
  have hL2 : ∀  (n0 : Nat) (a : Int32 × MS), VV m_X0_meet w g 0 0 (QM m_X0_meet w g x) (fun b : Int32 × MS => b = x) 2 [some (.ref (wB w + h0)), some (.ref (wB w + h1)), some (.int a.1), none] [] a.2 (itr (L_X0_meet_2 n h0 h1 σ) n0 a) := by
    refine V_itr (vf := fun a : Int32 × MS => [some (.ref (wB w + h0)), some (.ref (wB w + h1)), some (.int a.1), none]) (sf := fun a : Int32 × MS => a.2) (fun κ2 b2 r2 a2 => ?_)
    obtain ⟨a2_1, a2_2⟩ := a2
    show VV m_X0_meet w g 0 0 (QM m_X0_meet w g x) κ2 2 [some (.ref (wB w + h0)), some (.ref (wB w + h1)), some (.int a2_1), none] [] a2_2 (L_X0_meet_2 n h0 h1 σ (a2_1, a2_2))
    have hL14 : ∀ (v2 : Int32) (n0 : Nat) (a : Int32 × MS), VV m_X0_meet w g 0 0 (QM m_X0_meet w g x) κ2 14 [some (.ref (wB w + h0)), some (.ref (wB w + h1)), some (.int v2), some (.int a.1)] [] a.2 (itr (L_X0_meet_14 n h0 h1 v2 σ) n0 a) := by
      intro v2
      refine V_itr (vf := fun a : Int32 × MS => [some (.ref (wB w + h0)), some (.ref (wB w + h1)), some (.int v2), some (.int a.1)]) (sf := fun a : Int32 × MS => a.2) (fun κ14 b14 r14 a14 => ?_)
      obtain ⟨a14_1, a14_2⟩ := a14
      show VV m_X0_meet w g 0 0 (QM m_X0_meet w g x) κ14 14 [some (.ref (wB w + h0)), some (.ref (wB w + h1)), some (.int v2), some (.int a14_1)] [] a14_2 (L_X0_meet_14 n h0 h1 v2 σ (a14_1, a14_2))
      have hJ102 : ∀ (v3 : Int32) (σ : MS), VV m_X0_meet w g 0 0 (QM m_X0_meet w g x) κ14 102 [some (.ref (wB w + h0)), some (.ref (wB w + h1)), some (.int v2), some (.int v3)] [] σ (J_X0_meet_102 n h0 h1 v2 v3 σ) := by
        intro v3 σ
        refine V_iincC (pc := 102) (vs' := [some (.ref (wB w + h0)), some (.ref (wB w + h1)), some (.int v2), some (.int (v3 + (1 : Int32)))]) dX0_meet_102 (Nat.le_of_ble_eq_true rfl) rfl ic_1 rfl ?_
        refine V_goto (pc := 105) (tgt := 14) dX0_meet_105 (by decide +kernel) ?_
        exact V_back (b14 ((v3 + (1 : Int32)), σ))
      refine V_iload_n (pc := 14) dX0_meet_14 rfl rfl ?_
      refine V_aload_n (pc := 15) dX0_meet_15 rfl rfl ?_
      refine V_geti (pc := 16) fk_X0_34 rfl dX0_meet_16 k_h0 (rf_4_0 _) ?_
      refine V_icmp_ge (pc := 19) (tgt := 108) dX0_meet_19 (by decide +kernel) ?_ ?_
      · refine V_exit r14 ?_
        refine V_iincC (pc := 108) (vs' := [some (.ref (wB w + h0)), some (.ref (wB w + h1)), some (.int (v2 + (1 : Int32))), some (.int a14_1)]) dX0_meet_108 (Nat.le_of_ble_eq_true rfl) rfl ic_1 rfl ?_
        refine V_goto (pc := 111) (tgt := 2) dX0_meet_111 (by decide +kernel) ?_
        refine V_sub (vs' := [some (.ref (wB w + h0)), some (.ref (wB w + h1)), some (.int (v2 + (1 : Int32))), none]) (show vless _ _ from ⟨rfl, ⟨rfl, ⟨rfl, trivial⟩⟩⟩) rfl ?_
        exact V_back (b2 ((v2 + (1 : Int32)), a14_2))
      · refine V_aload_n (pc := 22) dX0_meet_22 rfl rfl ?_
        refine V_getr (pc := 23) (t := (h0 + 1)) fk_X0_48 rfl dX0_meet_23 k_h0 (rf_4_8 _) ?_
        refine V_iload_n (pc := 26) dX0_meet_26 rfl rfl ?_
        refine V_iald (pc := 27) (n := 8) dX0_meet_27 (hA1 k_h0).1 (hA1 k_h0).2 ?_
        refine V_aload_n (pc := 28) dX0_meet_28 rfl rfl ?_
        refine V_getr (pc := 29) (t := (h0 + 1)) fk_X0_48 rfl dX0_meet_29 k_h0 (rf_4_8 _) ?_
        refine V_iload_n (pc := 32) dX0_meet_32 rfl rfl ?_
        refine V_iald (pc := 33) (n := 8) dX0_meet_33 (hA1 k_h0).1 (hA1 k_h0).2 ?_
        refine V_icmp_eq (pc := 34) (tgt := 40) dX0_meet_34 (by decide +kernel) ?_ ?_
        · refine V_aload_n (pc := 40) dX0_meet_40 rfl rfl ?_
          refine V_getr (pc := 41) (t := (h0 + 4)) fk_X0_52 rfl dX0_meet_41 k_h0 (rf_4_11 _) ?_
          refine V_iload_n (pc := 44) dX0_meet_44 rfl rfl ?_
          refine V_dup2 (pc := 45) dX0_meet_45 rfl rfl ?_
          refine V_iald (pc := 46) (n := 8) dX0_meet_46 (hA4 k_h0).1 (hA4 k_h0).2 ?_
          refine V_iconst (pc := 47) dX0_meet_47 ic_1 ?_
          refine V_iload_n (pc := 48) dX0_meet_48 rfl rfl ?_
          refine V_ishl (pc := 49) dX0_meet_49 ?_
          refine V_ior (pc := 50) dX0_meet_50 ?_
          refine V_iast (pc := 51) (n := 8) dX0_meet_51 (hA4 k_h0).1 (hA4 k_h0).2 (fun s51 => ?_)
          refine V_aload_n (pc := 52) dX0_meet_52 rfl rfl ?_
          refine V_getr (pc := 53) (t := (h0 + 4)) fk_X0_52 rfl dX0_meet_53 k_h0 (rf_4_11 _) ?_
          refine V_iload_n (pc := 56) dX0_meet_56 rfl rfl ?_
          refine V_dup2 (pc := 57) dX0_meet_57 rfl rfl ?_
          refine V_iald (pc := 58) (n := 8) dX0_meet_58 (hA4 k_h0).1 (hA4 k_h0).2 ?_
          refine V_iconst (pc := 59) dX0_meet_59 ic_1 ?_
          refine V_iload_n (pc := 60) dX0_meet_60 rfl rfl ?_
          refine V_ishl (pc := 61) dX0_meet_61 ?_
          refine V_ior (pc := 62) dX0_meet_62 ?_
          refine V_iast (pc := 63) (n := 8) dX0_meet_63 (hA4 k_h0).1 (hA4 k_h0).2 (fun s63 => ?_)
          refine V_aload_n (pc := 64) dX0_meet_64 rfl rfl ?_
          refine V_geti (pc := 65) fk_X0_55 rfl dX0_meet_65 k_h0 (rf_4_2 _) ?_
          refine V_iconst (pc := 68) dX0_meet_68 ic_1 ?_
          refine V_aload_n (pc := 69) dX0_meet_69 rfl rfl ?_
          refine V_getr (pc := 70) (t := (h0 + 1)) fk_X0_48 rfl dX0_meet_70 k_h0 (rf_4_8 _) ?_
          refine V_iload_n (pc := 73) dX0_meet_73 rfl rfl ?_
          refine V_iald (pc := 74) (n := 8) dX0_meet_74 (hA1 k_h0).1 (hA1 k_h0).2 ?_
          refine V_ishl (pc := 75) dX0_meet_75 ?_
          refine V_iand (pc := 76) dX0_meet_76 ?_
          refine V_if_eq (pc := 77) (tgt := 102) dX0_meet_77 (by decide +kernel) ?_ ?_
          · exact hJ102 a14_1 s63
          · refine V_aload_n (pc := 80) dX0_meet_80 rfl rfl ?_
            refine V_iload_n (pc := 81) dX0_meet_81 rfl rfl ?_
            refine V_iload_n (pc := 82) dX0_meet_82 rfl rfl ?_
            refine V_callVpi (pc := 83) (As := [.int v2, .int a14_1]) (rest := []) (c_X4_isSecret w h0 v2 a14_1 k_h0 s63) cw_X0_58 rfl rfl dX0_meet_83 k_h0 ci_4 ⟨Nat.le_of_ble_eq_true rfl, Nat.le_of_ble_eq_true rfl⟩ rfl rfl (Nat.le_of_ble_eq_true rfl) (Nat.le_of_ble_eq_true rfl) (Nat.le_of_ble_eq_true rfl) rfl (fun q83 => ?_)
            refine V_if_eq (pc := 86) (tgt := 102) dX0_meet_86 (by decide +kernel) ?_ ?_
            · exact hJ102 a14_1 s63
            · refine V_aload_n (pc := 89) dX0_meet_89 rfl rfl ?_
              refine V_iload_n (pc := 90) dX0_meet_90 rfl rfl ?_
              refine V_iload_n (pc := 91) dX0_meet_91 rfl rfl ?_
              refine V_aload_n (pc := 92) dX0_meet_92 rfl rfl ?_
              refine V_aload_n (pc := 93) dX0_meet_93 rfl rfl ?_
              refine V_iload_n (pc := 94) dX0_meet_94 rfl rfl ?_
              refine V_iload_n (pc := 95) dX0_meet_95 rfl rfl ?_
              refine V_callVi (pc := 96) (As := [.ref (wB w + h0), .int v2, .int a14_1]) (rest := [.int a14_1, .int v2, .ref (wB w + h0)]) (c_X6_suspectsBy w n h1 h0 v2 a14_1 k_h1 k_h0 s63) cw_X0_62 rfl rfl dX0_meet_96 k_h1 ci_6 ⟨Nat.le_of_ble_eq_true rfl, Nat.le_of_ble_eq_true rfl⟩ rfl rfl (Nat.le_of_ble_eq_true rfl) (Nat.le_of_ble_eq_true rfl) (Nat.le_of_ble_eq_true rfl) rfl (fun q96 => ?_)
              refine V_callVv (pc := 99) (As := [.int v2, .int a14_1, .int q96.1]) (rest := []) (c_X4_leaveFootprint w h0 v2 a14_1 q96.1 k_h0 q96.2) cw_X0_68 rfl rfl dX0_meet_99 k_h0 ci_4 ⟨Nat.le_of_ble_eq_true rfl, Nat.le_of_ble_eq_true rfl⟩ rfl rfl (Nat.le_of_ble_eq_true rfl) (Nat.le_of_ble_eq_true rfl) (Nat.le_of_ble_eq_true rfl) rfl (fun q99 => ?_)
              exact hJ102 a14_1 q99.2
        · refine V_goto (pc := 37) (tgt := 102) dX0_meet_37 (by decide +kernel) ?_
          exact hJ102 a14_1 a14_2
    refine V_iload_n (pc := 2) dX0_meet_2 rfl rfl ?_
    refine V_aload_n (pc := 3) dX0_meet_3 rfl rfl ?_
    refine V_geti (pc := 4) fk_X0_34 rfl dX0_meet_4 k_h0 (rf_4_0 _) ?_
    refine V_icmp_ge (pc := 7) (tgt := 114) dX0_meet_7 (by decide +kernel) ?_ ?_
    · refine V_exit r2 ?_
      exact V_ret (pc := 114) dX0_meet_114 rfl (hk := fun h => h)
    · refine V_iload_n (pc := 10) dX0_meet_10 rfl rfl ?_
      refine V_iconst (pc := 11) dX0_meet_11 ic_1 ?_
      refine V_iadd (pc := 12) dX0_meet_12 ?_
      refine V_istore_n (pc := 13) (vs' := [some (.ref (wB w + h0)), some (.ref (wB w + h1)), some (.int a2_1), some (.int (a2_1 + (1 : Int32)))]) dX0_meet_13 rfl (Nat.le_of_ble_eq_true rfl) (Nat.le_of_ble_eq_true rfl) rfl ?_
      exact hL14 a2_1 n ((a2_1 + (1 : Int32)), a2_2)
  refine V_iconst (pc := 0) dX0_meet_0 ic_0 ?_
  refine V_istore_n (pc := 1) (vs' := [some (.ref (wB w + h0)), some (.ref (wB w + h1)), some (.int (0 : Int32)), none]) dX0_meet_1 rfl (Nat.le_of_ble_eq_true rfl) (Nat.le_of_ble_eq_true rfl) rfl ?_
  exact hL2 n ((0 : Int32), σ)
def J_X0_pass_56 (n : Nat) (h0 : Nat) (h1 : Nat) (v2 : Int32) (v3 : Int32) (v4 : Int32) (v5 : Int32) (σ : MS) : Option ((Int32 × Int32 × MS) ⊕ (Int32 × MS)) := some (.inl (v4, (v5 + (1 : Int32)), σ))
def L_X0_pass_6 (n : Nat) (h0 : Nat) (h1 : Nat) (v2 : Int32) (v3 : Int32) (σ : MS) (a6 : Int32 × Int32 × MS) : Option ((Int32 × Int32 × MS) ⊕ (Int32 × MS)) := (if v2 ≤ a6.2.1 then (some (a6.1, a6.2.2)).map Sum.inr else ((f_X0_move n h0 v3 a6.2.2).bind (fun q20 => ((f_X0_meet n h0 h1 q20.2).bind (fun q25 => (ltM (mu q25.2 h0 5 (mnI (9999 : Int32) ((q25.2 h0 5) + (1 : Int32)))) (fun s41 => (if (s41 h0 7) = (a6.2.2 h0 7) then J_X0_pass_56 n h0 h1 v2 v3 (a6.1 + (1 : Int32)) a6.2.1 s41 else J_X0_pass_56 n h0 h1 v2 v3 a6.1 a6.2.1 s41))))))))
def f_X0_pass (n : Nat) (h0 : Nat) (h1 : Nat) (p2 : Int32) (p3 : Int32) (σ : MS) : Option (Int32 × MS) := itr (L_X0_pass_6 n h0 h1 p2 p3 σ) n ((0 : Int32), (0 : Int32), σ)
set_option maxRecDepth 20000 in
set_option maxHeartbeats 2000000 in
theorem c_X0_pass (w : TG) (n : Nat) (h0 : Nat) (h1 : Nat) (p2 : Int32) (p3 : Int32) (k_h0 : kd h0 = 4) (k_h1 : kd h1 = 6) (σ : MS) : MC m_X0_pass w [.ref (wB w + h0), .ref (wB w + h1), .int p2, .int p3] σ (f_X0_pass n h0 h1 p2 p3 σ) := by
  refine V_meth (by decide +kernel) (Nat.le_of_ble_eq_true rfl) (by intro v hv; simp only [List.mem_cons, List.not_mem_nil, or_false] at hv; rcases hv with rfl | rfl | rfl | rfl <;> rfl) (fun g x => ?_)
  show VV m_X0_pass w g 0 0 (QM m_X0_pass w g x) (fun b : Int32 × MS => b = x) 0 [some (.ref (wB w + h0)), some (.ref (wB w + h1)), some (.int p2), some (.int p3), none, none, none] [] σ (f_X0_pass n h0 h1 p2 p3 σ)
  have hL6 : ∀  (n0 : Nat) (a : Int32 × Int32 × MS), VV m_X0_pass w g 0 0 (QM m_X0_pass w g x) (fun b : Int32 × MS => b = x) 6 [some (.ref (wB w + h0)), some (.ref (wB w + h1)), some (.int p2), some (.int p3), some (.int a.1), some (.int a.2.1), none] [] a.2.2 (itr (L_X0_pass_6 n h0 h1 p2 p3 σ) n0 a) := by
    refine V_itr (vf := fun a : Int32 × Int32 × MS => [some (.ref (wB w + h0)), some (.ref (wB w + h1)), some (.int p2), some (.int p3), some (.int a.1), some (.int a.2.1), none]) (sf := fun a : Int32 × Int32 × MS => a.2.2) (fun κ6 b6 r6 a6 => ?_)
    obtain ⟨a6_1, a6_2, a6_3⟩ := a6
    show VV m_X0_pass w g 0 0 (QM m_X0_pass w g x) κ6 6 [some (.ref (wB w + h0)), some (.ref (wB w + h1)), some (.int p2), some (.int p3), some (.int a6_1), some (.int a6_2), none] [] a6_3 (L_X0_pass_6 n h0 h1 p2 p3 σ (a6_1, a6_2, a6_3))
    have hJ56 : ∀ (v4 : Int32) (v5 : Int32) (σ : MS), VV m_X0_pass w g 0 0 (QM m_X0_pass w g x) κ6 56 [some (.ref (wB w + h0)), some (.ref (wB w + h1)), some (.int p2), some (.int p3), some (.int v4), some (.int v5), none] [] σ (J_X0_pass_56 n h0 h1 p2 p3 v4 v5 σ) := by
      intro v4 v5 σ
      refine V_iincC (pc := 56) (vs' := [some (.ref (wB w + h0)), some (.ref (wB w + h1)), some (.int p2), some (.int p3), some (.int v4), some (.int (v5 + (1 : Int32))), none]) dX0_pass_56 (Nat.le_of_ble_eq_true rfl) rfl ic_1 rfl ?_
      refine V_goto (pc := 59) (tgt := 6) dX0_pass_59 (by decide +kernel) ?_
      exact V_back (b6 (v4, (v5 + (1 : Int32)), σ))
    refine V_iload (pc := 6) dX0_pass_6 rfl ?_
    refine V_iload_n (pc := 8) dX0_pass_8 rfl rfl ?_
    refine V_icmp_ge (pc := 9) (tgt := 62) dX0_pass_9 (by decide +kernel) ?_ ?_
    · refine V_exit r6 ?_
      refine V_iload (pc := 62) dX0_pass_62 rfl ?_
      exact V_ireti (pc := 64) dX0_pass_64 rfl (hk := fun h => h)
    · refine V_aload_n (pc := 12) dX0_pass_12 rfl rfl ?_
      refine V_geti (pc := 13) fk_X0_9 rfl dX0_pass_13 k_h0 (rf_4_7 _) ?_
      refine V_istore (pc := 16) (vs' := [some (.ref (wB w + h0)), some (.ref (wB w + h1)), some (.int p2), some (.int p3), some (.int a6_1), some (.int a6_2), some (.int (a6_3 h0 7))]) dX0_pass_16 (Nat.le_of_ble_eq_true rfl) (Nat.le_of_ble_eq_true rfl) rfl ?_
      refine V_aload_n (pc := 18) dX0_pass_18 rfl rfl ?_
      refine V_iload_n (pc := 19) dX0_pass_19 rfl rfl ?_
      refine V_callSv (pc := 20) (As := [.ref (wB w + h0), .int p3]) (rest := []) (c_X0_move w n h0 p3 k_h0 a6_3) cs_X0_15 rfl rfl dX0_pass_20 ⟨Nat.le_of_ble_eq_true rfl, Nat.le_of_ble_eq_true rfl⟩ rfl rfl (Nat.le_of_ble_eq_true rfl) (Nat.le_of_ble_eq_true rfl) (Nat.le_of_ble_eq_true rfl) rfl (fun q20 => ?_)
      refine V_aload_n (pc := 23) dX0_pass_23 rfl rfl ?_
      refine V_aload_n (pc := 24) dX0_pass_24 rfl rfl ?_
      refine V_callSv (pc := 25) (As := [.ref (wB w + h0), .ref (wB w + h1)]) (rest := []) (c_X0_meet w n h0 h1 k_h0 k_h1 q20.2) cs_X0_21 rfl rfl dX0_pass_25 ⟨Nat.le_of_ble_eq_true rfl, Nat.le_of_ble_eq_true rfl⟩ rfl rfl (Nat.le_of_ble_eq_true rfl) (Nat.le_of_ble_eq_true rfl) (Nat.le_of_ble_eq_true rfl) rfl (fun q25 => ?_)
      refine V_aload_n (pc := 28) dX0_pass_28 rfl rfl ?_
      refine V_sipush (pc := 29) dX0_pass_29 sp_9999 ?_
      refine V_aload_n (pc := 32) dX0_pass_32 rfl rfl ?_
      refine V_geti (pc := 33) fk_X0_25 rfl dX0_pass_33 k_h0 (rf_4_5 _) ?_
      refine V_iconst (pc := 36) dX0_pass_36 ic_1 ?_
      refine V_iadd (pc := 37) dX0_pass_37 ?_
      refine V_mmin (pc := 38) dX0_pass_38 rfl mw_X0_28 (Nat.le_of_ble_eq_true rfl) (Nat.le_of_ble_eq_true rfl) (Nat.le_of_ble_eq_true rfl) (Nat.le_of_ble_eq_true rfl) ?_
      refine V_puti (pc := 41) fp_X0_25 rfl dX0_pass_41 k_h0 (rf_4_5 _) (fun s41 => ?_)
      refine V_aload_n (pc := 44) dX0_pass_44 rfl rfl ?_
      refine V_geti (pc := 45) fk_X0_9 rfl dX0_pass_45 k_h0 (rf_4_7 _) ?_
      refine V_iload (pc := 48) dX0_pass_48 rfl ?_
      refine V_icmp_ne (pc := 50) (tgt := 56) dX0_pass_50 (by decide +kernel) ?_ ?_
      · refine V_sub (vs' := [some (.ref (wB w + h0)), some (.ref (wB w + h1)), some (.int p2), some (.int p3), some (.int a6_1), some (.int a6_2), none]) (show vless _ _ from ⟨rfl, ⟨rfl, ⟨rfl, ⟨rfl, ⟨rfl, ⟨rfl, trivial⟩⟩⟩⟩⟩⟩) rfl ?_
        exact hJ56 a6_1 a6_2 s41
      · refine V_iincC (pc := 53) (vs' := [some (.ref (wB w + h0)), some (.ref (wB w + h1)), some (.int p2), some (.int p3), some (.int (a6_1 + (1 : Int32))), some (.int a6_2), some (.int (a6_3 h0 7))]) dX0_pass_53 (Nat.le_of_ble_eq_true rfl) rfl ic_1 rfl ?_
        refine V_sub (vs' := [some (.ref (wB w + h0)), some (.ref (wB w + h1)), some (.int p2), some (.int p3), some (.int (a6_1 + (1 : Int32))), some (.int a6_2), none]) (show vless _ _ from ⟨rfl, ⟨rfl, ⟨rfl, ⟨rfl, ⟨rfl, ⟨rfl, trivial⟩⟩⟩⟩⟩⟩) rfl ?_
        exact hJ56 (a6_1 + (1 : Int32)) a6_2 s41
  refine V_iconst (pc := 0) dX0_pass_0 ic_0 ?_
  refine V_istore (pc := 1) (vs' := [some (.ref (wB w + h0)), some (.ref (wB w + h1)), some (.int p2), some (.int p3), some (.int (0 : Int32)), none, none]) dX0_pass_1 (Nat.le_of_ble_eq_true rfl) (Nat.le_of_ble_eq_true rfl) rfl ?_
  refine V_iconst (pc := 3) dX0_pass_3 ic_0 ?_
  refine V_istore (pc := 4) (vs' := [some (.ref (wB w + h0)), some (.ref (wB w + h1)), some (.int p2), some (.int p3), some (.int (0 : Int32)), some (.int (0 : Int32)), none]) dX0_pass_4 (Nat.le_of_ble_eq_true rfl) (Nat.le_of_ble_eq_true rfl) rfl ?_
  exact hL6 n ((0 : Int32), (0 : Int32), σ)
def J_X1_foresee_94 (n : Nat) (v1 : Int32) (v2 : Int32) (v3 : Int32) (v4 : Int32) (σ : MS) : Option ((Int32 × MS) ⊕ ((Int32 × MS) ⊕ (Int32 × MS))) := some (.inl ((v4 + (1 : Int32)), σ))
def L_X1_foresee_25 (n : Nat) (v1 : Int32) (v2 : Int32) (v3 : Int32) (σ : MS) (a25 : Int32 × MS) : Option ((Int32 × MS) ⊕ ((Int32 × MS) ⊕ (Int32 × MS))) := (if (a25.2 3 0) ≤ a25.1 then (some (.inl ((v3 + (1 : Int32)), a25.2))).map Sum.inr else ((f_X4_holds 3 v3 a25.1 a25.2).bind (fun q44 => (if q44 = 0 then ((f_X1_force n v3 a25.1 v1 v2 a25.2).bind (fun q56 => (if q56.1 ≤ 0 then J_X1_foresee_94 n v1 v2 v3 a25.1 q56.2 else ((f_X1_reach n v3 a25.1 v1 v2 q56.2).bind (fun q75 => (if q75.1 ≤ (q56.2 3 5) then J_X1_foresee_94 n v1 v2 v3 a25.1 q75.2 else (if inb v3 8 then (if inb v3 8 then ltM (mu q75.2 54 (ix v3) ((q75.2 54 (ix v3)) ||| (shlI (1 : Int32) a25.1))) (fun s93 => J_X1_foresee_94 n v1 v2 v3 a25.1 s93) else none) else none))))))) else J_X1_foresee_94 n v1 v2 v3 a25.1 a25.2))))
def L_X1_foresee_2 (n : Nat) (v1 : Int32) (v2 : Int32) (σ : MS) (a2 : Int32 × MS) : Option ((Int32 × MS) ⊕ (Int32 × MS)) := (if (a2.2 3 0) ≤ a2.1 then (some (0, a2.2)).map Sum.inr else (if inb a2.1 8 then ltM (mu a2.2 54 (ix a2.1) (0 : Int32)) (fun s19 => itr (L_X1_foresee_25 n v1 v2 a2.1 σ) n ((a2.1 + (1 : Int32)), s19)) else none))
def f_X1_foresee (n : Nat) (p1 : Int32) (p2 : Int32) (σ : MS) : Option (Int32 × MS) := itr (L_X1_foresee_2 n p1 p2 σ) n ((0 : Int32), σ)
set_option maxRecDepth 20000 in
set_option maxHeartbeats 2000000 in
theorem c_X1_foresee (w : TG) (n : Nat) (p1 : Int32) (p2 : Int32) (σ : MS) : MC m_X1_foresee w [.ref (wB w + 53), .int p1, .int p2] σ (f_X1_foresee n p1 p2 σ) := by
  refine V_meth (by decide +kernel) (Nat.le_of_ble_eq_true rfl) (by intro v hv; simp only [List.mem_cons, List.not_mem_nil, or_false] at hv; rcases hv with rfl | rfl | rfl <;> rfl) (fun g x => ?_)
  show VV m_X1_foresee w g 0 0 (QM m_X1_foresee w g x) (fun b : Int32 × MS => b = x) 0 [some (.ref (wB w + 53)), some (.int p1), some (.int p2), none, none] [] σ (f_X1_foresee n p1 p2 σ)
  have hL2 : ∀  (n0 : Nat) (a : Int32 × MS), VV m_X1_foresee w g 0 0 (QM m_X1_foresee w g x) (fun b : Int32 × MS => b = x) 2 [some (.ref (wB w + 53)), some (.int p1), some (.int p2), some (.int a.1), none] [] a.2 (itr (L_X1_foresee_2 n p1 p2 σ) n0 a) := by
    refine V_itr (vf := fun a : Int32 × MS => [some (.ref (wB w + 53)), some (.int p1), some (.int p2), some (.int a.1), none]) (sf := fun a : Int32 × MS => a.2) (fun κ2 b2 r2 a2 => ?_)
    obtain ⟨a2_1, a2_2⟩ := a2
    show VV m_X1_foresee w g 0 0 (QM m_X1_foresee w g x) κ2 2 [some (.ref (wB w + 53)), some (.int p1), some (.int p2), some (.int a2_1), none] [] a2_2 (L_X1_foresee_2 n p1 p2 σ (a2_1, a2_2))
    have hL25 : ∀ (v3 : Int32) (n0 : Nat) (a : Int32 × MS), VV m_X1_foresee w g 0 0 (QM m_X1_foresee w g x) κ2 25 [some (.ref (wB w + 53)), some (.int p1), some (.int p2), some (.int v3), some (.int a.1)] [] a.2 (itr (L_X1_foresee_25 n p1 p2 v3 σ) n0 a) := by
      intro v3
      refine V_itr (vf := fun a : Int32 × MS => [some (.ref (wB w + 53)), some (.int p1), some (.int p2), some (.int v3), some (.int a.1)]) (sf := fun a : Int32 × MS => a.2) (fun κ25 b25 r25 a25 => ?_)
      obtain ⟨a25_1, a25_2⟩ := a25
      show VV m_X1_foresee w g 0 0 (QM m_X1_foresee w g x) κ25 25 [some (.ref (wB w + 53)), some (.int p1), some (.int p2), some (.int v3), some (.int a25_1)] [] a25_2 (L_X1_foresee_25 n p1 p2 v3 σ (a25_1, a25_2))
      have hJ94 : ∀ (v4 : Int32) (σ : MS), VV m_X1_foresee w g 0 0 (QM m_X1_foresee w g x) κ25 94 [some (.ref (wB w + 53)), some (.int p1), some (.int p2), some (.int v3), some (.int v4)] [] σ (J_X1_foresee_94 n p1 p2 v3 v4 σ) := by
        intro v4 σ
        refine V_iincC (pc := 94) (vs' := [some (.ref (wB w + 53)), some (.int p1), some (.int p2), some (.int v3), some (.int (v4 + (1 : Int32)))]) dX1_foresee_94 (Nat.le_of_ble_eq_true rfl) rfl ic_1 rfl ?_
        refine V_goto (pc := 97) (tgt := 25) dX1_foresee_97 (by decide +kernel) ?_
        exact V_back (b25 ((v4 + (1 : Int32)), σ))
      refine V_iload (pc := 25) dX1_foresee_25 rfl ?_
      refine V_aload_n (pc := 27) dX1_foresee_27 rfl rfl ?_
      refine V_getr (pc := 28) (t := 3) fk_X1_15 rfl dX1_foresee_28 kc_53 rf_1_0_53 ?_
      refine V_geti (pc := 31) fk_X1_29 rfl dX1_foresee_31 kc_3 rf_4_0_3 ?_
      refine V_icmp_ge (pc := 34) (tgt := 100) dX1_foresee_34 (by decide +kernel) ?_ ?_
      · refine V_exit r25 ?_
        refine V_iincC (pc := 100) (vs' := [some (.ref (wB w + 53)), some (.int p1), some (.int p2), some (.int (v3 + (1 : Int32))), some (.int a25_1)]) dX1_foresee_100 (Nat.le_of_ble_eq_true rfl) rfl ic_1 rfl ?_
        refine V_goto (pc := 103) (tgt := 2) dX1_foresee_103 (by decide +kernel) ?_
        refine V_sub (vs' := [some (.ref (wB w + 53)), some (.int p1), some (.int p2), some (.int (v3 + (1 : Int32))), none]) (show vless _ _ from ⟨rfl, ⟨rfl, ⟨rfl, ⟨rfl, trivial⟩⟩⟩⟩) rfl ?_
        exact V_back (b2 ((v3 + (1 : Int32)), a25_2))
      · refine V_aload_n (pc := 37) dX1_foresee_37 rfl rfl ?_
        refine V_getr (pc := 38) (t := 3) fk_X1_15 rfl dX1_foresee_38 kc_53 rf_1_0_53 ?_
        refine V_iload_n (pc := 41) dX1_foresee_41 rfl rfl ?_
        refine V_iload (pc := 42) dX1_foresee_42 rfl ?_
        refine V_callVpi (pc := 44) (As := [.int v3, .int a25_1]) (rest := []) (c_X4_holds w 3 v3 a25_1 kc_3 a25_2) cw_X1_88 rfl rfl dX1_foresee_44 kc_3 ci_4 ⟨Nat.le_of_ble_eq_true rfl, Nat.le_of_ble_eq_true rfl⟩ rfl rfl (Nat.le_of_ble_eq_true rfl) (Nat.le_of_ble_eq_true rfl) (Nat.le_of_ble_eq_true rfl) rfl (fun q44 => ?_)
        refine V_if_ne (pc := 47) (tgt := 94) dX1_foresee_47 (by decide +kernel) ?_ ?_
        · exact hJ94 a25_1 a25_2
        · refine V_aload_n (pc := 50) dX1_foresee_50 rfl rfl ?_
          refine V_iload_n (pc := 51) dX1_foresee_51 rfl rfl ?_
          refine V_iload (pc := 52) dX1_foresee_52 rfl ?_
          refine V_iload_n (pc := 54) dX1_foresee_54 rfl rfl ?_
          refine V_iload_n (pc := 55) dX1_foresee_55 rfl rfl ?_
          refine V_callVi (pc := 56) (As := [.int v3, .int a25_1, .int p1, .int p2]) (rest := []) (c_X1_force w n v3 a25_1 p1 p2 a25_2) cw_X1_39 rfl rfl dX1_foresee_56 kc_53 ci_1 ⟨Nat.le_of_ble_eq_true rfl, Nat.le_of_ble_eq_true rfl⟩ rfl rfl (Nat.le_of_ble_eq_true rfl) (Nat.le_of_ble_eq_true rfl) (Nat.le_of_ble_eq_true rfl) rfl (fun q56 => ?_)
          refine V_if_le (pc := 59) (tgt := 94) dX1_foresee_59 (by decide +kernel) ?_ ?_
          · exact hJ94 a25_1 q56.2
          · refine V_aload_n (pc := 62) dX1_foresee_62 rfl rfl ?_
            refine V_getr (pc := 63) (t := 3) fk_X1_15 rfl dX1_foresee_63 kc_53 rf_1_0_53 ?_
            refine V_geti (pc := 66) fk_X1_71 rfl dX1_foresee_66 kc_3 rf_4_5_3 ?_
            refine V_aload_n (pc := 69) dX1_foresee_69 rfl rfl ?_
            refine V_iload_n (pc := 70) dX1_foresee_70 rfl rfl ?_
            refine V_iload (pc := 71) dX1_foresee_71 rfl ?_
            refine V_iload_n (pc := 73) dX1_foresee_73 rfl rfl ?_
            refine V_iload_n (pc := 74) dX1_foresee_74 rfl rfl ?_
            refine V_callVi (pc := 75) (As := [.int v3, .int a25_1, .int p1, .int p2]) (rest := [.int (q56.2 3 5)]) (c_X1_reach w n v3 a25_1 p1 p2 q56.2) cw_X1_43 rfl rfl dX1_foresee_75 kc_53 ci_1 ⟨Nat.le_of_ble_eq_true rfl, Nat.le_of_ble_eq_true rfl⟩ rfl rfl (Nat.le_of_ble_eq_true rfl) (Nat.le_of_ble_eq_true rfl) (Nat.le_of_ble_eq_true rfl) rfl (fun q75 => ?_)
            refine V_icmp_ge (pc := 78) (tgt := 94) dX1_foresee_78 (by decide +kernel) ?_ ?_
            · exact hJ94 a25_1 q75.2
            · refine V_aload_n (pc := 81) dX1_foresee_81 rfl rfl ?_
              refine V_getr (pc := 82) (t := 54) fk_X1_9 rfl dX1_foresee_82 kc_53 rf_1_2_53 ?_
              refine V_iload_n (pc := 85) dX1_foresee_85 rfl rfl ?_
              refine V_dup2 (pc := 86) dX1_foresee_86 rfl rfl ?_
              refine V_iald (pc := 87) (n := 8) dX1_foresee_87 kc_54 lc_54 ?_
              refine V_iconst (pc := 88) dX1_foresee_88 ic_1 ?_
              refine V_iload (pc := 89) dX1_foresee_89 rfl ?_
              refine V_ishl (pc := 91) dX1_foresee_91 ?_
              refine V_ior (pc := 92) dX1_foresee_92 ?_
              refine V_iast (pc := 93) (n := 8) dX1_foresee_93 kc_54 lc_54 (fun s93 => ?_)
              exact hJ94 a25_1 s93
    refine V_iload_n (pc := 2) dX1_foresee_2 rfl rfl ?_
    refine V_aload_n (pc := 3) dX1_foresee_3 rfl rfl ?_
    refine V_getr (pc := 4) (t := 3) fk_X1_15 rfl dX1_foresee_4 kc_53 rf_1_0_53 ?_
    refine V_geti (pc := 7) fk_X1_29 rfl dX1_foresee_7 kc_3 rf_4_0_3 ?_
    refine V_icmp_ge (pc := 10) (tgt := 106) dX1_foresee_10 (by decide +kernel) ?_ ?_
    · refine V_exit r2 ?_
      exact V_ret (pc := 106) dX1_foresee_106 rfl (hk := fun h => h)
    · refine V_aload_n (pc := 13) dX1_foresee_13 rfl rfl ?_
      refine V_getr (pc := 14) (t := 54) fk_X1_9 rfl dX1_foresee_14 kc_53 rf_1_2_53 ?_
      refine V_iload_n (pc := 17) dX1_foresee_17 rfl rfl ?_
      refine V_iconst (pc := 18) dX1_foresee_18 ic_0 ?_
      refine V_iast (pc := 19) (n := 8) dX1_foresee_19 kc_54 lc_54 (fun s19 => ?_)
      refine V_iload_n (pc := 20) dX1_foresee_20 rfl rfl ?_
      refine V_iconst (pc := 21) dX1_foresee_21 ic_1 ?_
      refine V_iadd (pc := 22) dX1_foresee_22 ?_
      refine V_istore (pc := 23) (vs' := [some (.ref (wB w + 53)), some (.int p1), some (.int p2), some (.int a2_1), some (.int (a2_1 + (1 : Int32)))]) dX1_foresee_23 (Nat.le_of_ble_eq_true rfl) (Nat.le_of_ble_eq_true rfl) rfl ?_
      exact hL25 a2_1 n ((a2_1 + (1 : Int32)), s19)
  refine V_iconst (pc := 0) dX1_foresee_0 ic_0 ?_
  refine V_istore_n (pc := 1) (vs' := [some (.ref (wB w + 53)), some (.int p1), some (.int p2), some (.int (0 : Int32)), none]) dX1_foresee_1 rfl (Nat.le_of_ble_eq_true rfl) (Nat.le_of_ble_eq_true rfl) rfl ?_
  exact hL2 n ((0 : Int32), σ)
def J_X1_newlyWithin_37 (n : Nat) (v1 : Int32) (v2 : Int32) (v3 : Int32) (σ : MS) : Option ((Int32 × Int32) ⊕ (Int32)) := some (.inl (v2, (v3 + (1 : Int32))))
def L_X1_newlyWithin_4 (n : Nat) (v1 : Int32) (σ : MS) (a4 : Int32 × Int32) : Option ((Int32 × Int32) ⊕ (Int32)) := (if (σ 3 0) ≤ a4.2 then (some a4.1).map Sum.inr else (if (v1 &&& (shlI (1 : Int32) a4.2)) = 0 then J_X1_newlyWithin_37 n v1 a4.1 a4.2 σ else (if inb a4.2 8 then ((f_J6_bitCount_0f7a4 ((σ 54 (ix a4.2)) &&& v1) σ).bind (fun q32 => J_X1_newlyWithin_37 n v1 (a4.1 + q32) a4.2 σ)) else none)))
def f_X1_newlyWithin (n : Nat) (p1 : Int32) (σ : MS) : Option (Int32) := itr (L_X1_newlyWithin_4 n p1 σ) n ((0 : Int32), (0 : Int32))
set_option maxRecDepth 20000 in
set_option maxHeartbeats 2000000 in
theorem c_X1_newlyWithin (w : TG) (n : Nat) (p1 : Int32) (σ : MS) : MC m_X1_newlyWithin w [.ref (wB w + 53), .int p1] σ ((f_X1_newlyWithin n p1 σ).map (fun r => (r, σ))) := by
  refine V_methp (by decide +kernel) (Nat.le_of_ble_eq_true rfl) (by intro v hv; simp only [List.mem_cons, List.not_mem_nil, or_false] at hv; rcases hv with rfl | rfl <;> rfl) (fun g x => ?_)
  show VV m_X1_newlyWithin w g 0 0 (QM m_X1_newlyWithin w g x) (fun b : Int32 => (b, σ) = x) 0 [some (.ref (wB w + 53)), some (.int p1), none, none] [] σ (f_X1_newlyWithin n p1 σ)
  have hL4 : ∀  (n0 : Nat) (a : Int32 × Int32), VV m_X1_newlyWithin w g 0 0 (QM m_X1_newlyWithin w g x) (fun b : Int32 => (b, σ) = x) 4 [some (.ref (wB w + 53)), some (.int p1), some (.int a.1), some (.int a.2)] [] σ (itr (L_X1_newlyWithin_4 n p1 σ) n0 a) := by
    refine V_itr (vf := fun a : Int32 × Int32 => [some (.ref (wB w + 53)), some (.int p1), some (.int a.1), some (.int a.2)]) (sf := fun a : Int32 × Int32 => σ) (fun κ4 b4 r4 a4 => ?_)
    obtain ⟨a4_1, a4_2⟩ := a4
    show VV m_X1_newlyWithin w g 0 0 (QM m_X1_newlyWithin w g x) κ4 4 [some (.ref (wB w + 53)), some (.int p1), some (.int a4_1), some (.int a4_2)] [] σ (L_X1_newlyWithin_4 n p1 σ (a4_1, a4_2))
    have hJ37 : ∀ (v2 : Int32) (v3 : Int32), VV m_X1_newlyWithin w g 0 0 (QM m_X1_newlyWithin w g x) κ4 37 [some (.ref (wB w + 53)), some (.int p1), some (.int v2), some (.int v3)] [] σ (J_X1_newlyWithin_37 n p1 v2 v3 σ) := by
      intro v2 v3
      refine V_iincC (pc := 37) (vs' := [some (.ref (wB w + 53)), some (.int p1), some (.int v2), some (.int (v3 + (1 : Int32)))]) dX1_newlyWithin_37 (Nat.le_of_ble_eq_true rfl) rfl ic_1 rfl ?_
      refine V_goto (pc := 40) (tgt := 4) dX1_newlyWithin_40 (by decide +kernel) ?_
      exact V_back (b4 (v2, (v3 + (1 : Int32))))
    refine V_iload_n (pc := 4) dX1_newlyWithin_4 rfl rfl ?_
    refine V_aload_n (pc := 5) dX1_newlyWithin_5 rfl rfl ?_
    refine V_getr (pc := 6) (t := 3) fk_X1_15 rfl dX1_newlyWithin_6 kc_53 rf_1_0_53 ?_
    refine V_geti (pc := 9) fk_X1_29 rfl dX1_newlyWithin_9 kc_3 rf_4_0_3 ?_
    refine V_icmp_ge (pc := 12) (tgt := 43) dX1_newlyWithin_12 (by decide +kernel) ?_ ?_
    · refine V_exit r4 ?_
      refine V_iload_n (pc := 43) dX1_newlyWithin_43 rfl rfl ?_
      exact V_ireti (pc := 44) dX1_newlyWithin_44 rfl (hk := fun h => h)
    · refine V_iload_n (pc := 15) dX1_newlyWithin_15 rfl rfl ?_
      refine V_iconst (pc := 16) dX1_newlyWithin_16 ic_1 ?_
      refine V_iload_n (pc := 17) dX1_newlyWithin_17 rfl rfl ?_
      refine V_ishl (pc := 18) dX1_newlyWithin_18 ?_
      refine V_iand (pc := 19) dX1_newlyWithin_19 ?_
      refine V_if_eq (pc := 20) (tgt := 37) dX1_newlyWithin_20 (by decide +kernel) ?_ ?_
      · exact hJ37 a4_1 a4_2
      · refine V_iload_n (pc := 23) dX1_newlyWithin_23 rfl rfl ?_
        refine V_aload_n (pc := 24) dX1_newlyWithin_24 rfl rfl ?_
        refine V_getr (pc := 25) (t := 54) fk_X1_9 rfl dX1_newlyWithin_25 kc_53 rf_1_2_53 ?_
        refine V_iload_n (pc := 28) dX1_newlyWithin_28 rfl rfl ?_
        refine V_iald (pc := 29) (n := 8) dX1_newlyWithin_29 kc_54 lc_54 ?_
        refine V_iload_n (pc := 30) dX1_newlyWithin_30 rfl rfl ?_
        refine V_iand (pc := 31) dX1_newlyWithin_31 ?_
        refine V_callSpi (pc := 32) (As := [.int ((σ 54 (ix a4_2)) &&& p1)]) (rest := [.int a4_1]) (c_J6_bitCount_0f7a4 w ((σ 54 (ix a4_2)) &&& p1) σ) cs_X1_23 rfl rfl dX1_newlyWithin_32 ⟨Nat.le_of_ble_eq_true rfl, Nat.le_of_ble_eq_true rfl⟩ rfl rfl (Nat.le_of_ble_eq_true rfl) (Nat.le_of_ble_eq_true rfl) (Nat.le_of_ble_eq_true rfl) rfl (fun q32 => ?_)
        refine V_iadd (pc := 35) dX1_newlyWithin_35 ?_
        refine V_istore_n (pc := 36) (vs' := [some (.ref (wB w + 53)), some (.int p1), some (.int (a4_1 + q32)), some (.int a4_2)]) dX1_newlyWithin_36 rfl (Nat.le_of_ble_eq_true rfl) (Nat.le_of_ble_eq_true rfl) rfl ?_
        exact hJ37 (a4_1 + q32) a4_2
  refine V_iconst (pc := 0) dX1_newlyWithin_0 ic_0 ?_
  refine V_istore_n (pc := 1) (vs' := [some (.ref (wB w + 53)), some (.int p1), some (.int (0 : Int32)), none]) dX1_newlyWithin_1 rfl (Nat.le_of_ble_eq_true rfl) (Nat.le_of_ble_eq_true rfl) rfl ?_
  refine V_iconst (pc := 2) dX1_newlyWithin_2 ic_0 ?_
  refine V_istore_n (pc := 3) (vs' := [some (.ref (wB w + 53)), some (.int p1), some (.int (0 : Int32)), some (.int (0 : Int32))]) dX1_newlyWithin_3 rfl (Nat.le_of_ble_eq_true rfl) (Nat.le_of_ble_eq_true rfl) rfl ?_
  exact hL4 n ((0 : Int32), (0 : Int32))
def J_X1_binding_57 (n : Nat) (v2 : Int32) (v3 : Int32) (v4 : Int32) (v5 : Int32) (σ : MS) : Option ((Int32 × Int32 × Int32) ⊕ (Int32 × MS)) := some (.inl (v3, v4, (v5 + (1 : Int32))))
def L_X1_binding_14 (n : Nat) (v2 : Int32) (σ : MS) (a14 : Int32 × Int32 × Int32) : Option ((Int32 × Int32 × Int32) ⊕ (Int32 × MS)) := ((f_X4_everybody 3 σ).bind (fun q20 => (if q20 < a14.2.2 then (some (a14.1, σ)).map Sum.inr else ((f_J6_bitCount_0f7a4 a14.2.2 σ).bind (fun q28 => (if q28 = v2 then ((f_X1_newlyWithin n a14.2.2 σ).bind (fun q38 => (if q38 ≤ a14.2.1 then J_X1_binding_57 n v2 a14.1 a14.2.1 a14.2.2 σ else ((f_X1_newlyWithin n a14.2.2 σ).bind (fun q49 => J_X1_binding_57 n v2 a14.2.2 q49 a14.2.2 σ))))) else J_X1_binding_57 n v2 a14.1 a14.2.1 a14.2.2 σ))))))
def f_X1_binding (n : Nat) (p1 : Int32) (p2 : Int32) (σ : MS) : Option (Int32 × MS) := ((f_X1_foresee n p1 p2 σ).bind (fun q3 => itr (L_X1_binding_14 n p2 q3.2) n ((-1 : Int32), (-1 : Int32), (0 : Int32))))
set_option maxRecDepth 20000 in
set_option maxHeartbeats 2000000 in
theorem c_X1_binding (w : TG) (n : Nat) (p1 : Int32) (p2 : Int32) (σ : MS) : MC m_X1_binding w [.ref (wB w + 53), .int p1, .int p2] σ (f_X1_binding n p1 p2 σ) := by
  refine V_meth (by decide +kernel) (Nat.le_of_ble_eq_true rfl) (by intro v hv; simp only [List.mem_cons, List.not_mem_nil, or_false] at hv; rcases hv with rfl | rfl | rfl <;> rfl) (fun g x => ?_)
  show VV m_X1_binding w g 0 0 (QM m_X1_binding w g x) (fun b : Int32 × MS => b = x) 0 [some (.ref (wB w + 53)), some (.int p1), some (.int p2), none, none, none] [] σ (f_X1_binding n p1 p2 σ)
  have hL14 : ∀ (σ : MS) (n0 : Nat) (a : Int32 × Int32 × Int32), VV m_X1_binding w g 0 0 (QM m_X1_binding w g x) (fun b : Int32 × MS => b = x) 14 [some (.ref (wB w + 53)), none, some (.int p2), some (.int a.1), some (.int a.2.1), some (.int a.2.2)] [] σ (itr (L_X1_binding_14 n p2 σ) n0 a) := by
    intro σ
    refine V_itr (vf := fun a : Int32 × Int32 × Int32 => [some (.ref (wB w + 53)), none, some (.int p2), some (.int a.1), some (.int a.2.1), some (.int a.2.2)]) (sf := fun a : Int32 × Int32 × Int32 => σ) (fun κ14 b14 r14 a14 => ?_)
    obtain ⟨a14_1, a14_2, a14_3⟩ := a14
    show VV m_X1_binding w g 0 0 (QM m_X1_binding w g x) κ14 14 [some (.ref (wB w + 53)), none, some (.int p2), some (.int a14_1), some (.int a14_2), some (.int a14_3)] [] σ (L_X1_binding_14 n p2 σ (a14_1, a14_2, a14_3))
    have hJ57 : ∀ (v3 : Int32) (v4 : Int32) (v5 : Int32), VV m_X1_binding w g 0 0 (QM m_X1_binding w g x) κ14 57 [some (.ref (wB w + 53)), none, some (.int p2), some (.int v3), some (.int v4), some (.int v5)] [] σ (J_X1_binding_57 n p2 v3 v4 v5 σ) := by
      intro v3 v4 v5
      refine V_iincC (pc := 57) (vs' := [some (.ref (wB w + 53)), none, some (.int p2), some (.int v3), some (.int v4), some (.int (v5 + (1 : Int32)))]) dX1_binding_57 (Nat.le_of_ble_eq_true rfl) rfl ic_1 rfl ?_
      refine V_goto (pc := 60) (tgt := 14) dX1_binding_60 (by decide +kernel) ?_
      exact V_back (b14 (v3, v4, (v5 + (1 : Int32))))
    refine V_iload (pc := 14) dX1_binding_14 rfl ?_
    refine V_aload_n (pc := 16) dX1_binding_16 rfl rfl ?_
    refine V_getr (pc := 17) (t := 3) fk_X1_15 rfl dX1_binding_17 kc_53 rf_1_0_53 ?_
    refine V_callVpi (pc := 20) (As := []) (rest := [.int a14_3]) (c_X4_everybody w 3 kc_3 σ) cw_X1_81 rfl rfl dX1_binding_20 kc_3 ci_4 ⟨Nat.le_of_ble_eq_true rfl, Nat.le_of_ble_eq_true rfl⟩ rfl rfl (Nat.le_of_ble_eq_true rfl) (Nat.le_of_ble_eq_true rfl) (Nat.le_of_ble_eq_true rfl) rfl (fun q20 => ?_)
    refine V_icmp_gt (pc := 23) (tgt := 63) dX1_binding_23 (by decide +kernel) ?_ ?_
    · refine V_exit r14 ?_
      refine V_iload_n (pc := 63) dX1_binding_63 rfl rfl ?_
      exact V_ireti (pc := 64) dX1_binding_64 rfl (hk := fun h => h)
    · refine V_iload (pc := 26) dX1_binding_26 rfl ?_
      refine V_callSpi (pc := 28) (As := [.int a14_3]) (rest := []) (c_J6_bitCount_0f7a4 w a14_3 σ) cs_X1_23 rfl rfl dX1_binding_28 ⟨Nat.le_of_ble_eq_true rfl, Nat.le_of_ble_eq_true rfl⟩ rfl rfl (Nat.le_of_ble_eq_true rfl) (Nat.le_of_ble_eq_true rfl) (Nat.le_of_ble_eq_true rfl) rfl (fun q28 => ?_)
      refine V_iload_n (pc := 31) dX1_binding_31 rfl rfl ?_
      refine V_icmp_ne (pc := 32) (tgt := 57) dX1_binding_32 (by decide +kernel) ?_ ?_
      · exact hJ57 a14_1 a14_2 a14_3
      · refine V_aload_n (pc := 35) dX1_binding_35 rfl rfl ?_
        refine V_iload (pc := 36) dX1_binding_36 rfl ?_
        refine V_callVpi (pc := 38) (As := [.int a14_3]) (rest := []) (c_X1_newlyWithin w n a14_3 σ) cw_X1_85 rfl rfl dX1_binding_38 kc_53 ci_1 ⟨Nat.le_of_ble_eq_true rfl, Nat.le_of_ble_eq_true rfl⟩ rfl rfl (Nat.le_of_ble_eq_true rfl) (Nat.le_of_ble_eq_true rfl) (Nat.le_of_ble_eq_true rfl) rfl (fun q38 => ?_)
        refine V_iload (pc := 41) dX1_binding_41 rfl ?_
        refine V_icmp_le (pc := 43) (tgt := 57) dX1_binding_43 (by decide +kernel) ?_ ?_
        · exact hJ57 a14_1 a14_2 a14_3
        · refine V_aload_n (pc := 46) dX1_binding_46 rfl rfl ?_
          refine V_iload (pc := 47) dX1_binding_47 rfl ?_
          refine V_callVpi (pc := 49) (As := [.int a14_3]) (rest := []) (c_X1_newlyWithin w n a14_3 σ) cw_X1_85 rfl rfl dX1_binding_49 kc_53 ci_1 ⟨Nat.le_of_ble_eq_true rfl, Nat.le_of_ble_eq_true rfl⟩ rfl rfl (Nat.le_of_ble_eq_true rfl) (Nat.le_of_ble_eq_true rfl) (Nat.le_of_ble_eq_true rfl) rfl (fun q49 => ?_)
          refine V_istore (pc := 52) (vs' := [some (.ref (wB w + 53)), none, some (.int p2), some (.int a14_1), some (.int q49), some (.int a14_3)]) dX1_binding_52 (Nat.le_of_ble_eq_true rfl) (Nat.le_of_ble_eq_true rfl) rfl ?_
          refine V_iload (pc := 54) dX1_binding_54 rfl ?_
          refine V_istore_n (pc := 56) (vs' := [some (.ref (wB w + 53)), none, some (.int p2), some (.int a14_3), some (.int q49), some (.int a14_3)]) dX1_binding_56 rfl (Nat.le_of_ble_eq_true rfl) (Nat.le_of_ble_eq_true rfl) rfl ?_
          exact hJ57 a14_3 q49 a14_3
  refine V_aload_n (pc := 0) dX1_binding_0 rfl rfl ?_
  refine V_iload_n (pc := 1) dX1_binding_1 rfl rfl ?_
  refine V_iload_n (pc := 2) dX1_binding_2 rfl rfl ?_
  refine V_callVv (pc := 3) (As := [.int p1, .int p2]) (rest := []) (c_X1_foresee w n p1 p2 σ) cw_X1_77 rfl rfl dX1_binding_3 kc_53 ci_1 ⟨Nat.le_of_ble_eq_true rfl, Nat.le_of_ble_eq_true rfl⟩ rfl rfl (Nat.le_of_ble_eq_true rfl) (Nat.le_of_ble_eq_true rfl) (Nat.le_of_ble_eq_true rfl) rfl (fun q3 => ?_)
  refine V_iconst (pc := 6) dX1_binding_6 ic_m1 ?_
  refine V_istore_n (pc := 7) (vs' := [some (.ref (wB w + 53)), some (.int p1), some (.int p2), some (.int (-1 : Int32)), none, none]) dX1_binding_7 rfl (Nat.le_of_ble_eq_true rfl) (Nat.le_of_ble_eq_true rfl) rfl ?_
  refine V_iconst (pc := 8) dX1_binding_8 ic_m1 ?_
  refine V_istore (pc := 9) (vs' := [some (.ref (wB w + 53)), some (.int p1), some (.int p2), some (.int (-1 : Int32)), some (.int (-1 : Int32)), none]) dX1_binding_9 (Nat.le_of_ble_eq_true rfl) (Nat.le_of_ble_eq_true rfl) rfl ?_
  refine V_iconst (pc := 11) dX1_binding_11 ic_0 ?_
  refine V_istore (pc := 12) (vs' := [some (.ref (wB w + 53)), some (.int p1), some (.int p2), some (.int (-1 : Int32)), some (.int (-1 : Int32)), some (.int (0 : Int32))]) dX1_binding_12 (Nat.le_of_ble_eq_true rfl) (Nat.le_of_ble_eq_true rfl) rfl ?_
  refine V_sub (vs' := [some (.ref (wB w + 53)), none, some (.int p2), some (.int (-1 : Int32)), some (.int (-1 : Int32)), some (.int (0 : Int32))]) (show vless _ _ from ⟨rfl, ⟨rfl, ⟨rfl, ⟨rfl, ⟨rfl, trivial⟩⟩⟩⟩⟩) rfl ?_
  exact hL14 q3.2 n ((-1 : Int32), (-1 : Int32), (0 : Int32))
def J_X2_isTold_85 (n : Nat)  (σ : MS) : Option (Int32) := some (0 : Int32)
def L_X2_isTold_28 (n : Nat)  (σ : MS) (a28 : Int32) : Option ((Int32) ⊕ (Int32)) := (if (σ 1 1) ≤ (a28 + (2 : Int32)) then (some (1 : Int32)).map Sum.inr else (if inb a28 400 then (if inb (a28 + (1 : Int32)) 400 then (if (σ 2 (ix (a28 + (1 : Int32)))) < (σ 2 (ix a28)) then (J_X2_isTold_85 n  σ).map Sum.inr else (if inb (a28 + (1 : Int32)) 400 then ((f_X4_has 3 (σ 2 (ix (a28 + (1 : Int32)))) σ).bind (fun q79 => (if q79 = 0 then (J_X2_isTold_85 n  σ).map Sum.inr else some (.inl ((a28 + (3 : Int32))))))) else none)) else none) else none))
def J_X2_isTold_24 (n : Nat)  (σ : MS) : Option (Int32) := some (0 : Int32)
def f_X2_isTold (n : Nat)  (σ : MS) : Option (Int32) := (if (36 : Int32) < (σ 1 1) then J_X2_isTold_24 n  σ else (if (remI (σ 1 1) (3 : Int32)) = 0 then itr (L_X2_isTold_28 n  σ) n ((0 : Int32)) else J_X2_isTold_24 n  σ))
set_option maxRecDepth 20000 in
set_option maxHeartbeats 2000000 in
theorem c_X2_isTold (w : TG) (n : Nat)  (σ : MS) : MC m_X2_isTold w [.ref (wB w + 60)] σ ((f_X2_isTold n  σ).map (fun r => (r, σ))) := by
  refine V_methp (by decide +kernel) (Nat.le_of_ble_eq_true rfl) (by intro v hv; simp only [List.mem_cons, List.not_mem_nil, or_false] at hv; subst hv; rfl) (fun g x => ?_)
  show VV m_X2_isTold w g 0 0 (QM m_X2_isTold w g x) (fun b : Int32 => (b, σ) = x) 0 [some (.ref (wB w + 60)), none] [] σ (f_X2_isTold n  σ)
  have hJ85 : ∀ (_ : Unit), VV m_X2_isTold w g 0 0 (QM m_X2_isTold w g x) (fun b : Int32 => (b, σ) = x) 85 [none, none] [] σ (J_X2_isTold_85 n  σ) := by
    intro _
    refine V_iconst (pc := 85) dX2_isTold_85 ic_0 ?_
    exact V_iretz (pc := 86) dX2_isTold_86 rfl rfl (hk := fun h => h)
  have hL28 : ∀  (n0 : Nat) (a : Int32), VV m_X2_isTold w g 0 0 (QM m_X2_isTold w g x) (fun b : Int32 => (b, σ) = x) 28 [some (.ref (wB w + 60)), some (.int a)] [] σ (itr (L_X2_isTold_28 n  σ) n0 a) := by
    refine V_itr (vf := fun a : Int32 => [some (.ref (wB w + 60)), some (.int a)]) (sf := fun a : Int32 => σ) (fun κ28 b28 r28 a28 => ?_)
    show VV m_X2_isTold w g 0 0 (QM m_X2_isTold w g x) κ28 28 [some (.ref (wB w + 60)), some (.int a28)] [] σ (L_X2_isTold_28 n  σ a28)
    refine V_iload_n (pc := 28) dX2_isTold_28 rfl rfl ?_
    refine V_iconst (pc := 29) dX2_isTold_29 ic_2 ?_
    refine V_iadd (pc := 30) dX2_isTold_30 ?_
    refine V_aload_n (pc := 31) dX2_isTold_31 rfl rfl ?_
    refine V_getr (pc := 32) (t := 1) fk_X2_19 rfl dX2_isTold_32 kc_60 rf_2_1_60 ?_
    refine V_geti (pc := 35) fk_X2_48 rfl dX2_isTold_35 kc_1 rf_9_1_1 ?_
    refine V_icmp_ge (pc := 38) (tgt := 93) dX2_isTold_38 (by decide +kernel) ?_ ?_
    · refine V_exit r28 ?_
      refine V_iconst (pc := 93) dX2_isTold_93 ic_1 ?_
      exact V_iretz (pc := 94) dX2_isTold_94 rfl rfl (hk := fun h => h)
    · refine V_aload_n (pc := 41) dX2_isTold_41 rfl rfl ?_
      refine V_getr (pc := 42) (t := 1) fk_X2_19 rfl dX2_isTold_42 kc_60 rf_2_1_60 ?_
      refine V_getr (pc := 45) (t := 2) fk_X2_53 rfl dX2_isTold_45 kc_1 rf_9_0_1 ?_
      refine V_iload_n (pc := 48) dX2_isTold_48 rfl rfl ?_
      refine V_iald (pc := 49) (n := 400) dX2_isTold_49 kc_2 lc_2 ?_
      refine V_aload_n (pc := 50) dX2_isTold_50 rfl rfl ?_
      refine V_getr (pc := 51) (t := 1) fk_X2_19 rfl dX2_isTold_51 kc_60 rf_2_1_60 ?_
      refine V_getr (pc := 54) (t := 2) fk_X2_53 rfl dX2_isTold_54 kc_1 rf_9_0_1 ?_
      refine V_iload_n (pc := 57) dX2_isTold_57 rfl rfl ?_
      refine V_iconst (pc := 58) dX2_isTold_58 ic_1 ?_
      refine V_iadd (pc := 59) dX2_isTold_59 ?_
      refine V_iald (pc := 60) (n := 400) dX2_isTold_60 kc_2 lc_2 ?_
      refine V_icmp_gt (pc := 61) (tgt := 85) dX2_isTold_61 (by decide +kernel) ?_ ?_
      · refine V_exit r28 ?_
        refine V_sub (vs' := [none, none]) (show vless _ _ from trivial) rfl ?_
        exact hJ85 ()
      · refine V_aload_n (pc := 64) dX2_isTold_64 rfl rfl ?_
        refine V_getr (pc := 65) (t := 3) fk_X2_15 rfl dX2_isTold_65 kc_60 rf_2_0_60 ?_
        refine V_aload_n (pc := 68) dX2_isTold_68 rfl rfl ?_
        refine V_getr (pc := 69) (t := 1) fk_X2_19 rfl dX2_isTold_69 kc_60 rf_2_1_60 ?_
        refine V_getr (pc := 72) (t := 2) fk_X2_53 rfl dX2_isTold_72 kc_1 rf_9_0_1 ?_
        refine V_iload_n (pc := 75) dX2_isTold_75 rfl rfl ?_
        refine V_iconst (pc := 76) dX2_isTold_76 ic_1 ?_
        refine V_iadd (pc := 77) dX2_isTold_77 ?_
        refine V_iald (pc := 78) (n := 400) dX2_isTold_78 kc_2 lc_2 ?_
        refine V_callVpi (pc := 79) (As := [.int (σ 2 (ix (a28 + (1 : Int32))))]) (rest := []) (c_X4_has w 3 (σ 2 (ix (a28 + (1 : Int32)))) kc_3 σ) cw_X2_56 rfl rfl dX2_isTold_79 kc_3 ci_4 ⟨Nat.le_of_ble_eq_true rfl, Nat.le_of_ble_eq_true rfl⟩ rfl rfl (Nat.le_of_ble_eq_true rfl) (Nat.le_of_ble_eq_true rfl) (Nat.le_of_ble_eq_true rfl) rfl (fun q79 => ?_)
        refine V_if_ne (pc := 82) (tgt := 87) dX2_isTold_82 (by decide +kernel) ?_ ?_
        · refine V_iincC (pc := 87) (vs' := [some (.ref (wB w + 60)), some (.int (a28 + (3 : Int32)))]) dX2_isTold_87 (Nat.le_of_ble_eq_true rfl) rfl ic_3 rfl ?_
          refine V_goto (pc := 90) (tgt := 28) dX2_isTold_90 (by decide +kernel) ?_
          exact V_back (b28 ((a28 + (3 : Int32))))
        · refine V_exit r28 ?_
          refine V_sub (vs' := [none, none]) (show vless _ _ from trivial) rfl ?_
          exact hJ85 ()
  have hJ24 : ∀ (_ : Unit), VV m_X2_isTold w g 0 0 (QM m_X2_isTold w g x) (fun b : Int32 => (b, σ) = x) 24 [none, none] [] σ (J_X2_isTold_24 n  σ) := by
    intro _
    refine V_iconst (pc := 24) dX2_isTold_24 ic_0 ?_
    exact V_iretz (pc := 25) dX2_isTold_25 rfl rfl (hk := fun h => h)
  refine V_aload_n (pc := 0) dX2_isTold_0 rfl rfl ?_
  refine V_getr (pc := 1) (t := 1) fk_X2_19 rfl dX2_isTold_1 kc_60 rf_2_1_60 ?_
  refine V_geti (pc := 4) fk_X2_48 rfl dX2_isTold_4 kc_1 rf_9_1_1 ?_
  refine V_bipush (pc := 7) dX2_isTold_7 bp_36 ?_
  refine V_icmp_gt (pc := 9) (tgt := 24) dX2_isTold_9 (by decide +kernel) ?_ ?_
  · refine V_sub (vs' := [none, none]) (show vless _ _ from trivial) rfl ?_
    exact hJ24 ()
  · refine V_aload_n (pc := 12) dX2_isTold_12 rfl rfl ?_
    refine V_getr (pc := 13) (t := 1) fk_X2_19 rfl dX2_isTold_13 kc_60 rf_2_1_60 ?_
    refine V_geti (pc := 16) fk_X2_48 rfl dX2_isTold_16 kc_1 rf_9_1_1 ?_
    refine V_iconst (pc := 19) dX2_isTold_19 ic_3 ?_
    refine V_irem (pc := 20) dX2_isTold_20 (by decide +kernel) ?_
    refine V_if_eq (pc := 21) (tgt := 26) dX2_isTold_21 (by decide +kernel) ?_ ?_
    · refine V_iconst (pc := 26) dX2_isTold_26 ic_0 ?_
      refine V_istore_n (pc := 27) (vs' := [some (.ref (wB w + 60)), some (.int (0 : Int32))]) dX2_isTold_27 rfl (Nat.le_of_ble_eq_true rfl) (Nat.le_of_ble_eq_true rfl) rfl ?_
      exact hL28 n ((0 : Int32))
    · refine V_sub (vs' := [none, none]) (show vless _ _ from trivial) rfl ?_
      exact hJ24 ()
def L_X2_fits_2 (n : Nat) (v1 : Int32) (σ : MS) (a2 : Int32) : Option ((Int32) ⊕ (Int32)) := (if (σ 1 1) ≤ (a2 + (2 : Int32)) then (some (1 : Int32)).map Sum.inr else (if inb (a2 + (1 : Int32)) 400 then (if inb a2 400 then ((f_J6_bitCount_0f7a4 (v1 &&& ((shlI (2 : Int32) (σ 2 (ix (a2 + (1 : Int32))))) - (shlI (1 : Int32) (σ 2 (ix a2))))) σ).bind (fun q44 => (if inb (a2 + (2 : Int32)) 400 then (if q44 = (σ 2 (ix (a2 + (2 : Int32)))) then some (.inl ((a2 + (3 : Int32)))) else (some (0 : Int32)).map Sum.inr) else none))) else none) else none))
def f_X2_fits (n : Nat) (p1 : Int32) (σ : MS) : Option (Int32) := itr (L_X2_fits_2 n p1 σ) n ((0 : Int32))
set_option maxRecDepth 20000 in
set_option maxHeartbeats 2000000 in
theorem c_X2_fits (w : TG) (n : Nat) (p1 : Int32) (σ : MS) : MC m_X2_fits w [.ref (wB w + 60), .int p1] σ ((f_X2_fits n p1 σ).map (fun r => (r, σ))) := by
  refine V_methp (by decide +kernel) (Nat.le_of_ble_eq_true rfl) (by intro v hv; simp only [List.mem_cons, List.not_mem_nil, or_false] at hv; rcases hv with rfl | rfl <;> rfl) (fun g x => ?_)
  show VV m_X2_fits w g 0 0 (QM m_X2_fits w g x) (fun b : Int32 => (b, σ) = x) 0 [some (.ref (wB w + 60)), some (.int p1), none, none] [] σ (f_X2_fits n p1 σ)
  have hL2 : ∀  (n0 : Nat) (a : Int32), VV m_X2_fits w g 0 0 (QM m_X2_fits w g x) (fun b : Int32 => (b, σ) = x) 2 [some (.ref (wB w + 60)), some (.int p1), some (.int a), none] [] σ (itr (L_X2_fits_2 n p1 σ) n0 a) := by
    refine V_itr (vf := fun a : Int32 => [some (.ref (wB w + 60)), some (.int p1), some (.int a), none]) (sf := fun a : Int32 => σ) (fun κ2 b2 r2 a2 => ?_)
    show VV m_X2_fits w g 0 0 (QM m_X2_fits w g x) κ2 2 [some (.ref (wB w + 60)), some (.int p1), some (.int a2), none] [] σ (L_X2_fits_2 n p1 σ a2)
    refine V_iload_n (pc := 2) dX2_fits_2 rfl rfl ?_
    refine V_iconst (pc := 3) dX2_fits_3 ic_2 ?_
    refine V_iadd (pc := 4) dX2_fits_4 ?_
    refine V_aload_n (pc := 5) dX2_fits_5 rfl rfl ?_
    refine V_getr (pc := 6) (t := 1) fk_X2_19 rfl dX2_fits_6 kc_60 rf_2_1_60 ?_
    refine V_geti (pc := 9) fk_X2_48 rfl dX2_fits_9 kc_1 rf_9_1_1 ?_
    refine V_icmp_ge (pc := 12) (tgt := 69) dX2_fits_12 (by decide +kernel) ?_ ?_
    · refine V_exit r2 ?_
      refine V_iconst (pc := 69) dX2_fits_69 ic_1 ?_
      exact V_iretz (pc := 70) dX2_fits_70 rfl rfl (hk := fun h => h)
    · refine V_iconst (pc := 15) dX2_fits_15 ic_2 ?_
      refine V_aload_n (pc := 16) dX2_fits_16 rfl rfl ?_
      refine V_getr (pc := 17) (t := 1) fk_X2_19 rfl dX2_fits_17 kc_60 rf_2_1_60 ?_
      refine V_getr (pc := 20) (t := 2) fk_X2_53 rfl dX2_fits_20 kc_1 rf_9_0_1 ?_
      refine V_iload_n (pc := 23) dX2_fits_23 rfl rfl ?_
      refine V_iconst (pc := 24) dX2_fits_24 ic_1 ?_
      refine V_iadd (pc := 25) dX2_fits_25 ?_
      refine V_iald (pc := 26) (n := 400) dX2_fits_26 kc_2 lc_2 ?_
      refine V_ishl (pc := 27) dX2_fits_27 ?_
      refine V_iconst (pc := 28) dX2_fits_28 ic_1 ?_
      refine V_aload_n (pc := 29) dX2_fits_29 rfl rfl ?_
      refine V_getr (pc := 30) (t := 1) fk_X2_19 rfl dX2_fits_30 kc_60 rf_2_1_60 ?_
      refine V_getr (pc := 33) (t := 2) fk_X2_53 rfl dX2_fits_33 kc_1 rf_9_0_1 ?_
      refine V_iload_n (pc := 36) dX2_fits_36 rfl rfl ?_
      refine V_iald (pc := 37) (n := 400) dX2_fits_37 kc_2 lc_2 ?_
      refine V_ishl (pc := 38) dX2_fits_38 ?_
      refine V_isub (pc := 39) dX2_fits_39 ?_
      refine V_istore_n (pc := 40) (vs' := [some (.ref (wB w + 60)), some (.int p1), some (.int a2), some (.int ((shlI (2 : Int32) (σ 2 (ix (a2 + (1 : Int32))))) - (shlI (1 : Int32) (σ 2 (ix a2)))))]) dX2_fits_40 rfl (Nat.le_of_ble_eq_true rfl) (Nat.le_of_ble_eq_true rfl) rfl ?_
      refine V_iload_n (pc := 41) dX2_fits_41 rfl rfl ?_
      refine V_iload_n (pc := 42) dX2_fits_42 rfl rfl ?_
      refine V_iand (pc := 43) dX2_fits_43 ?_
      refine V_callSpi (pc := 44) (As := [.int (p1 &&& ((shlI (2 : Int32) (σ 2 (ix (a2 + (1 : Int32))))) - (shlI (1 : Int32) (σ 2 (ix a2)))))]) (rest := []) (c_J6_bitCount_0f7a4 w (p1 &&& ((shlI (2 : Int32) (σ 2 (ix (a2 + (1 : Int32))))) - (shlI (1 : Int32) (σ 2 (ix a2))))) σ) cs_X2_59 rfl rfl dX2_fits_44 ⟨Nat.le_of_ble_eq_true rfl, Nat.le_of_ble_eq_true rfl⟩ rfl rfl (Nat.le_of_ble_eq_true rfl) (Nat.le_of_ble_eq_true rfl) (Nat.le_of_ble_eq_true rfl) rfl (fun q44 => ?_)
      refine V_aload_n (pc := 47) dX2_fits_47 rfl rfl ?_
      refine V_getr (pc := 48) (t := 1) fk_X2_19 rfl dX2_fits_48 kc_60 rf_2_1_60 ?_
      refine V_getr (pc := 51) (t := 2) fk_X2_53 rfl dX2_fits_51 kc_1 rf_9_0_1 ?_
      refine V_iload_n (pc := 54) dX2_fits_54 rfl rfl ?_
      refine V_iconst (pc := 55) dX2_fits_55 ic_2 ?_
      refine V_iadd (pc := 56) dX2_fits_56 ?_
      refine V_iald (pc := 57) (n := 400) dX2_fits_57 kc_2 lc_2 ?_
      refine V_icmp_eq (pc := 58) (tgt := 63) dX2_fits_58 (by decide +kernel) ?_ ?_
      · refine V_iincC (pc := 63) (vs' := [some (.ref (wB w + 60)), some (.int p1), some (.int (a2 + (3 : Int32))), some (.int ((shlI (2 : Int32) (σ 2 (ix (a2 + (1 : Int32))))) - (shlI (1 : Int32) (σ 2 (ix a2)))))]) dX2_fits_63 (Nat.le_of_ble_eq_true rfl) rfl ic_3 rfl ?_
        refine V_goto (pc := 66) (tgt := 2) dX2_fits_66 (by decide +kernel) ?_
        refine V_sub (vs' := [some (.ref (wB w + 60)), some (.int p1), some (.int (a2 + (3 : Int32))), none]) (show vless _ _ from ⟨rfl, ⟨rfl, ⟨rfl, trivial⟩⟩⟩) rfl ?_
        exact V_back (b2 ((a2 + (3 : Int32))))
      · refine V_exit r2 ?_
        refine V_iconst (pc := 61) dX2_fits_61 ic_0 ?_
        exact V_iretz (pc := 62) dX2_fits_62 rfl rfl (hk := fun h => h)
  refine V_iconst (pc := 0) dX2_fits_0 ic_0 ?_
  refine V_istore_n (pc := 1) (vs' := [some (.ref (wB w + 60)), some (.int p1), some (.int (0 : Int32)), none]) dX2_fits_1 rfl (Nat.le_of_ble_eq_true rfl) (Nat.le_of_ble_eq_true rfl) rfl ?_
  exact hL2 n ((0 : Int32))
def J_X2_add_51 (n : Nat) (v1 : Int32) (v2 : Int32) (σ : MS) : Option ((Int32 × MS) ⊕ (Int32 × MS)) := some (.inl ((v2 + (1 : Int32)), σ))
def L_X2_add_22 (n : Nat) (v1 : Int32) (σ : MS) (a22 : Int32 × MS) : Option ((Int32 × MS) ⊕ (Int32 × MS)) := (if (a22.2 3 0) ≤ a22.1 then (some (0, a22.2)).map Sum.inr else (if (v1 &&& (shlI (1 : Int32) a22.1)) = 0 then J_X2_add_51 n v1 a22.1 a22.2 else (if inb a22.1 8 then (if inb a22.1 8 then ltM (mu a22.2 61 (ix a22.1) ((a22.2 61 (ix a22.1)) + (1 : Int32))) (fun s50 => J_X2_add_51 n v1 a22.1 s50) else none) else none)))
def f_X2_add (n : Nat) (p1 : Int32) (σ : MS) : Option (Int32 × MS) := (ltM (mu σ 60 3 ((σ 60 3) + (1 : Int32))) (fun s7 => (ltM (mu s7 60 4 ((s7 60 4) &&& p1)) (fun s17 => itr (L_X2_add_22 n p1 σ) n ((0 : Int32), s17)))))
set_option maxRecDepth 20000 in
set_option maxHeartbeats 2000000 in
theorem c_X2_add (w : TG) (n : Nat) (p1 : Int32) (σ : MS) : MC m_X2_add w [.ref (wB w + 60), .int p1] σ (f_X2_add n p1 σ) := by
  refine V_meth (by decide +kernel) (Nat.le_of_ble_eq_true rfl) (by intro v hv; simp only [List.mem_cons, List.not_mem_nil, or_false] at hv; rcases hv with rfl | rfl <;> rfl) (fun g x => ?_)
  show VV m_X2_add w g 0 0 (QM m_X2_add w g x) (fun b : Int32 × MS => b = x) 0 [some (.ref (wB w + 60)), some (.int p1), none] [] σ (f_X2_add n p1 σ)
  have hL22 : ∀  (n0 : Nat) (a : Int32 × MS), VV m_X2_add w g 0 0 (QM m_X2_add w g x) (fun b : Int32 × MS => b = x) 22 [some (.ref (wB w + 60)), some (.int p1), some (.int a.1)] [] a.2 (itr (L_X2_add_22 n p1 σ) n0 a) := by
    refine V_itr (vf := fun a : Int32 × MS => [some (.ref (wB w + 60)), some (.int p1), some (.int a.1)]) (sf := fun a : Int32 × MS => a.2) (fun κ22 b22 r22 a22 => ?_)
    obtain ⟨a22_1, a22_2⟩ := a22
    show VV m_X2_add w g 0 0 (QM m_X2_add w g x) κ22 22 [some (.ref (wB w + 60)), some (.int p1), some (.int a22_1)] [] a22_2 (L_X2_add_22 n p1 σ (a22_1, a22_2))
    have hJ51 : ∀ (v2 : Int32) (σ : MS), VV m_X2_add w g 0 0 (QM m_X2_add w g x) κ22 51 [some (.ref (wB w + 60)), some (.int p1), some (.int v2)] [] σ (J_X2_add_51 n p1 v2 σ) := by
      intro v2 σ
      refine V_iincC (pc := 51) (vs' := [some (.ref (wB w + 60)), some (.int p1), some (.int (v2 + (1 : Int32)))]) dX2_add_51 (Nat.le_of_ble_eq_true rfl) rfl ic_1 rfl ?_
      refine V_goto (pc := 54) (tgt := 22) dX2_add_54 (by decide +kernel) ?_
      exact V_back (b22 ((v2 + (1 : Int32)), σ))
    refine V_iload_n (pc := 22) dX2_add_22 rfl rfl ?_
    refine V_aload_n (pc := 23) dX2_add_23 rfl rfl ?_
    refine V_getr (pc := 24) (t := 3) fk_X2_15 rfl dX2_add_24 kc_60 rf_2_0_60 ?_
    refine V_geti (pc := 27) fk_X2_65 rfl dX2_add_27 kc_3 rf_4_0_3 ?_
    refine V_icmp_ge (pc := 30) (tgt := 57) dX2_add_30 (by decide +kernel) ?_ ?_
    · refine V_exit r22 ?_
      exact V_ret (pc := 57) dX2_add_57 rfl (hk := fun h => h)
    · refine V_iload_n (pc := 33) dX2_add_33 rfl rfl ?_
      refine V_iconst (pc := 34) dX2_add_34 ic_1 ?_
      refine V_iload_n (pc := 35) dX2_add_35 rfl rfl ?_
      refine V_ishl (pc := 36) dX2_add_36 ?_
      refine V_iand (pc := 37) dX2_add_37 ?_
      refine V_if_eq (pc := 38) (tgt := 51) dX2_add_38 (by decide +kernel) ?_ ?_
      · exact hJ51 a22_1 a22_2
      · refine V_aload_n (pc := 41) dX2_add_41 rfl rfl ?_
        refine V_getr (pc := 42) (t := 61) fk_X2_9 rfl dX2_add_42 kc_60 rf_2_2_60 ?_
        refine V_iload_n (pc := 45) dX2_add_45 rfl rfl ?_
        refine V_dup2 (pc := 46) dX2_add_46 rfl rfl ?_
        refine V_iald (pc := 47) (n := 8) dX2_add_47 kc_61 lc_61 ?_
        refine V_iconst (pc := 48) dX2_add_48 ic_1 ?_
        refine V_iadd (pc := 49) dX2_add_49 ?_
        refine V_iast (pc := 50) (n := 8) dX2_add_50 kc_61 lc_61 (fun s50 => ?_)
        exact hJ51 a22_1 s50
  refine V_aload_n (pc := 0) dX2_add_0 rfl rfl ?_
  refine V_dup (pc := 1) dX2_add_1 rfl ?_
  refine V_geti (pc := 2) fk_X2_27 rfl dX2_add_2 kc_60 rf_2_3_60 ?_
  refine V_iconst (pc := 5) dX2_add_5 ic_1 ?_
  refine V_iadd (pc := 6) dX2_add_6 ?_
  refine V_puti (pc := 7) fp_X2_27 rfl dX2_add_7 kc_60 rf_2_3_60 (fun s7 => ?_)
  refine V_aload_n (pc := 10) dX2_add_10 rfl rfl ?_
  refine V_dup (pc := 11) dX2_add_11 rfl ?_
  refine V_geti (pc := 12) fk_X2_37 rfl dX2_add_12 kc_60 rf_2_4_60 ?_
  refine V_iload_n (pc := 15) dX2_add_15 rfl rfl ?_
  refine V_iand (pc := 16) dX2_add_16 ?_
  refine V_puti (pc := 17) fp_X2_37 rfl dX2_add_17 kc_60 rf_2_4_60 (fun s17 => ?_)
  refine V_iconst (pc := 20) dX2_add_20 ic_0 ?_
  refine V_istore_n (pc := 21) (vs' := [some (.ref (wB w + 60)), some (.int p1), some (.int (0 : Int32))]) dX2_add_21 rfl (Nat.le_of_ble_eq_true rfl) (Nat.le_of_ble_eq_true rfl) rfl ?_
  exact hL22 n ((0 : Int32), s17)
def J_X2_weigh_90 (n : Nat)  (σ : MS) : Option (Int32 × MS) := some ((1 : Int32), σ)
def J_X2_weigh_72 (n : Nat) (v1 : Int32) (σ : MS) : Option ((Int32 × MS) ⊕ (Int32 × MS)) := some (.inl ((v1 + (1 : Int32)), σ))
def L_X2_weigh_48 (n : Nat)  (σ : MS) (a48 : Int32 × MS) : Option ((Int32 × MS) ⊕ (Int32 × MS)) := ((f_X4_everybody 3 a48.2).bind (fun q53 => (if q53 < a48.1 then ((if (a48.2 60 3) = 0 then (ltM (mu a48.2 60 4 (0 : Int32)) (fun s87 => J_X2_weigh_90 n  s87)) else J_X2_weigh_90 n  a48.2)).map Sum.inr else ((f_X2_fits n a48.1 a48.2).bind (fun q61 => (if q61 = 0 then J_X2_weigh_72 n a48.1 a48.2 else ((f_X2_add n a48.1 a48.2).bind (fun q69 => J_X2_weigh_72 n a48.1 q69.2))))))))
def L_X2_weigh_27 (n : Nat)  (σ : MS) (a27 : Int32 × MS) : Option ((Int32 × MS) ⊕ (Int32 × MS)) := (if (8 : Int32) ≤ a27.1 then (itr (L_X2_weigh_48 n  σ) n ((0 : Int32), a27.2)).map Sum.inr else (if inb a27.1 8 then ltM (mu a27.2 61 (ix a27.1) (0 : Int32)) (fun s39 => some (.inl ((a27.1 + (1 : Int32)), s39))) else none))
def f_X2_weigh (n : Nat)  (σ : MS) : Option (Int32 × MS) := ((f_X2_isTold n  σ).bind (fun q1 => (if q1 = 0 then some ((0 : Int32), σ) else (ltM (mu σ 60 3 (0 : Int32)) (fun s11 => ((f_X4_everybody 3 s11).bind (fun q19 => (ltM (mu s11 60 4 q19) (fun s22 => itr (L_X2_weigh_27 n  σ) n ((0 : Int32), s22))))))))))
set_option maxRecDepth 20000 in
set_option maxHeartbeats 2000000 in
theorem c_X2_weigh (w : TG) (n : Nat)  (σ : MS) : MC m_X2_weigh w [.ref (wB w + 60)] σ (f_X2_weigh n  σ) := by
  refine V_meth (by decide +kernel) (Nat.le_of_ble_eq_true rfl) (by intro v hv; simp only [List.mem_cons, List.not_mem_nil, or_false] at hv; subst hv; rfl) (fun g x => ?_)
  show VV m_X2_weigh w g 0 0 (QM m_X2_weigh w g x) (fun b : Int32 × MS => b = x) 0 [some (.ref (wB w + 60)), none] [] σ (f_X2_weigh n  σ)
  have hJ90 : ∀ (σ : MS), VV m_X2_weigh w g 0 0 (QM m_X2_weigh w g x) (fun b : Int32 × MS => b = x) 90 [none, none] [] σ (J_X2_weigh_90 n  σ) := by
    intro σ
    refine V_iconst (pc := 90) dX2_weigh_90 ic_1 ?_
    exact V_iretz (pc := 91) dX2_weigh_91 rfl rfl (hk := fun h => h)
  have hL48 : ∀  (n0 : Nat) (a : Int32 × MS), VV m_X2_weigh w g 0 0 (QM m_X2_weigh w g x) (fun b : Int32 × MS => b = x) 48 [some (.ref (wB w + 60)), some (.int a.1)] [] a.2 (itr (L_X2_weigh_48 n  σ) n0 a) := by
    refine V_itr (vf := fun a : Int32 × MS => [some (.ref (wB w + 60)), some (.int a.1)]) (sf := fun a : Int32 × MS => a.2) (fun κ48 b48 r48 a48 => ?_)
    obtain ⟨a48_1, a48_2⟩ := a48
    show VV m_X2_weigh w g 0 0 (QM m_X2_weigh w g x) κ48 48 [some (.ref (wB w + 60)), some (.int a48_1)] [] a48_2 (L_X2_weigh_48 n  σ (a48_1, a48_2))
    have hJ72 : ∀ (v1 : Int32) (σ : MS), VV m_X2_weigh w g 0 0 (QM m_X2_weigh w g x) κ48 72 [some (.ref (wB w + 60)), some (.int v1)] [] σ (J_X2_weigh_72 n v1 σ) := by
      intro v1 σ
      refine V_iincC (pc := 72) (vs' := [some (.ref (wB w + 60)), some (.int (v1 + (1 : Int32)))]) dX2_weigh_72 (Nat.le_of_ble_eq_true rfl) rfl ic_1 rfl ?_
      refine V_goto (pc := 75) (tgt := 48) dX2_weigh_75 (by decide +kernel) ?_
      exact V_back (b48 ((v1 + (1 : Int32)), σ))
    refine V_iload_n (pc := 48) dX2_weigh_48 rfl rfl ?_
    refine V_aload_n (pc := 49) dX2_weigh_49 rfl rfl ?_
    refine V_getr (pc := 50) (t := 3) fk_X2_15 rfl dX2_weigh_50 kc_60 rf_2_0_60 ?_
    refine V_callVpi (pc := 53) (As := []) (rest := [.int a48_1]) (c_X4_everybody w 3 kc_3 a48_2) cw_X2_31 rfl rfl dX2_weigh_53 kc_3 ci_4 ⟨Nat.le_of_ble_eq_true rfl, Nat.le_of_ble_eq_true rfl⟩ rfl rfl (Nat.le_of_ble_eq_true rfl) (Nat.le_of_ble_eq_true rfl) (Nat.le_of_ble_eq_true rfl) rfl (fun q53 => ?_)
    refine V_icmp_gt (pc := 56) (tgt := 78) dX2_weigh_56 (by decide +kernel) ?_ ?_
    · refine V_exit r48 ?_
      refine V_aload_n (pc := 78) dX2_weigh_78 rfl rfl ?_
      refine V_geti (pc := 79) fk_X2_27 rfl dX2_weigh_79 kc_60 rf_2_3_60 ?_
      refine V_if_ne (pc := 82) (tgt := 90) dX2_weigh_82 (by decide +kernel) ?_ ?_
      · refine V_sub (vs' := [none, none]) (show vless _ _ from trivial) rfl ?_
        exact hJ90 a48_2
      · refine V_aload_n (pc := 85) dX2_weigh_85 rfl rfl ?_
        refine V_iconst (pc := 86) dX2_weigh_86 ic_0 ?_
        refine V_puti (pc := 87) fp_X2_37 rfl dX2_weigh_87 kc_60 rf_2_4_60 (fun s87 => ?_)
        refine V_sub (vs' := [none, none]) (show vless _ _ from trivial) rfl ?_
        exact hJ90 s87
    · refine V_aload_n (pc := 59) dX2_weigh_59 rfl rfl ?_
      refine V_iload_n (pc := 60) dX2_weigh_60 rfl rfl ?_
      refine V_callVpi (pc := 61) (As := [.int a48_1]) (rest := []) (c_X2_fits w n a48_1 a48_2) cw_X2_40 rfl rfl dX2_weigh_61 kc_60 ci_2 ⟨Nat.le_of_ble_eq_true rfl, Nat.le_of_ble_eq_true rfl⟩ rfl rfl (Nat.le_of_ble_eq_true rfl) (Nat.le_of_ble_eq_true rfl) (Nat.le_of_ble_eq_true rfl) rfl (fun q61 => ?_)
      refine V_if_eq (pc := 64) (tgt := 72) dX2_weigh_64 (by decide +kernel) ?_ ?_
      · exact hJ72 a48_1 a48_2
      · refine V_aload_n (pc := 67) dX2_weigh_67 rfl rfl ?_
        refine V_iload_n (pc := 68) dX2_weigh_68 rfl rfl ?_
        refine V_callVv (pc := 69) (As := [.int a48_1]) (rest := []) (c_X2_add w n a48_1 a48_2) cw_X2_44 rfl rfl dX2_weigh_69 kc_60 ci_2 ⟨Nat.le_of_ble_eq_true rfl, Nat.le_of_ble_eq_true rfl⟩ rfl rfl (Nat.le_of_ble_eq_true rfl) (Nat.le_of_ble_eq_true rfl) (Nat.le_of_ble_eq_true rfl) rfl (fun q69 => ?_)
        exact hJ72 a48_1 q69.2
  have hL27 : ∀  (n0 : Nat) (a : Int32 × MS), VV m_X2_weigh w g 0 0 (QM m_X2_weigh w g x) (fun b : Int32 × MS => b = x) 27 [some (.ref (wB w + 60)), some (.int a.1)] [] a.2 (itr (L_X2_weigh_27 n  σ) n0 a) := by
    refine V_itr (vf := fun a : Int32 × MS => [some (.ref (wB w + 60)), some (.int a.1)]) (sf := fun a : Int32 × MS => a.2) (fun κ27 b27 r27 a27 => ?_)
    obtain ⟨a27_1, a27_2⟩ := a27
    show VV m_X2_weigh w g 0 0 (QM m_X2_weigh w g x) κ27 27 [some (.ref (wB w + 60)), some (.int a27_1)] [] a27_2 (L_X2_weigh_27 n  σ (a27_1, a27_2))
    refine V_iload_n (pc := 27) dX2_weigh_27 rfl rfl ?_
    refine V_bipush (pc := 28) dX2_weigh_28 bp_8 ?_
    refine V_icmp_ge (pc := 30) (tgt := 46) dX2_weigh_30 (by decide +kernel) ?_ ?_
    · refine V_exit r27 ?_
      refine V_iconst (pc := 46) dX2_weigh_46 ic_0 ?_
      refine V_istore_n (pc := 47) (vs' := [some (.ref (wB w + 60)), some (.int (0 : Int32))]) dX2_weigh_47 rfl (Nat.le_of_ble_eq_true rfl) (Nat.le_of_ble_eq_true rfl) rfl ?_
      exact hL48 n ((0 : Int32), a27_2)
    · refine V_aload_n (pc := 33) dX2_weigh_33 rfl rfl ?_
      refine V_getr (pc := 34) (t := 61) fk_X2_9 rfl dX2_weigh_34 kc_60 rf_2_2_60 ?_
      refine V_iload_n (pc := 37) dX2_weigh_37 rfl rfl ?_
      refine V_iconst (pc := 38) dX2_weigh_38 ic_0 ?_
      refine V_iast (pc := 39) (n := 8) dX2_weigh_39 kc_61 lc_61 (fun s39 => ?_)
      refine V_iincC (pc := 40) (vs' := [some (.ref (wB w + 60)), some (.int (a27_1 + (1 : Int32)))]) dX2_weigh_40 (Nat.le_of_ble_eq_true rfl) rfl ic_1 rfl ?_
      refine V_goto (pc := 43) (tgt := 27) dX2_weigh_43 (by decide +kernel) ?_
      exact V_back (b27 ((a27_1 + (1 : Int32)), s39))
  refine V_aload_n (pc := 0) dX2_weigh_0 rfl rfl ?_
  refine V_callVpi (pc := 1) (As := []) (rest := []) (c_X2_isTold w n  σ) cw_X2_23 rfl rfl dX2_weigh_1 kc_60 ci_2 ⟨Nat.le_of_ble_eq_true rfl, Nat.le_of_ble_eq_true rfl⟩ rfl rfl (Nat.le_of_ble_eq_true rfl) (Nat.le_of_ble_eq_true rfl) (Nat.le_of_ble_eq_true rfl) rfl (fun q1 => ?_)
  refine V_if_ne (pc := 4) (tgt := 9) dX2_weigh_4 (by decide +kernel) ?_ ?_
  · refine V_aload_n (pc := 9) dX2_weigh_9 rfl rfl ?_
    refine V_iconst (pc := 10) dX2_weigh_10 ic_0 ?_
    refine V_puti (pc := 11) fp_X2_27 rfl dX2_weigh_11 kc_60 rf_2_3_60 (fun s11 => ?_)
    refine V_aload_n (pc := 14) dX2_weigh_14 rfl rfl ?_
    refine V_aload_n (pc := 15) dX2_weigh_15 rfl rfl ?_
    refine V_getr (pc := 16) (t := 3) fk_X2_15 rfl dX2_weigh_16 kc_60 rf_2_0_60 ?_
    refine V_callVpi (pc := 19) (As := []) (rest := [.ref (wB w + 60)]) (c_X4_everybody w 3 kc_3 s11) cw_X2_31 rfl rfl dX2_weigh_19 kc_3 ci_4 ⟨Nat.le_of_ble_eq_true rfl, Nat.le_of_ble_eq_true rfl⟩ rfl rfl (Nat.le_of_ble_eq_true rfl) (Nat.le_of_ble_eq_true rfl) (Nat.le_of_ble_eq_true rfl) rfl (fun q19 => ?_)
    refine V_puti (pc := 22) fp_X2_37 rfl dX2_weigh_22 kc_60 rf_2_4_60 (fun s22 => ?_)
    refine V_iconst (pc := 25) dX2_weigh_25 ic_0 ?_
    refine V_istore_n (pc := 26) (vs' := [some (.ref (wB w + 60)), some (.int (0 : Int32))]) dX2_weigh_26 rfl (Nat.le_of_ble_eq_true rfl) (Nat.le_of_ble_eq_true rfl) rfl ?_
    exact hL27 n ((0 : Int32), s22)
  · refine V_iconst (pc := 7) dX2_weigh_7 ic_0 ?_
    exact V_iretz (pc := 8) dX2_weigh_8 rfl rfl (hk := fun h => h)
def J_X2_parting_65 (n : Nat) (v1 : Int32) (v2 : Int32) (v3 : Int32) (σ : MS) : Option ((Int32 × Int32 × Int32) ⊕ (Int32)) := some (.inl (v1, v2, (v3 + (1 : Int32))))
def L_X2_parting_21 (n : Nat)  (σ : MS) (a21 : Int32 × Int32 × Int32) : Option ((Int32 × Int32 × Int32) ⊕ (Int32)) := (if (σ 3 0) ≤ a21.2.2 then (some a21.2.1).map Sum.inr else (if inb a21.2.2 8 then (if inb a21.2.2 8 then (if a21.1 ≤ (mxI (σ 61 (ix a21.2.2)) ((σ 60 3) - (σ 61 (ix a21.2.2)))) then J_X2_parting_65 n a21.1 a21.2.1 a21.2.2 σ else J_X2_parting_65 n (mxI (σ 61 (ix a21.2.2)) ((σ 60 3) - (σ 61 (ix a21.2.2)))) a21.2.2 a21.2.2 σ) else none) else none))
def f_X2_parting (n : Nat)  (σ : MS) : Option (Int32) := (if (2 : Int32) ≤ (σ 60 3) then itr (L_X2_parting_21 n  σ) n (((σ 60 3) + (1 : Int32)), (-1 : Int32), (0 : Int32)) else some (-1 : Int32))
set_option maxRecDepth 20000 in
set_option maxHeartbeats 2000000 in
theorem c_X2_parting (w : TG) (n : Nat)  (σ : MS) : MC m_X2_parting w [.ref (wB w + 60)] σ ((f_X2_parting n  σ).map (fun r => (r, σ))) := by
  refine V_methp (by decide +kernel) (Nat.le_of_ble_eq_true rfl) (by intro v hv; simp only [List.mem_cons, List.not_mem_nil, or_false] at hv; subst hv; rfl) (fun g x => ?_)
  show VV m_X2_parting w g 0 0 (QM m_X2_parting w g x) (fun b : Int32 => (b, σ) = x) 0 [some (.ref (wB w + 60)), none, none, none, none] [] σ (f_X2_parting n  σ)
  have hL21 : ∀  (n0 : Nat) (a : Int32 × Int32 × Int32), VV m_X2_parting w g 0 0 (QM m_X2_parting w g x) (fun b : Int32 => (b, σ) = x) 21 [some (.ref (wB w + 60)), some (.int a.1), some (.int a.2.1), some (.int a.2.2), none] [] σ (itr (L_X2_parting_21 n  σ) n0 a) := by
    refine V_itr (vf := fun a : Int32 × Int32 × Int32 => [some (.ref (wB w + 60)), some (.int a.1), some (.int a.2.1), some (.int a.2.2), none]) (sf := fun a : Int32 × Int32 × Int32 => σ) (fun κ21 b21 r21 a21 => ?_)
    obtain ⟨a21_1, a21_2, a21_3⟩ := a21
    show VV m_X2_parting w g 0 0 (QM m_X2_parting w g x) κ21 21 [some (.ref (wB w + 60)), some (.int a21_1), some (.int a21_2), some (.int a21_3), none] [] σ (L_X2_parting_21 n  σ (a21_1, a21_2, a21_3))
    have hJ65 : ∀ (v1 : Int32) (v2 : Int32) (v3 : Int32), VV m_X2_parting w g 0 0 (QM m_X2_parting w g x) κ21 65 [some (.ref (wB w + 60)), some (.int v1), some (.int v2), some (.int v3), none] [] σ (J_X2_parting_65 n v1 v2 v3 σ) := by
      intro v1 v2 v3
      refine V_iincC (pc := 65) (vs' := [some (.ref (wB w + 60)), some (.int v1), some (.int v2), some (.int (v3 + (1 : Int32))), none]) dX2_parting_65 (Nat.le_of_ble_eq_true rfl) rfl ic_1 rfl ?_
      refine V_goto (pc := 68) (tgt := 21) dX2_parting_68 (by decide +kernel) ?_
      exact V_back (b21 (v1, v2, (v3 + (1 : Int32))))
    refine V_iload_n (pc := 21) dX2_parting_21 rfl rfl ?_
    refine V_aload_n (pc := 22) dX2_parting_22 rfl rfl ?_
    refine V_getr (pc := 23) (t := 3) fk_X2_15 rfl dX2_parting_23 kc_60 rf_2_0_60 ?_
    refine V_geti (pc := 26) fk_X2_65 rfl dX2_parting_26 kc_3 rf_4_0_3 ?_
    refine V_icmp_ge (pc := 29) (tgt := 71) dX2_parting_29 (by decide +kernel) ?_ ?_
    · refine V_exit r21 ?_
      refine V_iload_n (pc := 71) dX2_parting_71 rfl rfl ?_
      exact V_ireti (pc := 72) dX2_parting_72 rfl (hk := fun h => h)
    · refine V_aload_n (pc := 32) dX2_parting_32 rfl rfl ?_
      refine V_getr (pc := 33) (t := 61) fk_X2_9 rfl dX2_parting_33 kc_60 rf_2_2_60 ?_
      refine V_iload_n (pc := 36) dX2_parting_36 rfl rfl ?_
      refine V_iald (pc := 37) (n := 8) dX2_parting_37 kc_61 lc_61 ?_
      refine V_aload_n (pc := 38) dX2_parting_38 rfl rfl ?_
      refine V_geti (pc := 39) fk_X2_27 rfl dX2_parting_39 kc_60 rf_2_3_60 ?_
      refine V_aload_n (pc := 42) dX2_parting_42 rfl rfl ?_
      refine V_getr (pc := 43) (t := 61) fk_X2_9 rfl dX2_parting_43 kc_60 rf_2_2_60 ?_
      refine V_iload_n (pc := 46) dX2_parting_46 rfl rfl ?_
      refine V_iald (pc := 47) (n := 8) dX2_parting_47 kc_61 lc_61 ?_
      refine V_isub (pc := 48) dX2_parting_48 ?_
      refine V_mmax (pc := 49) dX2_parting_49 rfl mw_X2_68 (Nat.le_of_ble_eq_true rfl) (Nat.le_of_ble_eq_true rfl) (Nat.le_of_ble_eq_true rfl) (Nat.le_of_ble_eq_true rfl) ?_
      refine V_istore (pc := 52) (vs' := [some (.ref (wB w + 60)), some (.int a21_1), some (.int a21_2), some (.int a21_3), some (.int (mxI (σ 61 (ix a21_3)) ((σ 60 3) - (σ 61 (ix a21_3)))))]) dX2_parting_52 (Nat.le_of_ble_eq_true rfl) (Nat.le_of_ble_eq_true rfl) rfl ?_
      refine V_iload (pc := 54) dX2_parting_54 rfl ?_
      refine V_iload_n (pc := 56) dX2_parting_56 rfl rfl ?_
      refine V_icmp_ge (pc := 57) (tgt := 65) dX2_parting_57 (by decide +kernel) ?_ ?_
      · refine V_sub (vs' := [some (.ref (wB w + 60)), some (.int a21_1), some (.int a21_2), some (.int a21_3), none]) (show vless _ _ from ⟨rfl, ⟨rfl, ⟨rfl, ⟨rfl, trivial⟩⟩⟩⟩) rfl ?_
        exact hJ65 a21_1 a21_2 a21_3
      · refine V_iload (pc := 60) dX2_parting_60 rfl ?_
        refine V_istore_n (pc := 62) (vs' := [some (.ref (wB w + 60)), some (.int (mxI (σ 61 (ix a21_3)) ((σ 60 3) - (σ 61 (ix a21_3))))), some (.int a21_2), some (.int a21_3), some (.int (mxI (σ 61 (ix a21_3)) ((σ 60 3) - (σ 61 (ix a21_3)))))]) dX2_parting_62 rfl (Nat.le_of_ble_eq_true rfl) (Nat.le_of_ble_eq_true rfl) rfl ?_
        refine V_iload_n (pc := 63) dX2_parting_63 rfl rfl ?_
        refine V_istore_n (pc := 64) (vs' := [some (.ref (wB w + 60)), some (.int (mxI (σ 61 (ix a21_3)) ((σ 60 3) - (σ 61 (ix a21_3))))), some (.int a21_3), some (.int a21_3), some (.int (mxI (σ 61 (ix a21_3)) ((σ 60 3) - (σ 61 (ix a21_3)))))]) dX2_parting_64 rfl (Nat.le_of_ble_eq_true rfl) (Nat.le_of_ble_eq_true rfl) rfl ?_
        refine V_sub (vs' := [some (.ref (wB w + 60)), some (.int (mxI (σ 61 (ix a21_3)) ((σ 60 3) - (σ 61 (ix a21_3))))), some (.int a21_3), some (.int a21_3), none]) (show vless _ _ from ⟨rfl, ⟨rfl, ⟨rfl, ⟨rfl, trivial⟩⟩⟩⟩) rfl ?_
        exact hJ65 (mxI (σ 61 (ix a21_3)) ((σ 60 3) - (σ 61 (ix a21_3)))) a21_3 a21_3
  refine V_aload_n (pc := 0) dX2_parting_0 rfl rfl ?_
  refine V_geti (pc := 1) fk_X2_27 rfl dX2_parting_1 kc_60 rf_2_3_60 ?_
  refine V_iconst (pc := 4) dX2_parting_4 ic_2 ?_
  refine V_icmp_ge (pc := 5) (tgt := 10) dX2_parting_5 (by decide +kernel) ?_ ?_
  · refine V_aload_n (pc := 10) dX2_parting_10 rfl rfl ?_
    refine V_geti (pc := 11) fk_X2_27 rfl dX2_parting_11 kc_60 rf_2_3_60 ?_
    refine V_iconst (pc := 14) dX2_parting_14 ic_1 ?_
    refine V_iadd (pc := 15) dX2_parting_15 ?_
    refine V_istore_n (pc := 16) (vs' := [some (.ref (wB w + 60)), some (.int ((σ 60 3) + (1 : Int32))), none, none, none]) dX2_parting_16 rfl (Nat.le_of_ble_eq_true rfl) (Nat.le_of_ble_eq_true rfl) rfl ?_
    refine V_iconst (pc := 17) dX2_parting_17 ic_m1 ?_
    refine V_istore_n (pc := 18) (vs' := [some (.ref (wB w + 60)), some (.int ((σ 60 3) + (1 : Int32))), some (.int (-1 : Int32)), none, none]) dX2_parting_18 rfl (Nat.le_of_ble_eq_true rfl) (Nat.le_of_ble_eq_true rfl) rfl ?_
    refine V_iconst (pc := 19) dX2_parting_19 ic_0 ?_
    refine V_istore_n (pc := 20) (vs' := [some (.ref (wB w + 60)), some (.int ((σ 60 3) + (1 : Int32))), some (.int (-1 : Int32)), some (.int (0 : Int32)), none]) dX2_parting_20 rfl (Nat.le_of_ble_eq_true rfl) (Nat.le_of_ble_eq_true rfl) rfl ?_
    exact hL21 n (((σ 60 3) + (1 : Int32)), (-1 : Int32), (0 : Int32))
  · refine V_iconst (pc := 8) dX2_parting_8 ic_m1 ?_
    exact V_ireti (pc := 9) dX2_parting_9 rfl (hk := fun h => h)
