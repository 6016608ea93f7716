def m_L_house : MD := (yL_house, cL_house, 3, (some .int), 10, 337, 1, 6)
def m_L_law : MD := (yL_law, cL_law, 3, (some .int), 40, 1121, 1, 6)
def m_L_person : MD := (yL_person, cL_person, 5, (some .int), 10, 143, 2, 12)
def m_L_liking : MD := (yL_liking, cL_liking, 5, (some .int), 11, 165, 3, 18)
def m_L_bond : MD := (yL_bond, cL_bond, 6, (some .int), 11, 166, 3, 18)
def m_L_told : MD := (yL_told, cL_told, 8, (some .int), 11, 252, 6, 36)
def m_L_share : MD := (yL_share, cL_share, 5, (some .int), 11, 329, 2, 12)
def m_L_wash : MD := (yL_wash, cL_wash, 5, (some .int), 11, 264, 3, 18)
def m_L_go : MD := (yL_go, cL_go, 5, (some .int), 10, 264, 2, 12)
def m_L_strew : MD := (yL_strew, cL_strew, 5, (some .int), 10, 264, 1, 6)
def m_L_wed : MD := (yL_wed, cL_wed, 4, (some .int), 11, 263, 4, 24)
def m_L_clear : MD := (yL_clear, cL_clear, 4, (some .int), 10, 263, 1, 6)
def m_L_days : MD := (yL_days, cL_days, 4, (some .int), 10, 294, 1, 6)
def m_L_free : MD := (yL_free, cL_free, 4, (some .int), 10, 144, 1, 6)
def m_L_would : MD := (yL_would, cL_would, 5, (some .int), 11, 329, 2, 12)
def m_L_widest : MD := (yL_widest, cL_widest, 5, (some .int), 10, 321, 2, 12)
def m_L_parts : MD := (yL_parts, cL_parts, 5, (some .int), 11, 246, 3, 18)
def m_L_steady : MD := (yL_steady, cL_steady, 4, (some .int), 38, 977, 1, 6)
def m_L_between : MD := (yL_between, cL_between, 5, (some .int), 10, 143, 2, 12)
def m_L_drank : MD := (yL_drank, cL_drank, 4, (some .int), 10, 142, 1, 6)
def m_L_look : MD := (yL_look, cL_look, 3, (some .int), 10, 244, 1, 6)
def m_L_way : MD := (yL_way, cL_way, 5, (some .int), 10, 246, 2, 12)
def m_L_unseen : MD := (yL_unseen, cL_unseen, 5, (some .int), 11, 274, 3, 18)
def m_L_trap : MD := (yL_trap, cL_trap, 5, (some .int), 10, 146, 1, 6)
def m_L_oath : MD := (yL_oath, cL_oath, 5, (some .int), 10, 143, 1, 6)
def m_L_shortest : MD := (yL_shortest, cL_shortest, 4, (some .int), 10, 142, 1, 6)
def m_L_alibi : MD := (yL_alibi, cL_alibi, 4, (some .int), 10, 144, 1, 6)
def m_L_odds : MD := (yL_odds, cL_odds, 5, (some .int), 11, 165, 3, 18)
def m_L_ahead : MD := (yL_ahead, cL_ahead, 6, (some .int), 10, 295, 2, 12)
def m_L_calm : MD := (yL_calm, cL_calm, 4, (some .int), 10, 293, 1, 6)
def m_L_trial : MD := (yL_trial, cL_trial, 5, (some .int), 10, 317, 1, 6)
def m_L_span : MD := (yL_span, cL_span, 5, (some .int), 10, 319, 1, 6)
def m_L_led : MD := (yL_led, cL_led, 5, (some .int), 10, 246, 1, 6)
def m_L_log : MD := (yL_log, cL_log, 5, (some .int), 9, 242, 1, 6)
theorem wm_X11_house : wmp m_X11_house 0 := ⟨gx 685 (by decide +kernel) (by decide +kernel), gx 686 (by decide +kernel) (by decide +kernel), gx 127 (by decide +kernel) (by decide +kernel), gx 687 (by decide +kernel) (by decide +kernel), by decide +kernel, by decide +kernel, by decide +kernel⟩
theorem cw_L_7 : cwp RL 7 m_X11_house 0 := cwp_of wm_X11_house (gx 684 (by decide +kernel) (by decide +kernel))
theorem wm_X11_law : wmp m_X11_law 0 := ⟨gx 922 (by decide +kernel) (by decide +kernel), gx 923 (by decide +kernel) (by decide +kernel), gx 127 (by decide +kernel) (by decide +kernel), gx 924 (by decide +kernel) (by decide +kernel), by decide +kernel, by decide +kernel, by decide +kernel⟩
theorem cw_L_17 : cwp RL 17 m_X11_law 0 := cwp_of wm_X11_law (gx 921 (by decide +kernel) (by decide +kernel))
theorem wm_X11_person : wmp m_X11_person 2 := ⟨gx 978 (by decide +kernel) (by decide +kernel), gx 979 (by decide +kernel) (by decide +kernel), gx 127 (by decide +kernel) (by decide +kernel), gx 980 (by decide +kernel) (by decide +kernel), by decide +kernel, by decide +kernel, by decide +kernel⟩
theorem cw_L_20 : cwp RL 20 m_X11_person 2 := cwp_of wm_X11_person (gx 977 (by decide +kernel) (by decide +kernel))
theorem wm_X11_liking : wmp m_X11_liking 2 := ⟨gx 1027 (by decide +kernel) (by decide +kernel), gx 1028 (by decide +kernel) (by decide +kernel), gx 127 (by decide +kernel) (by decide +kernel), gx 1029 (by decide +kernel) (by decide +kernel), by decide +kernel, by decide +kernel, by decide +kernel⟩
theorem cw_L_28 : cwp RL 28 m_X11_liking 2 := cwp_of wm_X11_liking (gx 1026 (by decide +kernel) (by decide +kernel))
theorem wm_X11_bond : wmp m_X11_bond 3 := ⟨gx 1039 (by decide +kernel) (by decide +kernel), gx 1040 (by decide +kernel) (by decide +kernel), gx 127 (by decide +kernel) (by decide +kernel), gx 1041 (by decide +kernel) (by decide +kernel), by decide +kernel, by decide +kernel, by decide +kernel⟩
theorem cw_L_31 : cwp RL 31 m_X11_bond 3 := cwp_of wm_X11_bond (gx 1038 (by decide +kernel) (by decide +kernel))
theorem wm_X11_told : wmp m_X11_told 5 := ⟨gx 1048 (by decide +kernel) (by decide +kernel), gx 1049 (by decide +kernel) (by decide +kernel), gx 127 (by decide +kernel) (by decide +kernel), gx 1050 (by decide +kernel) (by decide +kernel), by decide +kernel, by decide +kernel, by decide +kernel⟩
theorem cw_L_35 : cwp RL 35 m_X11_told 5 := cwp_of wm_X11_told (gx 1047 (by decide +kernel) (by decide +kernel))
theorem wm_X11_share : wmp m_X11_share 2 := ⟨gx 1091 (by decide +kernel) (by decide +kernel), gx 1092 (by decide +kernel) (by decide +kernel), gx 127 (by decide +kernel) (by decide +kernel), gx 1093 (by decide +kernel) (by decide +kernel), by decide +kernel, by decide +kernel, by decide +kernel⟩
theorem cw_L_39 : cwp RL 39 m_X11_share 2 := cwp_of wm_X11_share (gx 1090 (by decide +kernel) (by decide +kernel))
theorem wm_X11_wash : wmp m_X11_wash 2 := ⟨gx 1132 (by decide +kernel) (by decide +kernel), gx 1133 (by decide +kernel) (by decide +kernel), gx 127 (by decide +kernel) (by decide +kernel), gx 1134 (by decide +kernel) (by decide +kernel), by decide +kernel, by decide +kernel, by decide +kernel⟩
theorem cw_L_42 : cwp RL 42 m_X11_wash 2 := cwp_of wm_X11_wash (gx 1131 (by decide +kernel) (by decide +kernel))
theorem wm_X11_go : wmp m_X11_go 2 := ⟨gx 1140 (by decide +kernel) (by decide +kernel), gx 1141 (by decide +kernel) (by decide +kernel), gx 127 (by decide +kernel) (by decide +kernel), gx 1142 (by decide +kernel) (by decide +kernel), by decide +kernel, by decide +kernel, by decide +kernel⟩
theorem cw_L_45 : cwp RL 45 m_X11_go 2 := cwp_of wm_X11_go (gx 1139 (by decide +kernel) (by decide +kernel))
theorem wm_X11_strew : wmp m_X11_strew 2 := ⟨gx 1151 (by decide +kernel) (by decide +kernel), gx 1152 (by decide +kernel) (by decide +kernel), gx 127 (by decide +kernel) (by decide +kernel), gx 1153 (by decide +kernel) (by decide +kernel), by decide +kernel, by decide +kernel, by decide +kernel⟩
theorem cw_L_48 : cwp RL 48 m_X11_strew 2 := cwp_of wm_X11_strew (gx 1150 (by decide +kernel) (by decide +kernel))
theorem wm_X11_wed : wmp m_X11_wed 2 := ⟨gx 1159 (by decide +kernel) (by decide +kernel), gx 1160 (by decide +kernel) (by decide +kernel), gx 127 (by decide +kernel) (by decide +kernel), gx 1161 (by decide +kernel) (by decide +kernel), by decide +kernel, by decide +kernel, by decide +kernel⟩
theorem cw_L_52 : cwp RL 52 m_X11_wed 2 := cwp_of wm_X11_wed (gx 1158 (by decide +kernel) (by decide +kernel))
theorem wm_X11_clear : wmp m_X11_clear 1 := ⟨gx 1182 (by decide +kernel) (by decide +kernel), gx 1183 (by decide +kernel) (by decide +kernel), gx 127 (by decide +kernel) (by decide +kernel), gx 1184 (by decide +kernel) (by decide +kernel), by decide +kernel, by decide +kernel, by decide +kernel⟩
theorem cw_L_58 : cwp RL 58 m_X11_clear 1 := cwp_of wm_X11_clear (gx 1181 (by decide +kernel) (by decide +kernel))
theorem wm_X11_days : wmp m_X11_days 1 := ⟨gx 1189 (by decide +kernel) (by decide +kernel), gx 1190 (by decide +kernel) (by decide +kernel), gx 127 (by decide +kernel) (by decide +kernel), gx 1191 (by decide +kernel) (by decide +kernel), by decide +kernel, by decide +kernel, by decide +kernel⟩
theorem cw_L_62 : cwp RL 62 m_X11_days 1 := cwp_of wm_X11_days (gx 1188 (by decide +kernel) (by decide +kernel))
theorem wm_X11_free : wmp m_X11_free 1 := ⟨gx 1219 (by decide +kernel) (by decide +kernel), gx 1220 (by decide +kernel) (by decide +kernel), gx 127 (by decide +kernel) (by decide +kernel), gx 1221 (by decide +kernel) (by decide +kernel), by decide +kernel, by decide +kernel, by decide +kernel⟩
theorem cw_L_65 : cwp RL 65 m_X11_free 1 := cwp_of wm_X11_free (gx 1218 (by decide +kernel) (by decide +kernel))
theorem wm_X11_would : wmp m_X11_would 2 := ⟨gx 1231 (by decide +kernel) (by decide +kernel), gx 1232 (by decide +kernel) (by decide +kernel), gx 127 (by decide +kernel) (by decide +kernel), gx 1233 (by decide +kernel) (by decide +kernel), by decide +kernel, by decide +kernel, by decide +kernel⟩
theorem cw_L_68 : cwp RL 68 m_X11_would 2 := cwp_of wm_X11_would (gx 1230 (by decide +kernel) (by decide +kernel))
theorem wm_X11_widest : wmp m_X11_widest 2 := ⟨gx 1238 (by decide +kernel) (by decide +kernel), gx 1239 (by decide +kernel) (by decide +kernel), gx 127 (by decide +kernel) (by decide +kernel), gx 1240 (by decide +kernel) (by decide +kernel), by decide +kernel, by decide +kernel, by decide +kernel⟩
theorem cw_L_71 : cwp RL 71 m_X11_widest 2 := cwp_of wm_X11_widest (gx 1237 (by decide +kernel) (by decide +kernel))
theorem wm_X11_parts : wmp m_X11_parts 2 := ⟨gx 1259 (by decide +kernel) (by decide +kernel), gx 1260 (by decide +kernel) (by decide +kernel), gx 127 (by decide +kernel) (by decide +kernel), gx 1261 (by decide +kernel) (by decide +kernel), by decide +kernel, by decide +kernel, by decide +kernel⟩
theorem cw_L_74 : cwp RL 74 m_X11_parts 2 := cwp_of wm_X11_parts (gx 1258 (by decide +kernel) (by decide +kernel))
theorem wm_X11_steady : wmp m_X11_steady 1 := ⟨gx 1275 (by decide +kernel) (by decide +kernel), gx 1276 (by decide +kernel) (by decide +kernel), gx 127 (by decide +kernel) (by decide +kernel), gx 1277 (by decide +kernel) (by decide +kernel), by decide +kernel, by decide +kernel, by decide +kernel⟩
theorem cw_L_77 : cwp RL 77 m_X11_steady 1 := cwp_of wm_X11_steady (gx 1274 (by decide +kernel) (by decide +kernel))
theorem wm_X11_between : wmp m_X11_between 2 := ⟨gx 1299 (by decide +kernel) (by decide +kernel), gx 1300 (by decide +kernel) (by decide +kernel), gx 127 (by decide +kernel) (by decide +kernel), gx 1301 (by decide +kernel) (by decide +kernel), by decide +kernel, by decide +kernel, by decide +kernel⟩
theorem cw_L_80 : cwp RL 80 m_X11_between 2 := cwp_of wm_X11_between (gx 1298 (by decide +kernel) (by decide +kernel))
theorem wm_X11_drank : wmp m_X11_drank 1 := ⟨gx 1310 (by decide +kernel) (by decide +kernel), gx 1311 (by decide +kernel) (by decide +kernel), gx 127 (by decide +kernel) (by decide +kernel), gx 1312 (by decide +kernel) (by decide +kernel), by decide +kernel, by decide +kernel, by decide +kernel⟩
theorem cw_L_83 : cwp RL 83 m_X11_drank 1 := cwp_of wm_X11_drank (gx 1309 (by decide +kernel) (by decide +kernel))
theorem wm_X11_look : wmp m_X11_look 0 := ⟨gx 1340 (by decide +kernel) (by decide +kernel), gx 1341 (by decide +kernel) (by decide +kernel), gx 127 (by decide +kernel) (by decide +kernel), gx 1342 (by decide +kernel) (by decide +kernel), by decide +kernel, by decide +kernel, by decide +kernel⟩
theorem cw_L_87 : cwp RL 87 m_X11_look 0 := cwp_of wm_X11_look (gx 1339 (by decide +kernel) (by decide +kernel))
theorem wm_X11_way : wmp m_X11_way 2 := ⟨gx 1352 (by decide +kernel) (by decide +kernel), gx 1353 (by decide +kernel) (by decide +kernel), gx 127 (by decide +kernel) (by decide +kernel), gx 1354 (by decide +kernel) (by decide +kernel), by decide +kernel, by decide +kernel, by decide +kernel⟩
theorem cw_L_90 : cwp RL 90 m_X11_way 2 := cwp_of wm_X11_way (gx 1351 (by decide +kernel) (by decide +kernel))
theorem wm_X11_unseen : wmp m_X11_unseen 2 := ⟨gx 1369 (by decide +kernel) (by decide +kernel), gx 1370 (by decide +kernel) (by decide +kernel), gx 127 (by decide +kernel) (by decide +kernel), gx 1371 (by decide +kernel) (by decide +kernel), by decide +kernel, by decide +kernel, by decide +kernel⟩
theorem cw_L_93 : cwp RL 93 m_X11_unseen 2 := cwp_of wm_X11_unseen (gx 1368 (by decide +kernel) (by decide +kernel))
theorem wm_X11_trap : wmp m_X11_trap 2 := ⟨gx 1381 (by decide +kernel) (by decide +kernel), gx 1382 (by decide +kernel) (by decide +kernel), gx 127 (by decide +kernel) (by decide +kernel), gx 1383 (by decide +kernel) (by decide +kernel), by decide +kernel, by decide +kernel, by decide +kernel⟩
theorem cw_L_96 : cwp RL 96 m_X11_trap 2 := cwp_of wm_X11_trap (gx 1380 (by decide +kernel) (by decide +kernel))
theorem wm_X11_oath : wmp m_X11_oath 2 := ⟨gx 1399 (by decide +kernel) (by decide +kernel), gx 1400 (by decide +kernel) (by decide +kernel), gx 127 (by decide +kernel) (by decide +kernel), gx 1401 (by decide +kernel) (by decide +kernel), by decide +kernel, by decide +kernel, by decide +kernel⟩
theorem cw_L_100 : cwp RL 100 m_X11_oath 2 := cwp_of wm_X11_oath (gx 1398 (by decide +kernel) (by decide +kernel))
theorem wm_X11_shortest : wmp m_X11_shortest 1 := ⟨gx 1406 (by decide +kernel) (by decide +kernel), gx 1407 (by decide +kernel) (by decide +kernel), gx 127 (by decide +kernel) (by decide +kernel), gx 1408 (by decide +kernel) (by decide +kernel), by decide +kernel, by decide +kernel, by decide +kernel⟩
theorem cw_L_104 : cwp RL 104 m_X11_shortest 1 := cwp_of wm_X11_shortest (gx 1405 (by decide +kernel) (by decide +kernel))
theorem wm_X11_alibi : wmp m_X11_alibi 1 := ⟨gx 1413 (by decide +kernel) (by decide +kernel), gx 1414 (by decide +kernel) (by decide +kernel), gx 127 (by decide +kernel) (by decide +kernel), gx 1415 (by decide +kernel) (by decide +kernel), by decide +kernel, by decide +kernel, by decide +kernel⟩
theorem cw_L_107 : cwp RL 107 m_X11_alibi 1 := cwp_of wm_X11_alibi (gx 1412 (by decide +kernel) (by decide +kernel))
theorem wm_X11_odds : wmp m_X11_odds 2 := ⟨gx 1420 (by decide +kernel) (by decide +kernel), gx 1421 (by decide +kernel) (by decide +kernel), gx 127 (by decide +kernel) (by decide +kernel), gx 1422 (by decide +kernel) (by decide +kernel), by decide +kernel, by decide +kernel, by decide +kernel⟩
theorem cw_L_110 : cwp RL 110 m_X11_odds 2 := cwp_of wm_X11_odds (gx 1419 (by decide +kernel) (by decide +kernel))
theorem wm_X11_ahead : wmp m_X11_ahead 3 := ⟨gx 1432 (by decide +kernel) (by decide +kernel), gx 1433 (by decide +kernel) (by decide +kernel), gx 127 (by decide +kernel) (by decide +kernel), gx 1434 (by decide +kernel) (by decide +kernel), by decide +kernel, by decide +kernel, by decide +kernel⟩
theorem cw_L_113 : cwp RL 113 m_X11_ahead 3 := cwp_of wm_X11_ahead (gx 1431 (by decide +kernel) (by decide +kernel))
theorem wm_X11_calm : wmp m_X11_calm 1 := ⟨gx 1439 (by decide +kernel) (by decide +kernel), gx 1440 (by decide +kernel) (by decide +kernel), gx 127 (by decide +kernel) (by decide +kernel), gx 1441 (by decide +kernel) (by decide +kernel), by decide +kernel, by decide +kernel, by decide +kernel⟩
theorem cw_L_116 : cwp RL 116 m_X11_calm 1 := cwp_of wm_X11_calm (gx 1438 (by decide +kernel) (by decide +kernel))
theorem wm_X11_trial : wmp m_X11_trial 2 := ⟨gx 1446 (by decide +kernel) (by decide +kernel), gx 1447 (by decide +kernel) (by decide +kernel), gx 127 (by decide +kernel) (by decide +kernel), gx 1448 (by decide +kernel) (by decide +kernel), by decide +kernel, by decide +kernel, by decide +kernel⟩
theorem cw_L_119 : cwp RL 119 m_X11_trial 2 := cwp_of wm_X11_trial (gx 1445 (by decide +kernel) (by decide +kernel))
theorem wm_X11_span : wmp m_X11_span 2 := ⟨gx 1457 (by decide +kernel) (by decide +kernel), gx 1458 (by decide +kernel) (by decide +kernel), gx 127 (by decide +kernel) (by decide +kernel), gx 1459 (by decide +kernel) (by decide +kernel), by decide +kernel, by decide +kernel, by decide +kernel⟩
theorem cw_L_122 : cwp RL 122 m_X11_span 2 := cwp_of wm_X11_span (gx 1456 (by decide +kernel) (by decide +kernel))
theorem wm_X11_led : wmp m_X11_led 2 := ⟨gx 1464 (by decide +kernel) (by decide +kernel), gx 1465 (by decide +kernel) (by decide +kernel), gx 127 (by decide +kernel) (by decide +kernel), gx 1466 (by decide +kernel) (by decide +kernel), by decide +kernel, by decide +kernel, by decide +kernel⟩
theorem cw_L_125 : cwp RL 125 m_X11_led 2 := cwp_of wm_X11_led (gx 1463 (by decide +kernel) (by decide +kernel))
theorem wm_X11_log : wmp m_X11_log 2 := ⟨gx 1482 (by decide +kernel) (by decide +kernel), gx 1483 (by decide +kernel) (by decide +kernel), gx 127 (by decide +kernel) (by decide +kernel), gx 1484 (by decide +kernel) (by decide +kernel), by decide +kernel, by decide +kernel, by decide +kernel⟩
theorem cw_L_128 : cwp RL 128 m_X11_log 2 := cwp_of wm_X11_log (gx 1481 (by decide +kernel) (by decide +kernel))
def f_L_house (n : Nat)  (σ : MS) : Option (Int32 × MS) := (thn (f_X11_house n  σ) (fun v3 s3 => (ltM (mu s3 183 0 v3) (fun s7 => some ((0 : Int32), s7)))) (fun e s => if e = 1 then some ((1 : Int32), s) else if e = 4 then some ((2 : Int32), s) else none))
set_option maxRecDepth 20000 in
set_option maxHeartbeats 2000000 in
theorem c_L_house (w : TG) (n : Nat)  (σ : MS) : MCW m_L_house [(0, 8, 11, 13), (0, 8, 14, 15)] w [.ref (wB w + 0), .ref (wB w + 183)] σ (f_L_house n  σ) := by
  refine V_methW (by decide +kernel) (Nat.le_of_ble_eq_true rfl) (by intro v hv; simp only [List.mem_cons, List.not_mem_nil, or_false] at hv; rcases hv with rfl | rfl <;> rfl) (fun g x ht => ?_)
  show VV m_L_house w g 0 0 (QM m_L_house w g x) (fun b : Int32 × MS => b = x) 0 [some (.ref (wB w + 0)), some (.ref (wB w + 183)), none] [] σ (f_L_house n  σ)
  refine V_aload_n (pc := 0) dL_house_0 rfl rfl ?_
  refine V_iconst (pc := 1) dL_house_1 ic_0 ?_
  refine V_aload_n (pc := 2) dL_house_2 rfl rfl ?_
  refine VX_callC (pc := 3) (As := []) (rest := [.int (0 : Int32), .ref (wB w + 183)]) (c_X11_house w n  σ) cw_L_7 rfl dL_house_3 kc_0 ci_11 ⟨Nat.le_of_ble_eq_true rfl, Nat.le_of_ble_eq_true rfl⟩ rfl rfl (Nat.le_of_ble_eq_true rfl) (Nat.le_of_ble_eq_true rfl) (Nat.le_of_ble_eq_true rfl) (fun e s b hb => ?_) (fun v3 s3 => ?_)
  · by_cases h1 : e = 1
    · subst h1
      refine ⟨[], ⟨0, 8, 11, 13⟩, [⟨0, 8, 14, 15⟩], by decide, ht.trans rfl, by decide, by decide, gx 682 (by decide +kernel) (by decide +kernel), (by intro u hu; cases hu), fun q => ?_⟩
      show VV m_L_house w g 1 6 (QM m_L_house w g x) (fun b : Int32 × MS => b = x) 11 [some (.ref (wB w + 0)), some (.ref (wB w + 183)), none] [.ref q] s (some ((1 : Int32), s))
      refine V_astore_n (pc := 11) (vs' := [some (.ref (wB w + 0)), some (.ref (wB w + 183)), some (.ref q)]) dL_house_11 rfl (Nat.le_of_ble_eq_true rfl) (Nat.le_of_ble_eq_true rfl) rfl ?_
      refine V_iconst (pc := 12) dL_house_12 ic_1 ?_
      exact V_ireti (pc := 13) dL_house_13 rfl (hk := fun h => h)
    by_cases h4 : e = 4
    · subst h4
      refine ⟨[⟨0, 8, 11, 13⟩], ⟨0, 8, 14, 15⟩, [], by decide, ht.trans rfl, by decide, by decide, gx 683 (by decide +kernel) (by decide +kernel), (by intro u hu; rw [List.mem_singleton.mp hu]; exact ⟨by decide, 1, by decide, by decide, gm (by decide +kernel) (by decide +kernel)⟩), fun q => ?_⟩
      show VV m_L_house w g 1 6 (QM m_L_house w g x) (fun b : Int32 × MS => b = x) 14 [some (.ref (wB w + 0)), some (.ref (wB w + 183)), none] [.ref q] s (some ((2 : Int32), s))
      refine V_astore_n (pc := 14) (vs' := [some (.ref (wB w + 0)), some (.ref (wB w + 183)), some (.ref q)]) dL_house_14 rfl (Nat.le_of_ble_eq_true rfl) (Nat.le_of_ble_eq_true rfl) rfl ?_
      refine V_iconst (pc := 15) dL_house_15 ic_2 ?_
      exact V_ireti (pc := 16) dL_house_16 rfl (hk := fun h => h)
    exact absurd hb (by simp [h1, h4])
  · show VV m_L_house w g 1 6 (QM m_L_house w g x) (fun b : Int32 × MS => b = x) 6 [some (.ref (wB w + 0)), some (.ref (wB w + 183)), none] [.int v3, .int (0 : Int32), .ref (wB w + 183)] s3 _
    refine V_i2l (pc := 6) dL_house_6 ?_
    refine V_last (pc := 7) dL_house_7 (fun s7 => ?_)
    refine V_goto (pc := 8) (tgt := 17) dL_house_8 (by decide +kernel) ?_
    refine V_iconst (pc := 17) dL_house_17 ic_0 ?_
    exact V_ireti (pc := 18) dL_house_18 rfl (hk := fun h => h)
def f_L_law (n : Nat)  (σ : MS) : Option (Int32 × MS) := (thn (f_X11_law n  σ) (fun v3 s3 => (ltM (mu s3 183 0 v3) (fun s7 => some ((0 : Int32), s7)))) (fun e s => if e = 1 then some ((1 : Int32), s) else none))
set_option maxRecDepth 20000 in
set_option maxHeartbeats 2000000 in
theorem c_L_law (w : TG) (n : Nat)  (σ : MS) : MCW m_L_law [(0, 8, 11, 13)] w [.ref (wB w + 0), .ref (wB w + 183)] σ (f_L_law n  σ) := by
  refine V_methW (by decide +kernel) (Nat.le_of_ble_eq_true rfl) (by intro v hv; simp only [List.mem_cons, List.not_mem_nil, or_false] at hv; rcases hv with rfl | rfl <;> rfl) (fun g x ht => ?_)
  show VV m_L_law w g 0 0 (QM m_L_law w g x) (fun b : Int32 × MS => b = x) 0 [some (.ref (wB w + 0)), some (.ref (wB w + 183)), none] [] σ (f_L_law n  σ)
  refine V_aload_n (pc := 0) dL_law_0 rfl rfl ?_
  refine V_iconst (pc := 1) dL_law_1 ic_0 ?_
  refine V_aload_n (pc := 2) dL_law_2 rfl rfl ?_
  refine VX_callC (pc := 3) (As := []) (rest := [.int (0 : Int32), .ref (wB w + 183)]) (c_X11_law w n  σ) cw_L_17 rfl dL_law_3 kc_0 ci_11 ⟨Nat.le_of_ble_eq_true rfl, Nat.le_of_ble_eq_true rfl⟩ rfl rfl (Nat.le_of_ble_eq_true rfl) (Nat.le_of_ble_eq_true rfl) (Nat.le_of_ble_eq_true rfl) (fun e s b hb => ?_) (fun v3 s3 => ?_)
  · by_cases h1 : e = 1
    · subst h1
      refine ⟨[], ⟨0, 8, 11, 13⟩, [], by decide, ht.trans rfl, by decide, by decide, gx 682 (by decide +kernel) (by decide +kernel), (by intro u hu; cases hu), fun q => ?_⟩
      show VV m_L_law w g 1 6 (QM m_L_law w g x) (fun b : Int32 × MS => b = x) 11 [some (.ref (wB w + 0)), some (.ref (wB w + 183)), none] [.ref q] s (some ((1 : Int32), s))
      refine V_astore_n (pc := 11) (vs' := [some (.ref (wB w + 0)), some (.ref (wB w + 183)), some (.ref q)]) dL_law_11 rfl (Nat.le_of_ble_eq_true rfl) (Nat.le_of_ble_eq_true rfl) rfl ?_
      refine V_iconst (pc := 12) dL_law_12 ic_1 ?_
      exact V_ireti (pc := 13) dL_law_13 rfl (hk := fun h => h)
    exact absurd hb (by simp [h1])
  · show VV m_L_law w g 1 6 (QM m_L_law w g x) (fun b : Int32 × MS => b = x) 6 [some (.ref (wB w + 0)), some (.ref (wB w + 183)), none] [.int v3, .int (0 : Int32), .ref (wB w + 183)] s3 _
    refine V_i2l (pc := 6) dL_law_6 ?_
    refine V_last (pc := 7) dL_law_7 (fun s7 => ?_)
    refine V_goto (pc := 8) (tgt := 14) dL_law_8 (by decide +kernel) ?_
    refine V_iconst (pc := 14) dL_law_14 ic_0 ?_
    exact V_ireti (pc := 15) dL_law_15 rfl (hk := fun h => h)
def f_L_person (n : Nat) (p1 : Int32) (p2 : Int32) (σ : MS) : Option (Int32 × MS) := (thn (f_X11_person n p1 p2 σ) (fun v5 s5 => (ltM (mu s5 183 0 v5) (fun s9 => some ((0 : Int32), s9)))) (fun e s => if e = 0 then some ((1 : Int32), s) else if e = 2 then some ((2 : Int32), s) else none))
set_option maxRecDepth 20000 in
set_option maxHeartbeats 2000000 in
theorem c_L_person (w : TG) (n : Nat) (p1 : Int32) (p2 : Int32) (σ : MS) : MCW m_L_person [(0, 10, 13, 24), (0, 10, 17, 26)] w [.ref (wB w + 0), .int p1, .int p2, .ref (wB w + 183)] σ (f_L_person n p1 p2 σ) := by
  refine V_methW (by decide +kernel) (Nat.le_of_ble_eq_true rfl) (by intro v hv; simp only [List.mem_cons, List.not_mem_nil, or_false] at hv; rcases hv with rfl | rfl | rfl | rfl <;> rfl) (fun g x ht => ?_)
  show VV m_L_person w g 0 0 (QM m_L_person w g x) (fun b : Int32 × MS => b = x) 0 [some (.ref (wB w + 0)), some (.int p1), some (.int p2), some (.ref (wB w + 183)), none] [] σ (f_L_person n p1 p2 σ)
  refine V_aload_n (pc := 0) dL_person_0 rfl rfl ?_
  refine V_iconst (pc := 1) dL_person_1 ic_0 ?_
  refine V_aload_n (pc := 2) dL_person_2 rfl rfl ?_
  refine V_iload_n (pc := 3) dL_person_3 rfl rfl ?_
  refine V_iload_n (pc := 4) dL_person_4 rfl rfl ?_
  refine VX_callC (pc := 5) (As := [.int p1, .int p2]) (rest := [.int (0 : Int32), .ref (wB w + 183)]) (c_X11_person w n p1 p2 σ) cw_L_20 rfl dL_person_5 kc_0 ci_11 ⟨Nat.le_of_ble_eq_true rfl, Nat.le_of_ble_eq_true rfl⟩ rfl rfl (Nat.le_of_ble_eq_true rfl) (Nat.le_of_ble_eq_true rfl) (Nat.le_of_ble_eq_true rfl) (fun e s b hb => ?_) (fun v5 s5 => ?_)
  · by_cases h0 : e = 0
    · subst h0
      refine ⟨[], ⟨0, 10, 13, 24⟩, [⟨0, 10, 17, 26⟩], by decide, ht.trans rfl, by decide, by decide, gx 975 (by decide +kernel) (by decide +kernel), (by intro u hu; cases hu), fun q => ?_⟩
      show VV m_L_person w g 2 12 (QM m_L_person w g x) (fun b : Int32 × MS => b = x) 13 [some (.ref (wB w + 0)), some (.int p1), some (.int p2), some (.ref (wB w + 183)), none] [.ref q] s (some ((1 : Int32), s))
      refine V_astore (pc := 13) (vs' := [some (.ref (wB w + 0)), some (.int p1), some (.int p2), some (.ref (wB w + 183)), some (.ref q)]) dL_person_13 (Nat.le_of_ble_eq_true rfl) (Nat.le_of_ble_eq_true rfl) rfl ?_
      refine V_iconst (pc := 15) dL_person_15 ic_1 ?_
      exact V_ireti (pc := 16) dL_person_16 rfl (hk := fun h => h)
    by_cases h2 : e = 2
    · subst h2
      refine ⟨[⟨0, 10, 13, 24⟩], ⟨0, 10, 17, 26⟩, [], by decide, ht.trans rfl, by decide, by decide, gx 976 (by decide +kernel) (by decide +kernel), (by intro u hu; rw [List.mem_singleton.mp hu]; exact ⟨by decide, 0, by decide, by decide, gm (by decide +kernel) (by decide +kernel)⟩), fun q => ?_⟩
      show VV m_L_person w g 2 12 (QM m_L_person w g x) (fun b : Int32 × MS => b = x) 17 [some (.ref (wB w + 0)), some (.int p1), some (.int p2), some (.ref (wB w + 183)), none] [.ref q] s (some ((2 : Int32), s))
      refine V_astore (pc := 17) (vs' := [some (.ref (wB w + 0)), some (.int p1), some (.int p2), some (.ref (wB w + 183)), some (.ref q)]) dL_person_17 (Nat.le_of_ble_eq_true rfl) (Nat.le_of_ble_eq_true rfl) rfl ?_
      refine V_iconst (pc := 19) dL_person_19 ic_2 ?_
      exact V_ireti (pc := 20) dL_person_20 rfl (hk := fun h => h)
    exact absurd hb (by simp [h0, h2])
  · show VV m_L_person w g 2 12 (QM m_L_person w g x) (fun b : Int32 × MS => b = x) 8 [some (.ref (wB w + 0)), some (.int p1), some (.int p2), some (.ref (wB w + 183)), none] [.int v5, .int (0 : Int32), .ref (wB w + 183)] s5 _
    refine V_i2l (pc := 8) dL_person_8 ?_
    refine V_last (pc := 9) dL_person_9 (fun s9 => ?_)
    refine V_goto (pc := 10) (tgt := 21) dL_person_10 (by decide +kernel) ?_
    refine V_iconst (pc := 21) dL_person_21 ic_0 ?_
    exact V_ireti (pc := 22) dL_person_22 rfl (hk := fun h => h)
def f_L_liking (p1 : Int32) (p2 : Int32) (σ : MS) : Option (Int32 × MS) := (thn (f_X11_liking p1 p2 σ) (fun v5 s5 => (ltM (mu s5 183 0 v5) (fun s9 => some ((0 : Int32), s9)))) (fun e s => if e = 0 then some ((1 : Int32), s) else if e = 1 then some ((2 : Int32), s) else none))
set_option maxRecDepth 20000 in
set_option maxHeartbeats 2000000 in
theorem c_L_liking (w : TG) (p1 : Int32) (p2 : Int32) (σ : MS) : MCW m_L_liking [(0, 10, 13, 24), (0, 10, 17, 13)] w [.ref (wB w + 0), .int p1, .int p2, .ref (wB w + 183)] σ (f_L_liking p1 p2 σ) := by
  refine V_methW (by decide +kernel) (Nat.le_of_ble_eq_true rfl) (by intro v hv; simp only [List.mem_cons, List.not_mem_nil, or_false] at hv; rcases hv with rfl | rfl | rfl | rfl <;> rfl) (fun g x ht => ?_)
  show VV m_L_liking w g 0 0 (QM m_L_liking w g x) (fun b : Int32 × MS => b = x) 0 [some (.ref (wB w + 0)), some (.int p1), some (.int p2), some (.ref (wB w + 183)), none] [] σ (f_L_liking p1 p2 σ)
  refine V_aload_n (pc := 0) dL_liking_0 rfl rfl ?_
  refine V_iconst (pc := 1) dL_liking_1 ic_0 ?_
  refine V_aload_n (pc := 2) dL_liking_2 rfl rfl ?_
  refine V_iload_n (pc := 3) dL_liking_3 rfl rfl ?_
  refine V_iload_n (pc := 4) dL_liking_4 rfl rfl ?_
  refine VX_callC (pc := 5) (As := [.int p1, .int p2]) (rest := [.int (0 : Int32), .ref (wB w + 183)]) (c_X11_liking w p1 p2 σ) cw_L_28 rfl dL_liking_5 kc_0 ci_11 ⟨Nat.le_of_ble_eq_true rfl, Nat.le_of_ble_eq_true rfl⟩ rfl rfl (Nat.le_of_ble_eq_true rfl) (Nat.le_of_ble_eq_true rfl) (Nat.le_of_ble_eq_true rfl) (fun e s b hb => ?_) (fun v5 s5 => ?_)
  · by_cases h0 : e = 0
    · subst h0
      refine ⟨[], ⟨0, 10, 13, 24⟩, [⟨0, 10, 17, 13⟩], by decide, ht.trans rfl, by decide, by decide, gx 975 (by decide +kernel) (by decide +kernel), (by intro u hu; cases hu), fun q => ?_⟩
      show VV m_L_liking w g 3 18 (QM m_L_liking w g x) (fun b : Int32 × MS => b = x) 13 [some (.ref (wB w + 0)), some (.int p1), some (.int p2), some (.ref (wB w + 183)), none] [.ref q] s (some ((1 : Int32), s))
      refine V_astore (pc := 13) (vs' := [some (.ref (wB w + 0)), some (.int p1), some (.int p2), some (.ref (wB w + 183)), some (.ref q)]) dL_liking_13 (Nat.le_of_ble_eq_true rfl) (Nat.le_of_ble_eq_true rfl) rfl ?_
      refine V_iconst (pc := 15) dL_liking_15 ic_1 ?_
      exact V_ireti (pc := 16) dL_liking_16 rfl (hk := fun h => h)
    by_cases h1 : e = 1
    · subst h1
      refine ⟨[⟨0, 10, 13, 24⟩], ⟨0, 10, 17, 13⟩, [], by decide, ht.trans rfl, by decide, by decide, gx 682 (by decide +kernel) (by decide +kernel), (by intro u hu; rw [List.mem_singleton.mp hu]; exact ⟨by decide, 0, by decide, by decide, gm (by decide +kernel) (by decide +kernel)⟩), fun q => ?_⟩
      show VV m_L_liking w g 3 18 (QM m_L_liking w g x) (fun b : Int32 × MS => b = x) 17 [some (.ref (wB w + 0)), some (.int p1), some (.int p2), some (.ref (wB w + 183)), none] [.ref q] s (some ((2 : Int32), s))
      refine V_astore (pc := 17) (vs' := [some (.ref (wB w + 0)), some (.int p1), some (.int p2), some (.ref (wB w + 183)), some (.ref q)]) dL_liking_17 (Nat.le_of_ble_eq_true rfl) (Nat.le_of_ble_eq_true rfl) rfl ?_
      refine V_iconst (pc := 19) dL_liking_19 ic_2 ?_
      exact V_ireti (pc := 20) dL_liking_20 rfl (hk := fun h => h)
    exact absurd hb (by simp [h0, h1])
  · show VV m_L_liking w g 3 18 (QM m_L_liking w g x) (fun b : Int32 × MS => b = x) 8 [some (.ref (wB w + 0)), some (.int p1), some (.int p2), some (.ref (wB w + 183)), none] [.int v5, .int (0 : Int32), .ref (wB w + 183)] s5 _
    refine V_i2l (pc := 8) dL_liking_8 ?_
    refine V_last (pc := 9) dL_liking_9 (fun s9 => ?_)
    refine V_goto (pc := 10) (tgt := 21) dL_liking_10 (by decide +kernel) ?_
    refine V_iconst (pc := 21) dL_liking_21 ic_0 ?_
    exact V_ireti (pc := 22) dL_liking_22 rfl (hk := fun h => h)
def f_L_bond (p1 : Int32) (p2 : Int32) (p3 : Int32) (σ : MS) : Option (Int32 × MS) := (thn (f_X11_bond p1 p2 p3 σ) (fun v7 s7 => (ltM (mu s7 183 0 v7) (fun s11 => some ((0 : Int32), s11)))) (fun e s => if e = 0 then some ((1 : Int32), s) else if e = 1 then some ((2 : Int32), s) else none))
set_option maxRecDepth 20000 in
set_option maxHeartbeats 2000000 in
theorem c_L_bond (w : TG) (p1 : Int32) (p2 : Int32) (p3 : Int32) (σ : MS) : MCW m_L_bond [(0, 12, 15, 24), (0, 12, 19, 13)] w [.ref (wB w + 0), .int p1, .int p2, .int p3, .ref (wB w + 183)] σ (f_L_bond p1 p2 p3 σ) := by
  refine V_methW (by decide +kernel) (Nat.le_of_ble_eq_true rfl) (by intro v hv; simp only [List.mem_cons, List.not_mem_nil, or_false] at hv; rcases hv with rfl | rfl | rfl | rfl | rfl <;> rfl) (fun g x ht => ?_)
  show VV m_L_bond w g 0 0 (QM m_L_bond w g x) (fun b : Int32 × MS => b = x) 0 [some (.ref (wB w + 0)), some (.int p1), some (.int p2), some (.int p3), some (.ref (wB w + 183)), none] [] σ (f_L_bond p1 p2 p3 σ)
  refine V_aload (pc := 0) dL_bond_0 rfl ?_
  refine V_iconst (pc := 2) dL_bond_2 ic_0 ?_
  refine V_aload_n (pc := 3) dL_bond_3 rfl rfl ?_
  refine V_iload_n (pc := 4) dL_bond_4 rfl rfl ?_
  refine V_iload_n (pc := 5) dL_bond_5 rfl rfl ?_
  refine V_iload_n (pc := 6) dL_bond_6 rfl rfl ?_
  refine VX_callC (pc := 7) (As := [.int p1, .int p2, .int p3]) (rest := [.int (0 : Int32), .ref (wB w + 183)]) (c_X11_bond w p1 p2 p3 σ) cw_L_31 rfl dL_bond_7 kc_0 ci_11 ⟨Nat.le_of_ble_eq_true rfl, Nat.le_of_ble_eq_true rfl⟩ rfl rfl (Nat.le_of_ble_eq_true rfl) (Nat.le_of_ble_eq_true rfl) (Nat.le_of_ble_eq_true rfl) (fun e s b hb => ?_) (fun v7 s7 => ?_)
  · by_cases h0 : e = 0
    · subst h0
      refine ⟨[], ⟨0, 12, 15, 24⟩, [⟨0, 12, 19, 13⟩], by decide, ht.trans rfl, by decide, by decide, gx 975 (by decide +kernel) (by decide +kernel), (by intro u hu; cases hu), fun q => ?_⟩
      show VV m_L_bond w g 3 18 (QM m_L_bond w g x) (fun b : Int32 × MS => b = x) 15 [some (.ref (wB w + 0)), some (.int p1), some (.int p2), some (.int p3), some (.ref (wB w + 183)), none] [.ref q] s (some ((1 : Int32), s))
      refine V_astore (pc := 15) (vs' := [some (.ref (wB w + 0)), some (.int p1), some (.int p2), some (.int p3), some (.ref (wB w + 183)), some (.ref q)]) dL_bond_15 (Nat.le_of_ble_eq_true rfl) (Nat.le_of_ble_eq_true rfl) rfl ?_
      refine V_iconst (pc := 17) dL_bond_17 ic_1 ?_
      exact V_ireti (pc := 18) dL_bond_18 rfl (hk := fun h => h)
    by_cases h1 : e = 1
    · subst h1
      refine ⟨[⟨0, 12, 15, 24⟩], ⟨0, 12, 19, 13⟩, [], by decide, ht.trans rfl, by decide, by decide, gx 682 (by decide +kernel) (by decide +kernel), (by intro u hu; rw [List.mem_singleton.mp hu]; exact ⟨by decide, 0, by decide, by decide, gm (by decide +kernel) (by decide +kernel)⟩), fun q => ?_⟩
      show VV m_L_bond w g 3 18 (QM m_L_bond w g x) (fun b : Int32 × MS => b = x) 19 [some (.ref (wB w + 0)), some (.int p1), some (.int p2), some (.int p3), some (.ref (wB w + 183)), none] [.ref q] s (some ((2 : Int32), s))
      refine V_astore (pc := 19) (vs' := [some (.ref (wB w + 0)), some (.int p1), some (.int p2), some (.int p3), some (.ref (wB w + 183)), some (.ref q)]) dL_bond_19 (Nat.le_of_ble_eq_true rfl) (Nat.le_of_ble_eq_true rfl) rfl ?_
      refine V_iconst (pc := 21) dL_bond_21 ic_2 ?_
      exact V_ireti (pc := 22) dL_bond_22 rfl (hk := fun h => h)
    exact absurd hb (by simp [h0, h1])
  · show VV m_L_bond w g 3 18 (QM m_L_bond w g x) (fun b : Int32 × MS => b = x) 10 [some (.ref (wB w + 0)), some (.int p1), some (.int p2), some (.int p3), some (.ref (wB w + 183)), none] [.int v7, .int (0 : Int32), .ref (wB w + 183)] s7 _
    refine V_i2l (pc := 10) dL_bond_10 ?_
    refine V_last (pc := 11) dL_bond_11 (fun s11 => ?_)
    refine V_goto (pc := 12) (tgt := 23) dL_bond_12 (by decide +kernel) ?_
    refine V_iconst (pc := 23) dL_bond_23 ic_0 ?_
    exact V_ireti (pc := 24) dL_bond_24 rfl (hk := fun h => h)
def f_L_told (n : Nat) (p1 : Int32) (p2 : Int32) (p3 : Int32) (p4 : Int32) (p5 : Int32) (σ : MS) : Option (Int32 × MS) := (thn (f_X11_told n p1 p2 p3 p4 p5 σ) (fun v11 s11 => (ltM (mu s11 183 0 v11) (fun s15 => some ((0 : Int32), s15)))) (fun e s => if e = 0 then some ((1 : Int32), s) else if e = 1 then some ((2 : Int32), s) else if e = 2 then some ((3 : Int32), s) else none))
set_option maxRecDepth 20000 in
set_option maxHeartbeats 2000000 in
theorem c_L_told (w : TG) (n : Nat) (p1 : Int32) (p2 : Int32) (p3 : Int32) (p4 : Int32) (p5 : Int32) (σ : MS) : MCW m_L_told [(0, 16, 19, 24), (0, 16, 23, 13), (0, 16, 27, 26)] w [.ref (wB w + 0), .int p1, .int p2, .int p3, .int p4, .int p5, .ref (wB w + 183)] σ (f_L_told n p1 p2 p3 p4 p5 σ) := by
  refine V_methW (by decide +kernel) (Nat.le_of_ble_eq_true rfl) (by intro v hv; simp only [List.mem_cons, List.not_mem_nil, or_false] at hv; rcases hv with rfl | rfl | rfl | rfl | rfl | rfl | rfl <;> rfl) (fun g x ht => ?_)
  show VV m_L_told w g 0 0 (QM m_L_told w g x) (fun b : Int32 × MS => b = x) 0 [some (.ref (wB w + 0)), some (.int p1), some (.int p2), some (.int p3), some (.int p4), some (.int p5), some (.ref (wB w + 183)), none] [] σ (f_L_told n p1 p2 p3 p4 p5 σ)
  refine V_aload (pc := 0) dL_told_0 rfl ?_
  refine V_iconst (pc := 2) dL_told_2 ic_0 ?_
  refine V_aload_n (pc := 3) dL_told_3 rfl rfl ?_
  refine V_iload_n (pc := 4) dL_told_4 rfl rfl ?_
  refine V_iload_n (pc := 5) dL_told_5 rfl rfl ?_
  refine V_iload_n (pc := 6) dL_told_6 rfl rfl ?_
  refine V_iload (pc := 7) dL_told_7 rfl ?_
  refine V_iload (pc := 9) dL_told_9 rfl ?_
  refine VX_callC (pc := 11) (As := [.int p1, .int p2, .int p3, .int p4, .int p5]) (rest := [.int (0 : Int32), .ref (wB w + 183)]) (c_X11_told w n p1 p2 p3 p4 p5 σ) cw_L_35 rfl dL_told_11 kc_0 ci_11 ⟨Nat.le_of_ble_eq_true rfl, Nat.le_of_ble_eq_true rfl⟩ rfl rfl (Nat.le_of_ble_eq_true rfl) (Nat.le_of_ble_eq_true rfl) (Nat.le_of_ble_eq_true rfl) (fun e s b hb => ?_) (fun v11 s11 => ?_)
  · by_cases h0 : e = 0
    · subst h0
      refine ⟨[], ⟨0, 16, 19, 24⟩, [⟨0, 16, 23, 13⟩, ⟨0, 16, 27, 26⟩], by decide, ht.trans rfl, by decide, by decide, gx 975 (by decide +kernel) (by decide +kernel), (by intro u hu; cases hu), fun q => ?_⟩
      show VV m_L_told w g 6 36 (QM m_L_told w g x) (fun b : Int32 × MS => b = x) 19 [some (.ref (wB w + 0)), some (.int p1), some (.int p2), some (.int p3), some (.int p4), some (.int p5), some (.ref (wB w + 183)), none] [.ref q] s (some ((1 : Int32), s))
      refine V_astore (pc := 19) (vs' := [some (.ref (wB w + 0)), some (.int p1), some (.int p2), some (.int p3), some (.int p4), some (.int p5), some (.ref (wB w + 183)), some (.ref q)]) dL_told_19 (Nat.le_of_ble_eq_true rfl) (Nat.le_of_ble_eq_true rfl) rfl ?_
      refine V_iconst (pc := 21) dL_told_21 ic_1 ?_
      exact V_ireti (pc := 22) dL_told_22 rfl (hk := fun h => h)
    by_cases h1 : e = 1
    · subst h1
      refine ⟨[⟨0, 16, 19, 24⟩], ⟨0, 16, 23, 13⟩, [⟨0, 16, 27, 26⟩], by decide, ht.trans rfl, by decide, by decide, gx 682 (by decide +kernel) (by decide +kernel), (by intro u hu; rw [List.mem_singleton.mp hu]; exact ⟨by decide, 0, by decide, by decide, gm (by decide +kernel) (by decide +kernel)⟩), fun q => ?_⟩
      show VV m_L_told w g 6 36 (QM m_L_told w g x) (fun b : Int32 × MS => b = x) 23 [some (.ref (wB w + 0)), some (.int p1), some (.int p2), some (.int p3), some (.int p4), some (.int p5), some (.ref (wB w + 183)), none] [.ref q] s (some ((2 : Int32), s))
      refine V_astore (pc := 23) (vs' := [some (.ref (wB w + 0)), some (.int p1), some (.int p2), some (.int p3), some (.int p4), some (.int p5), some (.ref (wB w + 183)), some (.ref q)]) dL_told_23 (Nat.le_of_ble_eq_true rfl) (Nat.le_of_ble_eq_true rfl) rfl ?_
      refine V_iconst (pc := 25) dL_told_25 ic_2 ?_
      exact V_ireti (pc := 26) dL_told_26 rfl (hk := fun h => h)
    by_cases h2 : e = 2
    · subst h2
      refine ⟨[⟨0, 16, 19, 24⟩, ⟨0, 16, 23, 13⟩], ⟨0, 16, 27, 26⟩, [], by decide, ht.trans rfl, by decide, by decide, gx 976 (by decide +kernel) (by decide +kernel), (by intro u hu; simp only [List.mem_cons, List.not_mem_nil, or_false] at hu; rcases hu with rfl | rfl <;> first | exact ⟨by decide, 0, by decide, by decide, gm (by decide +kernel) (by decide +kernel)⟩ | exact ⟨by decide, 1, by decide, by decide, gm (by decide +kernel) (by decide +kernel)⟩), fun q => ?_⟩
      show VV m_L_told w g 6 36 (QM m_L_told w g x) (fun b : Int32 × MS => b = x) 27 [some (.ref (wB w + 0)), some (.int p1), some (.int p2), some (.int p3), some (.int p4), some (.int p5), some (.ref (wB w + 183)), none] [.ref q] s (some ((3 : Int32), s))
      refine V_astore (pc := 27) (vs' := [some (.ref (wB w + 0)), some (.int p1), some (.int p2), some (.int p3), some (.int p4), some (.int p5), some (.ref (wB w + 183)), some (.ref q)]) dL_told_27 (Nat.le_of_ble_eq_true rfl) (Nat.le_of_ble_eq_true rfl) rfl ?_
      refine V_iconst (pc := 29) dL_told_29 ic_3 ?_
      exact V_ireti (pc := 30) dL_told_30 rfl (hk := fun h => h)
    exact absurd hb (by simp [h0, h1, h2])
  · show VV m_L_told w g 6 36 (QM m_L_told w g x) (fun b : Int32 × MS => b = x) 14 [some (.ref (wB w + 0)), some (.int p1), some (.int p2), some (.int p3), some (.int p4), some (.int p5), some (.ref (wB w + 183)), none] [.int v11, .int (0 : Int32), .ref (wB w + 183)] s11 _
    refine V_i2l (pc := 14) dL_told_14 ?_
    refine V_last (pc := 15) dL_told_15 (fun s15 => ?_)
    refine V_goto (pc := 16) (tgt := 31) dL_told_16 (by decide +kernel) ?_
    refine V_iconst (pc := 31) dL_told_31 ic_0 ?_
    exact V_ireti (pc := 32) dL_told_32 rfl (hk := fun h => h)
def f_L_share (n : Nat) (p1 : Int32) (p2 : Int32) (σ : MS) : Option (Int32 × MS) := (thn (f_X11_share n p1 p2 σ) (fun v5 s5 => (ltM (mu s5 183 0 v5) (fun s9 => some ((0 : Int32), s9)))) (fun e s => if e = 1 then some ((1 : Int32), s) else none))
set_option maxRecDepth 20000 in
set_option maxHeartbeats 2000000 in
theorem c_L_share (w : TG) (n : Nat) (p1 : Int32) (p2 : Int32) (σ : MS) : MCW m_L_share [(0, 10, 13, 13)] w [.ref (wB w + 0), .int p1, .int p2, .ref (wB w + 183)] σ (f_L_share n p1 p2 σ) := by
  refine V_methW (by decide +kernel) (Nat.le_of_ble_eq_true rfl) (by intro v hv; simp only [List.mem_cons, List.not_mem_nil, or_false] at hv; rcases hv with rfl | rfl | rfl | rfl <;> rfl) (fun g x ht => ?_)
  show VV m_L_share w g 0 0 (QM m_L_share w g x) (fun b : Int32 × MS => b = x) 0 [some (.ref (wB w + 0)), some (.int p1), some (.int p2), some (.ref (wB w + 183)), none] [] σ (f_L_share n p1 p2 σ)
  refine V_aload_n (pc := 0) dL_share_0 rfl rfl ?_
  refine V_iconst (pc := 1) dL_share_1 ic_0 ?_
  refine V_aload_n (pc := 2) dL_share_2 rfl rfl ?_
  refine V_iload_n (pc := 3) dL_share_3 rfl rfl ?_
  refine V_iload_n (pc := 4) dL_share_4 rfl rfl ?_
  refine VX_callC (pc := 5) (As := [.int p1, .int p2]) (rest := [.int (0 : Int32), .ref (wB w + 183)]) (c_X11_share w n p1 p2 σ) cw_L_39 rfl dL_share_5 kc_0 ci_11 ⟨Nat.le_of_ble_eq_true rfl, Nat.le_of_ble_eq_true rfl⟩ rfl rfl (Nat.le_of_ble_eq_true rfl) (Nat.le_of_ble_eq_true rfl) (Nat.le_of_ble_eq_true rfl) (fun e s b hb => ?_) (fun v5 s5 => ?_)
  · by_cases h1 : e = 1
    · subst h1
      refine ⟨[], ⟨0, 10, 13, 13⟩, [], by decide, ht.trans rfl, by decide, by decide, gx 682 (by decide +kernel) (by decide +kernel), (by intro u hu; cases hu), fun q => ?_⟩
      show VV m_L_share w g 2 12 (QM m_L_share w g x) (fun b : Int32 × MS => b = x) 13 [some (.ref (wB w + 0)), some (.int p1), some (.int p2), some (.ref (wB w + 183)), none] [.ref q] s (some ((1 : Int32), s))
      refine V_astore (pc := 13) (vs' := [some (.ref (wB w + 0)), some (.int p1), some (.int p2), some (.ref (wB w + 183)), some (.ref q)]) dL_share_13 (Nat.le_of_ble_eq_true rfl) (Nat.le_of_ble_eq_true rfl) rfl ?_
      refine V_iconst (pc := 15) dL_share_15 ic_1 ?_
      exact V_ireti (pc := 16) dL_share_16 rfl (hk := fun h => h)
    exact absurd hb (by simp [h1])
  · show VV m_L_share w g 2 12 (QM m_L_share w g x) (fun b : Int32 × MS => b = x) 8 [some (.ref (wB w + 0)), some (.int p1), some (.int p2), some (.ref (wB w + 183)), none] [.int v5, .int (0 : Int32), .ref (wB w + 183)] s5 _
    refine V_i2l (pc := 8) dL_share_8 ?_
    refine V_last (pc := 9) dL_share_9 (fun s9 => ?_)
    refine V_goto (pc := 10) (tgt := 17) dL_share_10 (by decide +kernel) ?_
    refine V_iconst (pc := 17) dL_share_17 ic_0 ?_
    exact V_ireti (pc := 18) dL_share_18 rfl (hk := fun h => h)
def f_L_wash (p1 : Int32) (p2 : Int32) (σ : MS) : Option (Int32 × MS) := (thn (f_X11_wash p1 p2 σ) (fun v5 s5 => (ltM (mu s5 183 0 v5) (fun s9 => some ((0 : Int32), s9)))) (fun e s => if e = 0 then some ((1 : Int32), s) else if e = 1 then some ((2 : Int32), s) else none))
set_option maxRecDepth 20000 in
set_option maxHeartbeats 2000000 in
theorem c_L_wash (w : TG) (p1 : Int32) (p2 : Int32) (σ : MS) : MCW m_L_wash [(0, 10, 13, 24), (0, 10, 17, 13)] w [.ref (wB w + 0), .int p1, .int p2, .ref (wB w + 183)] σ (f_L_wash p1 p2 σ) := by
  refine V_methW (by decide +kernel) (Nat.le_of_ble_eq_true rfl) (by intro v hv; simp only [List.mem_cons, List.not_mem_nil, or_false] at hv; rcases hv with rfl | rfl | rfl | rfl <;> rfl) (fun g x ht => ?_)
  show VV m_L_wash w g 0 0 (QM m_L_wash w g x) (fun b : Int32 × MS => b = x) 0 [some (.ref (wB w + 0)), some (.int p1), some (.int p2), some (.ref (wB w + 183)), none] [] σ (f_L_wash p1 p2 σ)
  refine V_aload_n (pc := 0) dL_wash_0 rfl rfl ?_
  refine V_iconst (pc := 1) dL_wash_1 ic_0 ?_
  refine V_aload_n (pc := 2) dL_wash_2 rfl rfl ?_
  refine V_iload_n (pc := 3) dL_wash_3 rfl rfl ?_
  refine V_iload_n (pc := 4) dL_wash_4 rfl rfl ?_
  refine VX_callC (pc := 5) (As := [.int p1, .int p2]) (rest := [.int (0 : Int32), .ref (wB w + 183)]) (c_X11_wash w p1 p2 σ) cw_L_42 rfl dL_wash_5 kc_0 ci_11 ⟨Nat.le_of_ble_eq_true rfl, Nat.le_of_ble_eq_true rfl⟩ rfl rfl (Nat.le_of_ble_eq_true rfl) (Nat.le_of_ble_eq_true rfl) (Nat.le_of_ble_eq_true rfl) (fun e s b hb => ?_) (fun v5 s5 => ?_)
  · by_cases h0 : e = 0
    · subst h0
      refine ⟨[], ⟨0, 10, 13, 24⟩, [⟨0, 10, 17, 13⟩], by decide, ht.trans rfl, by decide, by decide, gx 975 (by decide +kernel) (by decide +kernel), (by intro u hu; cases hu), fun q => ?_⟩
      show VV m_L_wash w g 3 18 (QM m_L_wash w g x) (fun b : Int32 × MS => b = x) 13 [some (.ref (wB w + 0)), some (.int p1), some (.int p2), some (.ref (wB w + 183)), none] [.ref q] s (some ((1 : Int32), s))
      refine V_astore (pc := 13) (vs' := [some (.ref (wB w + 0)), some (.int p1), some (.int p2), some (.ref (wB w + 183)), some (.ref q)]) dL_wash_13 (Nat.le_of_ble_eq_true rfl) (Nat.le_of_ble_eq_true rfl) rfl ?_
      refine V_iconst (pc := 15) dL_wash_15 ic_1 ?_
      exact V_ireti (pc := 16) dL_wash_16 rfl (hk := fun h => h)
    by_cases h1 : e = 1
    · subst h1
      refine ⟨[⟨0, 10, 13, 24⟩], ⟨0, 10, 17, 13⟩, [], by decide, ht.trans rfl, by decide, by decide, gx 682 (by decide +kernel) (by decide +kernel), (by intro u hu; rw [List.mem_singleton.mp hu]; exact ⟨by decide, 0, by decide, by decide, gm (by decide +kernel) (by decide +kernel)⟩), fun q => ?_⟩
      show VV m_L_wash w g 3 18 (QM m_L_wash w g x) (fun b : Int32 × MS => b = x) 17 [some (.ref (wB w + 0)), some (.int p1), some (.int p2), some (.ref (wB w + 183)), none] [.ref q] s (some ((2 : Int32), s))
      refine V_astore (pc := 17) (vs' := [some (.ref (wB w + 0)), some (.int p1), some (.int p2), some (.ref (wB w + 183)), some (.ref q)]) dL_wash_17 (Nat.le_of_ble_eq_true rfl) (Nat.le_of_ble_eq_true rfl) rfl ?_
      refine V_iconst (pc := 19) dL_wash_19 ic_2 ?_
      exact V_ireti (pc := 20) dL_wash_20 rfl (hk := fun h => h)
    exact absurd hb (by simp [h0, h1])
  · show VV m_L_wash w g 3 18 (QM m_L_wash w g x) (fun b : Int32 × MS => b = x) 8 [some (.ref (wB w + 0)), some (.int p1), some (.int p2), some (.ref (wB w + 183)), none] [.int v5, .int (0 : Int32), .ref (wB w + 183)] s5 _
    refine V_i2l (pc := 8) dL_wash_8 ?_
    refine V_last (pc := 9) dL_wash_9 (fun s9 => ?_)
    refine V_goto (pc := 10) (tgt := 21) dL_wash_10 (by decide +kernel) ?_
    refine V_iconst (pc := 21) dL_wash_21 ic_0 ?_
    exact V_ireti (pc := 22) dL_wash_22 rfl (hk := fun h => h)
def f_L_go (p1 : Int32) (p2 : Int32) (σ : MS) : Option (Int32 × MS) := (thn (f_X11_go p1 p2 σ) (fun v5 s5 => (ltM (mu s5 183 0 v5) (fun s9 => some ((0 : Int32), s9)))) (fun e s => if e = 0 then some ((1 : Int32), s) else none))
set_option maxRecDepth 20000 in
set_option maxHeartbeats 2000000 in
theorem c_L_go (w : TG) (p1 : Int32) (p2 : Int32) (σ : MS) : MCW m_L_go [(0, 10, 13, 24)] w [.ref (wB w + 0), .int p1, .int p2, .ref (wB w + 183)] σ (f_L_go p1 p2 σ) := by
  refine V_methW (by decide +kernel) (Nat.le_of_ble_eq_true rfl) (by intro v hv; simp only [List.mem_cons, List.not_mem_nil, or_false] at hv; rcases hv with rfl | rfl | rfl | rfl <;> rfl) (fun g x ht => ?_)
  show VV m_L_go w g 0 0 (QM m_L_go w g x) (fun b : Int32 × MS => b = x) 0 [some (.ref (wB w + 0)), some (.int p1), some (.int p2), some (.ref (wB w + 183)), none] [] σ (f_L_go p1 p2 σ)
  refine V_aload_n (pc := 0) dL_go_0 rfl rfl ?_
  refine V_iconst (pc := 1) dL_go_1 ic_0 ?_
  refine V_aload_n (pc := 2) dL_go_2 rfl rfl ?_
  refine V_iload_n (pc := 3) dL_go_3 rfl rfl ?_
  refine V_iload_n (pc := 4) dL_go_4 rfl rfl ?_
  refine VX_callC (pc := 5) (As := [.int p1, .int p2]) (rest := [.int (0 : Int32), .ref (wB w + 183)]) (c_X11_go w p1 p2 σ) cw_L_45 rfl dL_go_5 kc_0 ci_11 ⟨Nat.le_of_ble_eq_true rfl, Nat.le_of_ble_eq_true rfl⟩ rfl rfl (Nat.le_of_ble_eq_true rfl) (Nat.le_of_ble_eq_true rfl) (Nat.le_of_ble_eq_true rfl) (fun e s b hb => ?_) (fun v5 s5 => ?_)
  · by_cases h0 : e = 0
    · subst h0
      refine ⟨[], ⟨0, 10, 13, 24⟩, [], by decide, ht.trans rfl, by decide, by decide, gx 975 (by decide +kernel) (by decide +kernel), (by intro u hu; cases hu), fun q => ?_⟩
      show VV m_L_go w g 2 12 (QM m_L_go w g x) (fun b : Int32 × MS => b = x) 13 [some (.ref (wB w + 0)), some (.int p1), some (.int p2), some (.ref (wB w + 183)), none] [.ref q] s (some ((1 : Int32), s))
      refine V_astore (pc := 13) (vs' := [some (.ref (wB w + 0)), some (.int p1), some (.int p2), some (.ref (wB w + 183)), some (.ref q)]) dL_go_13 (Nat.le_of_ble_eq_true rfl) (Nat.le_of_ble_eq_true rfl) rfl ?_
      refine V_iconst (pc := 15) dL_go_15 ic_1 ?_
      exact V_ireti (pc := 16) dL_go_16 rfl (hk := fun h => h)
    exact absurd hb (by simp [h0])
  · show VV m_L_go w g 2 12 (QM m_L_go w g x) (fun b : Int32 × MS => b = x) 8 [some (.ref (wB w + 0)), some (.int p1), some (.int p2), some (.ref (wB w + 183)), none] [.int v5, .int (0 : Int32), .ref (wB w + 183)] s5 _
    refine V_i2l (pc := 8) dL_go_8 ?_
    refine V_last (pc := 9) dL_go_9 (fun s9 => ?_)
    refine V_goto (pc := 10) (tgt := 17) dL_go_10 (by decide +kernel) ?_
    refine V_iconst (pc := 17) dL_go_17 ic_0 ?_
    exact V_ireti (pc := 18) dL_go_18 rfl (hk := fun h => h)
def J_L_strew_16 (t0 : Int32) (σ : MS) : Option (Int32 × MS) := (ltM (mu σ 183 0 t0) (fun s16 => some ((0 : Int32), s16)))
def f_L_strew (p1 : Int32) (p2 : Int32) (σ : MS) : Option (Int32 × MS) := (thn (f_X11_strew p1 p2 σ) (fun v5 s5 => (if v5 = 0 then J_L_strew_16 (0 : Int32) s5 else J_L_strew_16 (1 : Int32) s5)) (fun e s => if e = 0 then some ((1 : Int32), s) else none))
set_option maxRecDepth 20000 in
set_option maxHeartbeats 2000000 in
theorem c_L_strew (w : TG) (p1 : Int32) (p2 : Int32) (σ : MS) : MCW m_L_strew [(0, 17, 20, 24)] w [.ref (wB w + 0), .int p1, .int p2, .ref (wB w + 183)] σ (f_L_strew p1 p2 σ) := by
  refine V_methW (by decide +kernel) (Nat.le_of_ble_eq_true rfl) (by intro v hv; simp only [List.mem_cons, List.not_mem_nil, or_false] at hv; rcases hv with rfl | rfl | rfl | rfl <;> rfl) (fun g x ht => ?_)
  show VV m_L_strew w g 0 0 (QM m_L_strew w g x) (fun b : Int32 × MS => b = x) 0 [some (.ref (wB w + 0)), some (.int p1), some (.int p2), some (.ref (wB w + 183)), none] [] σ (f_L_strew p1 p2 σ)
  have hJ16 : ∀ (t0 : Int32) (σ : MS), VV m_L_strew w g 1 6 (QM m_L_strew w g x) (fun b : Int32 × MS => b = x) 16 [none, none, none, none, none] [.long (t0).toInt64, .int (0 : Int32), .ref (wB w + 183)] σ (J_L_strew_16 t0 σ) := by
    intro t0 σ
    refine V_last (pc := 16) dL_strew_16 (fun s16 => ?_)
    refine V_goto (pc := 17) (tgt := 24) dL_strew_17 (by decide +kernel) ?_
    refine V_iconst (pc := 24) dL_strew_24 ic_0 ?_
    exact V_ireti (pc := 25) dL_strew_25 rfl (hk := fun h => h)
  refine V_aload_n (pc := 0) dL_strew_0 rfl rfl ?_
  refine V_iconst (pc := 1) dL_strew_1 ic_0 ?_
  refine V_aload_n (pc := 2) dL_strew_2 rfl rfl ?_
  refine V_iload_n (pc := 3) dL_strew_3 rfl rfl ?_
  refine V_iload_n (pc := 4) dL_strew_4 rfl rfl ?_
  refine VX_callC (pc := 5) (As := [.int p1, .int p2]) (rest := [.int (0 : Int32), .ref (wB w + 183)]) (c_X11_strew w p1 p2 σ) cw_L_48 rfl dL_strew_5 kc_0 ci_11 ⟨Nat.le_of_ble_eq_true rfl, Nat.le_of_ble_eq_true rfl⟩ rfl rfl (Nat.le_of_ble_eq_true rfl) (Nat.le_of_ble_eq_true rfl) (Nat.le_of_ble_eq_true rfl) (fun e s b hb => ?_) (fun v5 s5 => ?_)
  · by_cases h0 : e = 0
    · subst h0
      refine ⟨[], ⟨0, 17, 20, 24⟩, [], by decide, ht.trans rfl, by decide, by decide, gx 975 (by decide +kernel) (by decide +kernel), (by intro u hu; cases hu), fun q => ?_⟩
      show VV m_L_strew w g 1 6 (QM m_L_strew w g x) (fun b : Int32 × MS => b = x) 20 [some (.ref (wB w + 0)), some (.int p1), some (.int p2), some (.ref (wB w + 183)), none] [.ref q] s (some ((1 : Int32), s))
      refine V_astore (pc := 20) (vs' := [some (.ref (wB w + 0)), some (.int p1), some (.int p2), some (.ref (wB w + 183)), some (.ref q)]) dL_strew_20 (Nat.le_of_ble_eq_true rfl) (Nat.le_of_ble_eq_true rfl) rfl ?_
      refine V_iconst (pc := 22) dL_strew_22 ic_1 ?_
      exact V_ireti (pc := 23) dL_strew_23 rfl (hk := fun h => h)
    exact absurd hb (by simp [h0])
  · show VV m_L_strew w g 1 6 (QM m_L_strew w g x) (fun b : Int32 × MS => b = x) 8 [some (.ref (wB w + 0)), some (.int p1), some (.int p2), some (.ref (wB w + 183)), none] [.int v5, .int (0 : Int32), .ref (wB w + 183)] s5 _
    refine V_if_eq (pc := 8) (tgt := 15) dL_strew_8 (by decide +kernel) ?_ ?_
    · refine V_lconst (pc := 15) (v := ((0 : Int32)).toInt64) dL_strew_15 rfl ?_
      refine V_widen (kc' := 1) (ks' := 6) (Nat.le_of_ble_eq_true rfl) (Nat.le_of_ble_eq_true rfl) ?_
      refine V_sub (vs' := [none, none, none, none, none]) (show vless _ _ from trivial) rfl ?_
      exact hJ16 (0 : Int32) s5
    · refine V_lconst (pc := 11) (v := ((1 : Int32)).toInt64) dL_strew_11 rfl ?_
      refine V_goto (pc := 12) (tgt := 16) dL_strew_12 (by decide +kernel) ?_
      refine V_widen (kc' := 1) (ks' := 6) (Nat.le_of_ble_eq_true rfl) (Nat.le_of_ble_eq_true rfl) ?_
      refine V_sub (vs' := [none, none, none, none, none]) (show vless _ _ from trivial) rfl ?_
      exact hJ16 (1 : Int32) s5
def f_L_wed (p1 : Int32) (p2 : Int32) (σ : MS) : Option (Int32 × MS) := (thn (f_X11_wed p1 p2 σ) (fun v3 s3 => some ((0 : Int32), s3)) (fun e s => if e = 0 then some ((1 : Int32), s) else if e = 1 then some ((2 : Int32), s) else if e = 3 then some ((3 : Int32), s) else none))
set_option maxRecDepth 20000 in
set_option maxHeartbeats 2000000 in
theorem c_L_wed (w : TG) (p1 : Int32) (p2 : Int32) (σ : MS) : MCW m_L_wed [(0, 6, 9, 24), (0, 6, 12, 13), (0, 6, 15, 56)] w [.ref (wB w + 0), .int p1, .int p2] σ (f_L_wed p1 p2 σ) := by
  refine V_methW (by decide +kernel) (Nat.le_of_ble_eq_true rfl) (by intro v hv; simp only [List.mem_cons, List.not_mem_nil, or_false] at hv; rcases hv with rfl | rfl | rfl <;> rfl) (fun g x ht => ?_)
  show VV m_L_wed w g 0 0 (QM m_L_wed w g x) (fun b : Int32 × MS => b = x) 0 [some (.ref (wB w + 0)), some (.int p1), some (.int p2), none] [] σ (f_L_wed p1 p2 σ)
  refine V_aload_n (pc := 0) dL_wed_0 rfl rfl ?_
  refine V_iload_n (pc := 1) dL_wed_1 rfl rfl ?_
  refine V_iload_n (pc := 2) dL_wed_2 rfl rfl ?_
  refine VX_callC (pc := 3) (As := [.int p1, .int p2]) (rest := []) (c_X11_wed w p1 p2 σ) cw_L_52 rfl dL_wed_3 kc_0 ci_11 ⟨Nat.le_of_ble_eq_true rfl, Nat.le_of_ble_eq_true rfl⟩ rfl rfl (Nat.le_of_ble_eq_true rfl) (Nat.le_of_ble_eq_true rfl) (Nat.le_of_ble_eq_true rfl) (fun e s b hb => ?_) (fun v3 s3 => ?_)
  · by_cases h0 : e = 0
    · subst h0
      refine ⟨[], ⟨0, 6, 9, 24⟩, [⟨0, 6, 12, 13⟩, ⟨0, 6, 15, 56⟩], by decide, ht.trans rfl, by decide, by decide, gx 975 (by decide +kernel) (by decide +kernel), (by intro u hu; cases hu), fun q => ?_⟩
      show VV m_L_wed w g 4 24 (QM m_L_wed w g x) (fun b : Int32 × MS => b = x) 9 [some (.ref (wB w + 0)), some (.int p1), some (.int p2), none] [.ref q] s (some ((1 : Int32), s))
      refine V_astore_n (pc := 9) (vs' := [some (.ref (wB w + 0)), some (.int p1), some (.int p2), some (.ref q)]) dL_wed_9 rfl (Nat.le_of_ble_eq_true rfl) (Nat.le_of_ble_eq_true rfl) rfl ?_
      refine V_iconst (pc := 10) dL_wed_10 ic_1 ?_
      exact V_ireti (pc := 11) dL_wed_11 rfl (hk := fun h => h)
    by_cases h1 : e = 1
    · subst h1
      refine ⟨[⟨0, 6, 9, 24⟩], ⟨0, 6, 12, 13⟩, [⟨0, 6, 15, 56⟩], by decide, ht.trans rfl, by decide, by decide, gx 682 (by decide +kernel) (by decide +kernel), (by intro u hu; rw [List.mem_singleton.mp hu]; exact ⟨by decide, 0, by decide, by decide, gm (by decide +kernel) (by decide +kernel)⟩), fun q => ?_⟩
      show VV m_L_wed w g 4 24 (QM m_L_wed w g x) (fun b : Int32 × MS => b = x) 12 [some (.ref (wB w + 0)), some (.int p1), some (.int p2), none] [.ref q] s (some ((2 : Int32), s))
      refine V_astore_n (pc := 12) (vs' := [some (.ref (wB w + 0)), some (.int p1), some (.int p2), some (.ref q)]) dL_wed_12 rfl (Nat.le_of_ble_eq_true rfl) (Nat.le_of_ble_eq_true rfl) rfl ?_
      refine V_iconst (pc := 13) dL_wed_13 ic_2 ?_
      exact V_ireti (pc := 14) dL_wed_14 rfl (hk := fun h => h)
    by_cases h3 : e = 3
    · subst h3
      refine ⟨[⟨0, 6, 9, 24⟩, ⟨0, 6, 12, 13⟩], ⟨0, 6, 15, 56⟩, [], by decide, ht.trans rfl, by decide, by decide, gx 1157 (by decide +kernel) (by decide +kernel), (by intro u hu; simp only [List.mem_cons, List.not_mem_nil, or_false] at hu; rcases hu with rfl | rfl <;> first | exact ⟨by decide, 0, by decide, by decide, gm (by decide +kernel) (by decide +kernel)⟩ | exact ⟨by decide, 1, by decide, by decide, gm (by decide +kernel) (by decide +kernel)⟩), fun q => ?_⟩
      show VV m_L_wed w g 4 24 (QM m_L_wed w g x) (fun b : Int32 × MS => b = x) 15 [some (.ref (wB w + 0)), some (.int p1), some (.int p2), none] [.ref q] s (some ((3 : Int32), s))
      refine V_astore_n (pc := 15) (vs' := [some (.ref (wB w + 0)), some (.int p1), some (.int p2), some (.ref q)]) dL_wed_15 rfl (Nat.le_of_ble_eq_true rfl) (Nat.le_of_ble_eq_true rfl) rfl ?_
      refine V_iconst (pc := 16) dL_wed_16 ic_3 ?_
      exact V_ireti (pc := 17) dL_wed_17 rfl (hk := fun h => h)
    exact absurd hb (by simp [h0, h1, h3])
  · show VV m_L_wed w g 4 24 (QM m_L_wed w g x) (fun b : Int32 × MS => b = x) 6 [some (.ref (wB w + 0)), some (.int p1), some (.int p2), none] [] s3 _
    refine V_goto (pc := 6) (tgt := 18) dL_wed_6 (by decide +kernel) ?_
    refine V_iconst (pc := 18) dL_wed_18 ic_0 ?_
    exact V_ireti (pc := 19) dL_wed_19 rfl (hk := fun h => h)
def f_L_clear (p1 : Int32) (σ : MS) : Option (Int32 × MS) := (thn (f_X11_clear p1 σ) (fun v4 s4 => (ltM (mu s4 183 0 v4) (fun s8 => some ((0 : Int32), s8)))) (fun e s => if e = 0 then some ((1 : Int32), s) else none))
set_option maxRecDepth 20000 in
set_option maxHeartbeats 2000000 in
theorem c_L_clear (w : TG) (p1 : Int32) (σ : MS) : MCW m_L_clear [(0, 9, 12, 24)] w [.ref (wB w + 0), .int p1, .ref (wB w + 183)] σ (f_L_clear p1 σ) := by
  refine V_methW (by decide +kernel) (Nat.le_of_ble_eq_true rfl) (by intro v hv; simp only [List.mem_cons, List.not_mem_nil, or_false] at hv; rcases hv with rfl | rfl | rfl <;> rfl) (fun g x ht => ?_)
  show VV m_L_clear w g 0 0 (QM m_L_clear w g x) (fun b : Int32 × MS => b = x) 0 [some (.ref (wB w + 0)), some (.int p1), some (.ref (wB w + 183)), none] [] σ (f_L_clear p1 σ)
  refine V_aload_n (pc := 0) dL_clear_0 rfl rfl ?_
  refine V_iconst (pc := 1) dL_clear_1 ic_0 ?_
  refine V_aload_n (pc := 2) dL_clear_2 rfl rfl ?_
  refine V_iload_n (pc := 3) dL_clear_3 rfl rfl ?_
  refine VX_callC (pc := 4) (As := [.int p1]) (rest := [.int (0 : Int32), .ref (wB w + 183)]) (c_X11_clear w p1 σ) cw_L_58 rfl dL_clear_4 kc_0 ci_11 ⟨Nat.le_of_ble_eq_true rfl, Nat.le_of_ble_eq_true rfl⟩ rfl rfl (Nat.le_of_ble_eq_true rfl) (Nat.le_of_ble_eq_true rfl) (Nat.le_of_ble_eq_true rfl) (fun e s b hb => ?_) (fun v4 s4 => ?_)
  · by_cases h0 : e = 0
    · subst h0
      refine ⟨[], ⟨0, 9, 12, 24⟩, [], by decide, ht.trans rfl, by decide, by decide, gx 975 (by decide +kernel) (by decide +kernel), (by intro u hu; cases hu), fun q => ?_⟩
      show VV m_L_clear w g 1 6 (QM m_L_clear w g x) (fun b : Int32 × MS => b = x) 12 [some (.ref (wB w + 0)), some (.int p1), some (.ref (wB w + 183)), none] [.ref q] s (some ((1 : Int32), s))
      refine V_astore_n (pc := 12) (vs' := [some (.ref (wB w + 0)), some (.int p1), some (.ref (wB w + 183)), some (.ref q)]) dL_clear_12 rfl (Nat.le_of_ble_eq_true rfl) (Nat.le_of_ble_eq_true rfl) rfl ?_
      refine V_iconst (pc := 13) dL_clear_13 ic_1 ?_
      exact V_ireti (pc := 14) dL_clear_14 rfl (hk := fun h => h)
    exact absurd hb (by simp [h0])
  · show VV m_L_clear w g 1 6 (QM m_L_clear w g x) (fun b : Int32 × MS => b = x) 7 [some (.ref (wB w + 0)), some (.int p1), some (.ref (wB w + 183)), none] [.int v4, .int (0 : Int32), .ref (wB w + 183)] s4 _
    refine V_i2l (pc := 7) dL_clear_7 ?_
    refine V_last (pc := 8) dL_clear_8 (fun s8 => ?_)
    refine V_goto (pc := 9) (tgt := 15) dL_clear_9 (by decide +kernel) ?_
    refine V_iconst (pc := 15) dL_clear_15 ic_0 ?_
    exact V_ireti (pc := 16) dL_clear_16 rfl (hk := fun h => h)
def f_L_days (n : Nat) (p1 : Int32) (σ : MS) : Option (Int32 × MS) := (thn (f_X11_days n p1 σ) (fun v4 s4 => (ltM (mu s4 183 0 v4) (fun s8 => some ((0 : Int32), s8)))) (fun e s => if e = 1 then some ((1 : Int32), s) else none))
set_option maxRecDepth 20000 in
set_option maxHeartbeats 2000000 in
theorem c_L_days (w : TG) (n : Nat) (p1 : Int32) (σ : MS) : MCW m_L_days [(0, 9, 12, 13)] w [.ref (wB w + 0), .int p1, .ref (wB w + 183)] σ (f_L_days n p1 σ) := by
  refine V_methW (by decide +kernel) (Nat.le_of_ble_eq_true rfl) (by intro v hv; simp only [List.mem_cons, List.not_mem_nil, or_false] at hv; rcases hv with rfl | rfl | rfl <;> rfl) (fun g x ht => ?_)
  show VV m_L_days w g 0 0 (QM m_L_days w g x) (fun b : Int32 × MS => b = x) 0 [some (.ref (wB w + 0)), some (.int p1), some (.ref (wB w + 183)), none] [] σ (f_L_days n p1 σ)
  refine V_aload_n (pc := 0) dL_days_0 rfl rfl ?_
  refine V_iconst (pc := 1) dL_days_1 ic_0 ?_
  refine V_aload_n (pc := 2) dL_days_2 rfl rfl ?_
  refine V_iload_n (pc := 3) dL_days_3 rfl rfl ?_
  refine VX_callC (pc := 4) (As := [.int p1]) (rest := [.int (0 : Int32), .ref (wB w + 183)]) (c_X11_days w n p1 σ) cw_L_62 rfl dL_days_4 kc_0 ci_11 ⟨Nat.le_of_ble_eq_true rfl, Nat.le_of_ble_eq_true rfl⟩ rfl rfl (Nat.le_of_ble_eq_true rfl) (Nat.le_of_ble_eq_true rfl) (Nat.le_of_ble_eq_true rfl) (fun e s b hb => ?_) (fun v4 s4 => ?_)
  · by_cases h1 : e = 1
    · subst h1
      refine ⟨[], ⟨0, 9, 12, 13⟩, [], by decide, ht.trans rfl, by decide, by decide, gx 682 (by decide +kernel) (by decide +kernel), (by intro u hu; cases hu), fun q => ?_⟩
      show VV m_L_days w g 1 6 (QM m_L_days w g x) (fun b : Int32 × MS => b = x) 12 [some (.ref (wB w + 0)), some (.int p1), some (.ref (wB w + 183)), none] [.ref q] s (some ((1 : Int32), s))
      refine V_astore_n (pc := 12) (vs' := [some (.ref (wB w + 0)), some (.int p1), some (.ref (wB w + 183)), some (.ref q)]) dL_days_12 rfl (Nat.le_of_ble_eq_true rfl) (Nat.le_of_ble_eq_true rfl) rfl ?_
      refine V_iconst (pc := 13) dL_days_13 ic_1 ?_
      exact V_ireti (pc := 14) dL_days_14 rfl (hk := fun h => h)
    exact absurd hb (by simp [h1])
  · show VV m_L_days w g 1 6 (QM m_L_days w g x) (fun b : Int32 × MS => b = x) 7 [some (.ref (wB w + 0)), some (.int p1), some (.ref (wB w + 183)), none] [.int v4, .int (0 : Int32), .ref (wB w + 183)] s4 _
    refine V_i2l (pc := 7) dL_days_7 ?_
    refine V_last (pc := 8) dL_days_8 (fun s8 => ?_)
    refine V_goto (pc := 9) (tgt := 15) dL_days_9 (by decide +kernel) ?_
    refine V_iconst (pc := 15) dL_days_15 ic_0 ?_
    exact V_ireti (pc := 16) dL_days_16 rfl (hk := fun h => h)
def f_L_free (n : Nat) (p1 : Int32) (σ : MS) : Option (Int32 × MS) := (thn (f_X11_free n p1 σ) (fun v4 s4 => (ltM (mu s4 183 0 v4) (fun s8 => some ((0 : Int32), s8)))) (fun e s => if e = 1 then some ((1 : Int32), s) else none))
set_option maxRecDepth 20000 in
set_option maxHeartbeats 2000000 in
theorem c_L_free (w : TG) (n : Nat) (p1 : Int32) (σ : MS) : MCW m_L_free [(0, 9, 12, 13)] w [.ref (wB w + 0), .int p1, .ref (wB w + 183)] σ (f_L_free n p1 σ) := by
  refine V_methW (by decide +kernel) (Nat.le_of_ble_eq_true rfl) (by intro v hv; simp only [List.mem_cons, List.not_mem_nil, or_false] at hv; rcases hv with rfl | rfl | rfl <;> rfl) (fun g x ht => ?_)
  show VV m_L_free w g 0 0 (QM m_L_free w g x) (fun b : Int32 × MS => b = x) 0 [some (.ref (wB w + 0)), some (.int p1), some (.ref (wB w + 183)), none] [] σ (f_L_free n p1 σ)
  refine V_aload_n (pc := 0) dL_free_0 rfl rfl ?_
  refine V_iconst (pc := 1) dL_free_1 ic_0 ?_
  refine V_aload_n (pc := 2) dL_free_2 rfl rfl ?_
  refine V_iload_n (pc := 3) dL_free_3 rfl rfl ?_
  refine VX_callC (pc := 4) (As := [.int p1]) (rest := [.int (0 : Int32), .ref (wB w + 183)]) (c_X11_free w n p1 σ) cw_L_65 rfl dL_free_4 kc_0 ci_11 ⟨Nat.le_of_ble_eq_true rfl, Nat.le_of_ble_eq_true rfl⟩ rfl rfl (Nat.le_of_ble_eq_true rfl) (Nat.le_of_ble_eq_true rfl) (Nat.le_of_ble_eq_true rfl) (fun e s b hb => ?_) (fun v4 s4 => ?_)
  · by_cases h1 : e = 1
    · subst h1
      refine ⟨[], ⟨0, 9, 12, 13⟩, [], by decide, ht.trans rfl, by decide, by decide, gx 682 (by decide +kernel) (by decide +kernel), (by intro u hu; cases hu), fun q => ?_⟩
      show VV m_L_free w g 1 6 (QM m_L_free w g x) (fun b : Int32 × MS => b = x) 12 [some (.ref (wB w + 0)), some (.int p1), some (.ref (wB w + 183)), none] [.ref q] s (some ((1 : Int32), s))
      refine V_astore_n (pc := 12) (vs' := [some (.ref (wB w + 0)), some (.int p1), some (.ref (wB w + 183)), some (.ref q)]) dL_free_12 rfl (Nat.le_of_ble_eq_true rfl) (Nat.le_of_ble_eq_true rfl) rfl ?_
      refine V_iconst (pc := 13) dL_free_13 ic_1 ?_
      exact V_ireti (pc := 14) dL_free_14 rfl (hk := fun h => h)
    exact absurd hb (by simp [h1])
  · show VV m_L_free w g 1 6 (QM m_L_free w g x) (fun b : Int32 × MS => b = x) 7 [some (.ref (wB w + 0)), some (.int p1), some (.ref (wB w + 183)), none] [.int v4, .int (0 : Int32), .ref (wB w + 183)] s4 _
    refine V_i2l (pc := 7) dL_free_7 ?_
    refine V_last (pc := 8) dL_free_8 (fun s8 => ?_)
    refine V_goto (pc := 9) (tgt := 15) dL_free_9 (by decide +kernel) ?_
    refine V_iconst (pc := 15) dL_free_15 ic_0 ?_
    exact V_ireti (pc := 16) dL_free_16 rfl (hk := fun h => h)
def f_L_would (n : Nat) (p1 : Int32) (p2 : Int32) (σ : MS) : Option (Int32 × MS) := (thn (f_X11_would n p1 p2 σ) (fun v5 s5 => (ltM (mu s5 183 0 v5) (fun s9 => some ((0 : Int32), s9)))) (fun e s => if e = 1 then some ((1 : Int32), s) else none))
set_option maxRecDepth 20000 in
set_option maxHeartbeats 2000000 in
theorem c_L_would (w : TG) (n : Nat) (p1 : Int32) (p2 : Int32) (σ : MS) : MCW m_L_would [(0, 10, 13, 13)] w [.ref (wB w + 0), .int p1, .int p2, .ref (wB w + 183)] σ (f_L_would n p1 p2 σ) := by
  refine V_methW (by decide +kernel) (Nat.le_of_ble_eq_true rfl) (by intro v hv; simp only [List.mem_cons, List.not_mem_nil, or_false] at hv; rcases hv with rfl | rfl | rfl | rfl <;> rfl) (fun g x ht => ?_)
  show VV m_L_would w g 0 0 (QM m_L_would w g x) (fun b : Int32 × MS => b = x) 0 [some (.ref (wB w + 0)), some (.int p1), some (.int p2), some (.ref (wB w + 183)), none] [] σ (f_L_would n p1 p2 σ)
  refine V_aload_n (pc := 0) dL_would_0 rfl rfl ?_
  refine V_iconst (pc := 1) dL_would_1 ic_0 ?_
  refine V_aload_n (pc := 2) dL_would_2 rfl rfl ?_
  refine V_iload_n (pc := 3) dL_would_3 rfl rfl ?_
  refine V_iload_n (pc := 4) dL_would_4 rfl rfl ?_
  refine VX_callC (pc := 5) (As := [.int p1, .int p2]) (rest := [.int (0 : Int32), .ref (wB w + 183)]) (c_X11_would w n p1 p2 σ) cw_L_68 rfl dL_would_5 kc_0 ci_11 ⟨Nat.le_of_ble_eq_true rfl, Nat.le_of_ble_eq_true rfl⟩ rfl rfl (Nat.le_of_ble_eq_true rfl) (Nat.le_of_ble_eq_true rfl) (Nat.le_of_ble_eq_true rfl) (fun e s b hb => ?_) (fun v5 s5 => ?_)
  · by_cases h1 : e = 1
    · subst h1
      refine ⟨[], ⟨0, 10, 13, 13⟩, [], by decide, ht.trans rfl, by decide, by decide, gx 682 (by decide +kernel) (by decide +kernel), (by intro u hu; cases hu), fun q => ?_⟩
      show VV m_L_would w g 2 12 (QM m_L_would w g x) (fun b : Int32 × MS => b = x) 13 [some (.ref (wB w + 0)), some (.int p1), some (.int p2), some (.ref (wB w + 183)), none] [.ref q] s (some ((1 : Int32), s))
      refine V_astore (pc := 13) (vs' := [some (.ref (wB w + 0)), some (.int p1), some (.int p2), some (.ref (wB w + 183)), some (.ref q)]) dL_would_13 (Nat.le_of_ble_eq_true rfl) (Nat.le_of_ble_eq_true rfl) rfl ?_
      refine V_iconst (pc := 15) dL_would_15 ic_1 ?_
      exact V_ireti (pc := 16) dL_would_16 rfl (hk := fun h => h)
    exact absurd hb (by simp [h1])
  · show VV m_L_would w g 2 12 (QM m_L_would w g x) (fun b : Int32 × MS => b = x) 8 [some (.ref (wB w + 0)), some (.int p1), some (.int p2), some (.ref (wB w + 183)), none] [.int v5, .int (0 : Int32), .ref (wB w + 183)] s5 _
    refine V_i2l (pc := 8) dL_would_8 ?_
    refine V_last (pc := 9) dL_would_9 (fun s9 => ?_)
    refine V_goto (pc := 10) (tgt := 17) dL_would_10 (by decide +kernel) ?_
    refine V_iconst (pc := 17) dL_would_17 ic_0 ?_
    exact V_ireti (pc := 18) dL_would_18 rfl (hk := fun h => h)
def f_L_widest (n : Nat) (p1 : Int32) (p2 : Int32) (σ : MS) : Option (Int32 × MS) := (thn (f_X11_widest n p1 p2 σ) (fun v5 s5 => (ltM (mu s5 183 0 v5) (fun s9 => some ((0 : Int32), s9)))) (fun e s => if e = 1 then some ((1 : Int32), s) else none))
set_option maxRecDepth 20000 in
set_option maxHeartbeats 2000000 in
theorem c_L_widest (w : TG) (n : Nat) (p1 : Int32) (p2 : Int32) (σ : MS) : MCW m_L_widest [(0, 10, 13, 13)] w [.ref (wB w + 0), .int p1, .int p2, .ref (wB w + 183)] σ (f_L_widest n p1 p2 σ) := by
  refine V_methW (by decide +kernel) (Nat.le_of_ble_eq_true rfl) (by intro v hv; simp only [List.mem_cons, List.not_mem_nil, or_false] at hv; rcases hv with rfl | rfl | rfl | rfl <;> rfl) (fun g x ht => ?_)
  show VV m_L_widest w g 0 0 (QM m_L_widest w g x) (fun b : Int32 × MS => b = x) 0 [some (.ref (wB w + 0)), some (.int p1), some (.int p2), some (.ref (wB w + 183)), none] [] σ (f_L_widest n p1 p2 σ)
  refine V_aload_n (pc := 0) dL_widest_0 rfl rfl ?_
  refine V_iconst (pc := 1) dL_widest_1 ic_0 ?_
  refine V_aload_n (pc := 2) dL_widest_2 rfl rfl ?_
  refine V_iload_n (pc := 3) dL_widest_3 rfl rfl ?_
  refine V_iload_n (pc := 4) dL_widest_4 rfl rfl ?_
  refine VX_callC (pc := 5) (As := [.int p1, .int p2]) (rest := [.int (0 : Int32), .ref (wB w + 183)]) (c_X11_widest w n p1 p2 σ) cw_L_71 rfl dL_widest_5 kc_0 ci_11 ⟨Nat.le_of_ble_eq_true rfl, Nat.le_of_ble_eq_true rfl⟩ rfl rfl (Nat.le_of_ble_eq_true rfl) (Nat.le_of_ble_eq_true rfl) (Nat.le_of_ble_eq_true rfl) (fun e s b hb => ?_) (fun v5 s5 => ?_)
  · by_cases h1 : e = 1
    · subst h1
      refine ⟨[], ⟨0, 10, 13, 13⟩, [], by decide, ht.trans rfl, by decide, by decide, gx 682 (by decide +kernel) (by decide +kernel), (by intro u hu; cases hu), fun q => ?_⟩
      show VV m_L_widest w g 2 12 (QM m_L_widest w g x) (fun b : Int32 × MS => b = x) 13 [some (.ref (wB w + 0)), some (.int p1), some (.int p2), some (.ref (wB w + 183)), none] [.ref q] s (some ((1 : Int32), s))
      refine V_astore (pc := 13) (vs' := [some (.ref (wB w + 0)), some (.int p1), some (.int p2), some (.ref (wB w + 183)), some (.ref q)]) dL_widest_13 (Nat.le_of_ble_eq_true rfl) (Nat.le_of_ble_eq_true rfl) rfl ?_
      refine V_iconst (pc := 15) dL_widest_15 ic_1 ?_
      exact V_ireti (pc := 16) dL_widest_16 rfl (hk := fun h => h)
    exact absurd hb (by simp [h1])
  · show VV m_L_widest w g 2 12 (QM m_L_widest w g x) (fun b : Int32 × MS => b = x) 8 [some (.ref (wB w + 0)), some (.int p1), some (.int p2), some (.ref (wB w + 183)), none] [.int v5, .int (0 : Int32), .ref (wB w + 183)] s5 _
    refine V_i2l (pc := 8) dL_widest_8 ?_
    refine V_last (pc := 9) dL_widest_9 (fun s9 => ?_)
    refine V_goto (pc := 10) (tgt := 17) dL_widest_10 (by decide +kernel) ?_
    refine V_iconst (pc := 17) dL_widest_17 ic_0 ?_
    exact V_ireti (pc := 18) dL_widest_18 rfl (hk := fun h => h)
def f_L_parts (n : Nat) (p1 : Int32) (p2 : Int32) (σ : MS) : Option (Int32 × MS) := (thn (f_X11_parts n p1 p2 σ) (fun v5 s5 => (ltM (mu s5 183 0 v5) (fun s9 => some ((0 : Int32), s9)))) (fun e s => if e = 0 then some ((1 : Int32), s) else if e = 1 then some ((2 : Int32), s) else none))
set_option maxRecDepth 20000 in
set_option maxHeartbeats 2000000 in
theorem c_L_parts (w : TG) (n : Nat) (p1 : Int32) (p2 : Int32) (σ : MS) : MCW m_L_parts [(0, 10, 13, 24), (0, 10, 17, 13)] w [.ref (wB w + 0), .int p1, .int p2, .ref (wB w + 183)] σ (f_L_parts n p1 p2 σ) := by
  refine V_methW (by decide +kernel) (Nat.le_of_ble_eq_true rfl) (by intro v hv; simp only [List.mem_cons, List.not_mem_nil, or_false] at hv; rcases hv with rfl | rfl | rfl | rfl <;> rfl) (fun g x ht => ?_)
  show VV m_L_parts w g 0 0 (QM m_L_parts w g x) (fun b : Int32 × MS => b = x) 0 [some (.ref (wB w + 0)), some (.int p1), some (.int p2), some (.ref (wB w + 183)), none] [] σ (f_L_parts n p1 p2 σ)
  refine V_aload_n (pc := 0) dL_parts_0 rfl rfl ?_
  refine V_iconst (pc := 1) dL_parts_1 ic_0 ?_
  refine V_aload_n (pc := 2) dL_parts_2 rfl rfl ?_
  refine V_iload_n (pc := 3) dL_parts_3 rfl rfl ?_
  refine V_iload_n (pc := 4) dL_parts_4 rfl rfl ?_
  refine VX_callC (pc := 5) (As := [.int p1, .int p2]) (rest := [.int (0 : Int32), .ref (wB w + 183)]) (c_X11_parts w n p1 p2 σ) cw_L_74 rfl dL_parts_5 kc_0 ci_11 ⟨Nat.le_of_ble_eq_true rfl, Nat.le_of_ble_eq_true rfl⟩ rfl rfl (Nat.le_of_ble_eq_true rfl) (Nat.le_of_ble_eq_true rfl) (Nat.le_of_ble_eq_true rfl) (fun e s b hb => ?_) (fun v5 s5 => ?_)
  · by_cases h0 : e = 0
    · subst h0
      refine ⟨[], ⟨0, 10, 13, 24⟩, [⟨0, 10, 17, 13⟩], by decide, ht.trans rfl, by decide, by decide, gx 975 (by decide +kernel) (by decide +kernel), (by intro u hu; cases hu), fun q => ?_⟩
      show VV m_L_parts w g 3 18 (QM m_L_parts w g x) (fun b : Int32 × MS => b = x) 13 [some (.ref (wB w + 0)), some (.int p1), some (.int p2), some (.ref (wB w + 183)), none] [.ref q] s (some ((1 : Int32), s))
      refine V_astore (pc := 13) (vs' := [some (.ref (wB w + 0)), some (.int p1), some (.int p2), some (.ref (wB w + 183)), some (.ref q)]) dL_parts_13 (Nat.le_of_ble_eq_true rfl) (Nat.le_of_ble_eq_true rfl) rfl ?_
      refine V_iconst (pc := 15) dL_parts_15 ic_1 ?_
      exact V_ireti (pc := 16) dL_parts_16 rfl (hk := fun h => h)
    by_cases h1 : e = 1
    · subst h1
      refine ⟨[⟨0, 10, 13, 24⟩], ⟨0, 10, 17, 13⟩, [], by decide, ht.trans rfl, by decide, by decide, gx 682 (by decide +kernel) (by decide +kernel), (by intro u hu; rw [List.mem_singleton.mp hu]; exact ⟨by decide, 0, by decide, by decide, gm (by decide +kernel) (by decide +kernel)⟩), fun q => ?_⟩
      show VV m_L_parts w g 3 18 (QM m_L_parts w g x) (fun b : Int32 × MS => b = x) 17 [some (.ref (wB w + 0)), some (.int p1), some (.int p2), some (.ref (wB w + 183)), none] [.ref q] s (some ((2 : Int32), s))
      refine V_astore (pc := 17) (vs' := [some (.ref (wB w + 0)), some (.int p1), some (.int p2), some (.ref (wB w + 183)), some (.ref q)]) dL_parts_17 (Nat.le_of_ble_eq_true rfl) (Nat.le_of_ble_eq_true rfl) rfl ?_
      refine V_iconst (pc := 19) dL_parts_19 ic_2 ?_
      exact V_ireti (pc := 20) dL_parts_20 rfl (hk := fun h => h)
    exact absurd hb (by simp [h0, h1])
  · show VV m_L_parts w g 3 18 (QM m_L_parts w g x) (fun b : Int32 × MS => b = x) 8 [some (.ref (wB w + 0)), some (.int p1), some (.int p2), some (.ref (wB w + 183)), none] [.int v5, .int (0 : Int32), .ref (wB w + 183)] s5 _
    refine V_i2l (pc := 8) dL_parts_8 ?_
    refine V_last (pc := 9) dL_parts_9 (fun s9 => ?_)
    refine V_goto (pc := 10) (tgt := 21) dL_parts_10 (by decide +kernel) ?_
    refine V_iconst (pc := 21) dL_parts_21 ic_0 ?_
    exact V_ireti (pc := 22) dL_parts_22 rfl (hk := fun h => h)
def f_L_steady (n : Nat) (p1 : Int32) (σ : MS) : Option (Int32 × MS) := (thn (f_X11_steady n p1 σ) (fun v4 s4 => (ltM (mu s4 183 0 v4) (fun s8 => some ((0 : Int32), s8)))) (fun e s => if e = 0 then some ((1 : Int32), s) else none))
set_option maxRecDepth 20000 in
set_option maxHeartbeats 2000000 in
theorem c_L_steady (w : TG) (n : Nat) (p1 : Int32) (σ : MS) : MCW m_L_steady [(0, 9, 12, 24)] w [.ref (wB w + 0), .int p1, .ref (wB w + 183)] σ (f_L_steady n p1 σ) := by
  refine V_methW (by decide +kernel) (Nat.le_of_ble_eq_true rfl) (by intro v hv; simp only [List.mem_cons, List.not_mem_nil, or_false] at hv; rcases hv with rfl | rfl | rfl <;> rfl) (fun g x ht => ?_)
  show VV m_L_steady w g 0 0 (QM m_L_steady w g x) (fun b : Int32 × MS => b = x) 0 [some (.ref (wB w + 0)), some (.int p1), some (.ref (wB w + 183)), none] [] σ (f_L_steady n p1 σ)
  refine V_aload_n (pc := 0) dL_steady_0 rfl rfl ?_
  refine V_iconst (pc := 1) dL_steady_1 ic_0 ?_
  refine V_aload_n (pc := 2) dL_steady_2 rfl rfl ?_
  refine V_iload_n (pc := 3) dL_steady_3 rfl rfl ?_
  refine VX_callC (pc := 4) (As := [.int p1]) (rest := [.int (0 : Int32), .ref (wB w + 183)]) (c_X11_steady w n p1 σ) cw_L_77 rfl dL_steady_4 kc_0 ci_11 ⟨Nat.le_of_ble_eq_true rfl, Nat.le_of_ble_eq_true rfl⟩ rfl rfl (Nat.le_of_ble_eq_true rfl) (Nat.le_of_ble_eq_true rfl) (Nat.le_of_ble_eq_true rfl) (fun e s b hb => ?_) (fun v4 s4 => ?_)
  · by_cases h0 : e = 0
    · subst h0
      refine ⟨[], ⟨0, 9, 12, 24⟩, [], by decide, ht.trans rfl, by decide, by decide, gx 975 (by decide +kernel) (by decide +kernel), (by intro u hu; cases hu), fun q => ?_⟩
      show VV m_L_steady w g 1 6 (QM m_L_steady w g x) (fun b : Int32 × MS => b = x) 12 [some (.ref (wB w + 0)), some (.int p1), some (.ref (wB w + 183)), none] [.ref q] s (some ((1 : Int32), s))
      refine V_astore_n (pc := 12) (vs' := [some (.ref (wB w + 0)), some (.int p1), some (.ref (wB w + 183)), some (.ref q)]) dL_steady_12 rfl (Nat.le_of_ble_eq_true rfl) (Nat.le_of_ble_eq_true rfl) rfl ?_
      refine V_iconst (pc := 13) dL_steady_13 ic_1 ?_
      exact V_ireti (pc := 14) dL_steady_14 rfl (hk := fun h => h)
    exact absurd hb (by simp [h0])
  · show VV m_L_steady w g 1 6 (QM m_L_steady w g x) (fun b : Int32 × MS => b = x) 7 [some (.ref (wB w + 0)), some (.int p1), some (.ref (wB w + 183)), none] [.int v4, .int (0 : Int32), .ref (wB w + 183)] s4 _
    refine V_i2l (pc := 7) dL_steady_7 ?_
    refine V_last (pc := 8) dL_steady_8 (fun s8 => ?_)
    refine V_goto (pc := 9) (tgt := 15) dL_steady_9 (by decide +kernel) ?_
    refine V_iconst (pc := 15) dL_steady_15 ic_0 ?_
    exact V_ireti (pc := 16) dL_steady_16 rfl (hk := fun h => h)
def f_L_between (n : Nat) (p1 : Int32) (p2 : Int32) (σ : MS) : Option (Int32 × MS) := (thn (f_X11_between n p1 p2 σ) (fun v5 s5 => (ltM (mu s5 183 0 v5) (fun s9 => some ((0 : Int32), s9)))) (fun e s => if e = 0 then some ((1 : Int32), s) else none))
set_option maxRecDepth 20000 in
set_option maxHeartbeats 2000000 in
theorem c_L_between (w : TG) (n : Nat) (p1 : Int32) (p2 : Int32) (σ : MS) : MCW m_L_between [(0, 10, 13, 24)] w [.ref (wB w + 0), .int p1, .int p2, .ref (wB w + 183)] σ (f_L_between n p1 p2 σ) := by
  refine V_methW (by decide +kernel) (Nat.le_of_ble_eq_true rfl) (by intro v hv; simp only [List.mem_cons, List.not_mem_nil, or_false] at hv; rcases hv with rfl | rfl | rfl | rfl <;> rfl) (fun g x ht => ?_)
  show VV m_L_between w g 0 0 (QM m_L_between w g x) (fun b : Int32 × MS => b = x) 0 [some (.ref (wB w + 0)), some (.int p1), some (.int p2), some (.ref (wB w + 183)), none] [] σ (f_L_between n p1 p2 σ)
  refine V_aload_n (pc := 0) dL_between_0 rfl rfl ?_
  refine V_iconst (pc := 1) dL_between_1 ic_0 ?_
  refine V_aload_n (pc := 2) dL_between_2 rfl rfl ?_
  refine V_iload_n (pc := 3) dL_between_3 rfl rfl ?_
  refine V_iload_n (pc := 4) dL_between_4 rfl rfl ?_
  refine VX_callC (pc := 5) (As := [.int p1, .int p2]) (rest := [.int (0 : Int32), .ref (wB w + 183)]) (c_X11_between w n p1 p2 σ) cw_L_80 rfl dL_between_5 kc_0 ci_11 ⟨Nat.le_of_ble_eq_true rfl, Nat.le_of_ble_eq_true rfl⟩ rfl rfl (Nat.le_of_ble_eq_true rfl) (Nat.le_of_ble_eq_true rfl) (Nat.le_of_ble_eq_true rfl) (fun e s b hb => ?_) (fun v5 s5 => ?_)
  · by_cases h0 : e = 0
    · subst h0
      refine ⟨[], ⟨0, 10, 13, 24⟩, [], by decide, ht.trans rfl, by decide, by decide, gx 975 (by decide +kernel) (by decide +kernel), (by intro u hu; cases hu), fun q => ?_⟩
      show VV m_L_between w g 2 12 (QM m_L_between w g x) (fun b : Int32 × MS => b = x) 13 [some (.ref (wB w + 0)), some (.int p1), some (.int p2), some (.ref (wB w + 183)), none] [.ref q] s (some ((1 : Int32), s))
      refine V_astore (pc := 13) (vs' := [some (.ref (wB w + 0)), some (.int p1), some (.int p2), some (.ref (wB w + 183)), some (.ref q)]) dL_between_13 (Nat.le_of_ble_eq_true rfl) (Nat.le_of_ble_eq_true rfl) rfl ?_
      refine V_iconst (pc := 15) dL_between_15 ic_1 ?_
      exact V_ireti (pc := 16) dL_between_16 rfl (hk := fun h => h)
    exact absurd hb (by simp [h0])
  · show VV m_L_between w g 2 12 (QM m_L_between w g x) (fun b : Int32 × MS => b = x) 8 [some (.ref (wB w + 0)), some (.int p1), some (.int p2), some (.ref (wB w + 183)), none] [.int v5, .int (0 : Int32), .ref (wB w + 183)] s5 _
    refine V_i2l (pc := 8) dL_between_8 ?_
    refine V_last (pc := 9) dL_between_9 (fun s9 => ?_)
    refine V_goto (pc := 10) (tgt := 17) dL_between_10 (by decide +kernel) ?_
    refine V_iconst (pc := 17) dL_between_17 ic_0 ?_
    exact V_ireti (pc := 18) dL_between_18 rfl (hk := fun h => h)
def f_L_drank (n : Nat) (p1 : Int32) (σ : MS) : Option (Int32 × MS) := (thn (f_X11_drank n p1 σ) (fun v4 s4 => (ltM (mu s4 183 0 v4) (fun s8 => some ((0 : Int32), s8)))) (fun e s => if e = 1 then some ((1 : Int32), s) else none))
set_option maxRecDepth 20000 in
set_option maxHeartbeats 2000000 in
theorem c_L_drank (w : TG) (n : Nat) (p1 : Int32) (σ : MS) : MCW m_L_drank [(0, 9, 12, 13)] w [.ref (wB w + 0), .int p1, .ref (wB w + 183)] σ (f_L_drank n p1 σ) := by
  refine V_methW (by decide +kernel) (Nat.le_of_ble_eq_true rfl) (by intro v hv; simp only [List.mem_cons, List.not_mem_nil, or_false] at hv; rcases hv with rfl | rfl | rfl <;> rfl) (fun g x ht => ?_)
  show VV m_L_drank w g 0 0 (QM m_L_drank w g x) (fun b : Int32 × MS => b = x) 0 [some (.ref (wB w + 0)), some (.int p1), some (.ref (wB w + 183)), none] [] σ (f_L_drank n p1 σ)
  refine V_aload_n (pc := 0) dL_drank_0 rfl rfl ?_
  refine V_iconst (pc := 1) dL_drank_1 ic_0 ?_
  refine V_aload_n (pc := 2) dL_drank_2 rfl rfl ?_
  refine V_iload_n (pc := 3) dL_drank_3 rfl rfl ?_
  refine VX_callC (pc := 4) (As := [.int p1]) (rest := [.int (0 : Int32), .ref (wB w + 183)]) (c_X11_drank w n p1 σ) cw_L_83 rfl dL_drank_4 kc_0 ci_11 ⟨Nat.le_of_ble_eq_true rfl, Nat.le_of_ble_eq_true rfl⟩ rfl rfl (Nat.le_of_ble_eq_true rfl) (Nat.le_of_ble_eq_true rfl) (Nat.le_of_ble_eq_true rfl) (fun e s b hb => ?_) (fun v4 s4 => ?_)
  · by_cases h1 : e = 1
    · subst h1
      refine ⟨[], ⟨0, 9, 12, 13⟩, [], by decide, ht.trans rfl, by decide, by decide, gx 682 (by decide +kernel) (by decide +kernel), (by intro u hu; cases hu), fun q => ?_⟩
      show VV m_L_drank w g 1 6 (QM m_L_drank w g x) (fun b : Int32 × MS => b = x) 12 [some (.ref (wB w + 0)), some (.int p1), some (.ref (wB w + 183)), none] [.ref q] s (some ((1 : Int32), s))
      refine V_astore_n (pc := 12) (vs' := [some (.ref (wB w + 0)), some (.int p1), some (.ref (wB w + 183)), some (.ref q)]) dL_drank_12 rfl (Nat.le_of_ble_eq_true rfl) (Nat.le_of_ble_eq_true rfl) rfl ?_
      refine V_iconst (pc := 13) dL_drank_13 ic_1 ?_
      exact V_ireti (pc := 14) dL_drank_14 rfl (hk := fun h => h)
    exact absurd hb (by simp [h1])
  · show VV m_L_drank w g 1 6 (QM m_L_drank w g x) (fun b : Int32 × MS => b = x) 7 [some (.ref (wB w + 0)), some (.int p1), some (.ref (wB w + 183)), none] [.int v4, .int (0 : Int32), .ref (wB w + 183)] s4 _
    refine V_i2l (pc := 7) dL_drank_7 ?_
    refine V_last (pc := 8) dL_drank_8 (fun s8 => ?_)
    refine V_goto (pc := 9) (tgt := 15) dL_drank_9 (by decide +kernel) ?_
    refine V_iconst (pc := 15) dL_drank_15 ic_0 ?_
    exact V_ireti (pc := 16) dL_drank_16 rfl (hk := fun h => h)
def f_L_look (n : Nat)  (σ : MS) : Option (Int32 × MS) := (thn (f_X11_look n  σ) (fun v3 s3 => (ltM (mu s3 183 0 v3) (fun s7 => some ((0 : Int32), s7)))) (fun e s => if e = 1 then some ((1 : Int32), s) else none))
set_option maxRecDepth 20000 in
set_option maxHeartbeats 2000000 in
theorem c_L_look (w : TG) (n : Nat)  (σ : MS) : MCW m_L_look [(0, 8, 11, 13)] w [.ref (wB w + 0), .ref (wB w + 183)] σ (f_L_look n  σ) := by
  refine V_methW (by decide +kernel) (Nat.le_of_ble_eq_true rfl) (by intro v hv; simp only [List.mem_cons, List.not_mem_nil, or_false] at hv; rcases hv with rfl | rfl <;> rfl) (fun g x ht => ?_)
  show VV m_L_look w g 0 0 (QM m_L_look w g x) (fun b : Int32 × MS => b = x) 0 [some (.ref (wB w + 0)), some (.ref (wB w + 183)), none] [] σ (f_L_look n  σ)
  refine V_aload_n (pc := 0) dL_look_0 rfl rfl ?_
  refine V_iconst (pc := 1) dL_look_1 ic_0 ?_
  refine V_aload_n (pc := 2) dL_look_2 rfl rfl ?_
  refine VX_callC (pc := 3) (As := []) (rest := [.int (0 : Int32), .ref (wB w + 183)]) (c_X11_look w n  σ) cw_L_87 rfl dL_look_3 kc_0 ci_11 ⟨Nat.le_of_ble_eq_true rfl, Nat.le_of_ble_eq_true rfl⟩ rfl rfl (Nat.le_of_ble_eq_true rfl) (Nat.le_of_ble_eq_true rfl) (Nat.le_of_ble_eq_true rfl) (fun e s b hb => ?_) (fun v3 s3 => ?_)
  · by_cases h1 : e = 1
    · subst h1
      refine ⟨[], ⟨0, 8, 11, 13⟩, [], by decide, ht.trans rfl, by decide, by decide, gx 682 (by decide +kernel) (by decide +kernel), (by intro u hu; cases hu), fun q => ?_⟩
      show VV m_L_look w g 1 6 (QM m_L_look w g x) (fun b : Int32 × MS => b = x) 11 [some (.ref (wB w + 0)), some (.ref (wB w + 183)), none] [.ref q] s (some ((1 : Int32), s))
      refine V_astore_n (pc := 11) (vs' := [some (.ref (wB w + 0)), some (.ref (wB w + 183)), some (.ref q)]) dL_look_11 rfl (Nat.le_of_ble_eq_true rfl) (Nat.le_of_ble_eq_true rfl) rfl ?_
      refine V_iconst (pc := 12) dL_look_12 ic_1 ?_
      exact V_ireti (pc := 13) dL_look_13 rfl (hk := fun h => h)
    exact absurd hb (by simp [h1])
  · show VV m_L_look w g 1 6 (QM m_L_look w g x) (fun b : Int32 × MS => b = x) 6 [some (.ref (wB w + 0)), some (.ref (wB w + 183)), none] [.int v3, .int (0 : Int32), .ref (wB w + 183)] s3 _
    refine V_i2l (pc := 6) dL_look_6 ?_
    refine V_last (pc := 7) dL_look_7 (fun s7 => ?_)
    refine V_goto (pc := 8) (tgt := 14) dL_look_8 (by decide +kernel) ?_
    refine V_iconst (pc := 14) dL_look_14 ic_0 ?_
    exact V_ireti (pc := 15) dL_look_15 rfl (hk := fun h => h)
def f_L_way (n : Nat) (p1 : Int32) (p2 : Int32) (σ : MS) : Option (Int32 × MS) := (thn (f_X11_way n p1 p2 σ) (fun v5 s5 => (ltM (mu s5 183 0 v5) (fun s9 => some ((0 : Int32), s9)))) (fun e s => if e = 0 then some ((1 : Int32), s) else none))
set_option maxRecDepth 20000 in
set_option maxHeartbeats 2000000 in
theorem c_L_way (w : TG) (n : Nat) (p1 : Int32) (p2 : Int32) (σ : MS) : MCW m_L_way [(0, 10, 13, 24)] w [.ref (wB w + 0), .int p1, .int p2, .ref (wB w + 183)] σ (f_L_way n p1 p2 σ) := by
  refine V_methW (by decide +kernel) (Nat.le_of_ble_eq_true rfl) (by intro v hv; simp only [List.mem_cons, List.not_mem_nil, or_false] at hv; rcases hv with rfl | rfl | rfl | rfl <;> rfl) (fun g x ht => ?_)
  show VV m_L_way w g 0 0 (QM m_L_way w g x) (fun b : Int32 × MS => b = x) 0 [some (.ref (wB w + 0)), some (.int p1), some (.int p2), some (.ref (wB w + 183)), none] [] σ (f_L_way n p1 p2 σ)
  refine V_aload_n (pc := 0) dL_way_0 rfl rfl ?_
  refine V_iconst (pc := 1) dL_way_1 ic_0 ?_
  refine V_aload_n (pc := 2) dL_way_2 rfl rfl ?_
  refine V_iload_n (pc := 3) dL_way_3 rfl rfl ?_
  refine V_iload_n (pc := 4) dL_way_4 rfl rfl ?_
  refine VX_callC (pc := 5) (As := [.int p1, .int p2]) (rest := [.int (0 : Int32), .ref (wB w + 183)]) (c_X11_way w n p1 p2 σ) cw_L_90 rfl dL_way_5 kc_0 ci_11 ⟨Nat.le_of_ble_eq_true rfl, Nat.le_of_ble_eq_true rfl⟩ rfl rfl (Nat.le_of_ble_eq_true rfl) (Nat.le_of_ble_eq_true rfl) (Nat.le_of_ble_eq_true rfl) (fun e s b hb => ?_) (fun v5 s5 => ?_)
  · by_cases h0 : e = 0
    · subst h0
      refine ⟨[], ⟨0, 10, 13, 24⟩, [], by decide, ht.trans rfl, by decide, by decide, gx 975 (by decide +kernel) (by decide +kernel), (by intro u hu; cases hu), fun q => ?_⟩
      show VV m_L_way w g 2 12 (QM m_L_way w g x) (fun b : Int32 × MS => b = x) 13 [some (.ref (wB w + 0)), some (.int p1), some (.int p2), some (.ref (wB w + 183)), none] [.ref q] s (some ((1 : Int32), s))
      refine V_astore (pc := 13) (vs' := [some (.ref (wB w + 0)), some (.int p1), some (.int p2), some (.ref (wB w + 183)), some (.ref q)]) dL_way_13 (Nat.le_of_ble_eq_true rfl) (Nat.le_of_ble_eq_true rfl) rfl ?_
      refine V_iconst (pc := 15) dL_way_15 ic_1 ?_
      exact V_ireti (pc := 16) dL_way_16 rfl (hk := fun h => h)
    exact absurd hb (by simp [h0])
  · show VV m_L_way w g 2 12 (QM m_L_way w g x) (fun b : Int32 × MS => b = x) 8 [some (.ref (wB w + 0)), some (.int p1), some (.int p2), some (.ref (wB w + 183)), none] [.int v5, .int (0 : Int32), .ref (wB w + 183)] s5 _
    refine V_i2l (pc := 8) dL_way_8 ?_
    refine V_last (pc := 9) dL_way_9 (fun s9 => ?_)
    refine V_goto (pc := 10) (tgt := 17) dL_way_10 (by decide +kernel) ?_
    refine V_iconst (pc := 17) dL_way_17 ic_0 ?_
    exact V_ireti (pc := 18) dL_way_18 rfl (hk := fun h => h)
def f_L_unseen (n : Nat) (p1 : Int32) (p2 : Int32) (σ : MS) : Option (Int32 × MS) := (thn (f_X11_unseen n p1 p2 σ) (fun v5 s5 => (ltM (mu s5 183 0 v5) (fun s9 => some ((0 : Int32), s9)))) (fun e s => if e = 0 then some ((1 : Int32), s) else if e = 1 then some ((2 : Int32), s) else none))
set_option maxRecDepth 20000 in
set_option maxHeartbeats 2000000 in
theorem c_L_unseen (w : TG) (n : Nat) (p1 : Int32) (p2 : Int32) (σ : MS) : MCW m_L_unseen [(0, 10, 13, 24), (0, 10, 17, 13)] w [.ref (wB w + 0), .int p1, .int p2, .ref (wB w + 183)] σ (f_L_unseen n p1 p2 σ) := by
  refine V_methW (by decide +kernel) (Nat.le_of_ble_eq_true rfl) (by intro v hv; simp only [List.mem_cons, List.not_mem_nil, or_false] at hv; rcases hv with rfl | rfl | rfl | rfl <;> rfl) (fun g x ht => ?_)
  show VV m_L_unseen w g 0 0 (QM m_L_unseen w g x) (fun b : Int32 × MS => b = x) 0 [some (.ref (wB w + 0)), some (.int p1), some (.int p2), some (.ref (wB w + 183)), none] [] σ (f_L_unseen n p1 p2 σ)
  refine V_aload_n (pc := 0) dL_unseen_0 rfl rfl ?_
  refine V_iconst (pc := 1) dL_unseen_1 ic_0 ?_
  refine V_aload_n (pc := 2) dL_unseen_2 rfl rfl ?_
  refine V_iload_n (pc := 3) dL_unseen_3 rfl rfl ?_
  refine V_iload_n (pc := 4) dL_unseen_4 rfl rfl ?_
  refine VX_callC (pc := 5) (As := [.int p1, .int p2]) (rest := [.int (0 : Int32), .ref (wB w + 183)]) (c_X11_unseen w n p1 p2 σ) cw_L_93 rfl dL_unseen_5 kc_0 ci_11 ⟨Nat.le_of_ble_eq_true rfl, Nat.le_of_ble_eq_true rfl⟩ rfl rfl (Nat.le_of_ble_eq_true rfl) (Nat.le_of_ble_eq_true rfl) (Nat.le_of_ble_eq_true rfl) (fun e s b hb => ?_) (fun v5 s5 => ?_)
  · by_cases h0 : e = 0
    · subst h0
      refine ⟨[], ⟨0, 10, 13, 24⟩, [⟨0, 10, 17, 13⟩], by decide, ht.trans rfl, by decide, by decide, gx 975 (by decide +kernel) (by decide +kernel), (by intro u hu; cases hu), fun q => ?_⟩
      show VV m_L_unseen w g 3 18 (QM m_L_unseen w g x) (fun b : Int32 × MS => b = x) 13 [some (.ref (wB w + 0)), some (.int p1), some (.int p2), some (.ref (wB w + 183)), none] [.ref q] s (some ((1 : Int32), s))
      refine V_astore (pc := 13) (vs' := [some (.ref (wB w + 0)), some (.int p1), some (.int p2), some (.ref (wB w + 183)), some (.ref q)]) dL_unseen_13 (Nat.le_of_ble_eq_true rfl) (Nat.le_of_ble_eq_true rfl) rfl ?_
      refine V_iconst (pc := 15) dL_unseen_15 ic_1 ?_
      exact V_ireti (pc := 16) dL_unseen_16 rfl (hk := fun h => h)
    by_cases h1 : e = 1
    · subst h1
      refine ⟨[⟨0, 10, 13, 24⟩], ⟨0, 10, 17, 13⟩, [], by decide, ht.trans rfl, by decide, by decide, gx 682 (by decide +kernel) (by decide +kernel), (by intro u hu; rw [List.mem_singleton.mp hu]; exact ⟨by decide, 0, by decide, by decide, gm (by decide +kernel) (by decide +kernel)⟩), fun q => ?_⟩
      show VV m_L_unseen w g 3 18 (QM m_L_unseen w g x) (fun b : Int32 × MS => b = x) 17 [some (.ref (wB w + 0)), some (.int p1), some (.int p2), some (.ref (wB w + 183)), none] [.ref q] s (some ((2 : Int32), s))
      refine V_astore (pc := 17) (vs' := [some (.ref (wB w + 0)), some (.int p1), some (.int p2), some (.ref (wB w + 183)), some (.ref q)]) dL_unseen_17 (Nat.le_of_ble_eq_true rfl) (Nat.le_of_ble_eq_true rfl) rfl ?_
      refine V_iconst (pc := 19) dL_unseen_19 ic_2 ?_
      exact V_ireti (pc := 20) dL_unseen_20 rfl (hk := fun h => h)
    exact absurd hb (by simp [h0, h1])
  · show VV m_L_unseen w g 3 18 (QM m_L_unseen w g x) (fun b : Int32 × MS => b = x) 8 [some (.ref (wB w + 0)), some (.int p1), some (.int p2), some (.ref (wB w + 183)), none] [.int v5, .int (0 : Int32), .ref (wB w + 183)] s5 _
    refine V_i2l (pc := 8) dL_unseen_8 ?_
    refine V_last (pc := 9) dL_unseen_9 (fun s9 => ?_)
    refine V_goto (pc := 10) (tgt := 21) dL_unseen_10 (by decide +kernel) ?_
    refine V_iconst (pc := 21) dL_unseen_21 ic_0 ?_
    exact V_ireti (pc := 22) dL_unseen_22 rfl (hk := fun h => h)
def f_L_trap (n : Nat) (p1 : Int32) (p2 : Int32) (σ : MS) : Option (Int32 × MS) := (thn (f_X11_trap n p1 p2 σ) (fun v5 s5 => (ltM (mu s5 183 0 v5) (fun s9 => some ((0 : Int32), s9)))) (fun e s => if e = 1 then some ((1 : Int32), s) else none))
set_option maxRecDepth 20000 in
set_option maxHeartbeats 2000000 in
theorem c_L_trap (w : TG) (n : Nat) (p1 : Int32) (p2 : Int32) (σ : MS) : MCW m_L_trap [(0, 10, 13, 13)] w [.ref (wB w + 0), .int p1, .int p2, .ref (wB w + 183)] σ (f_L_trap n p1 p2 σ) := by
  refine V_methW (by decide +kernel) (Nat.le_of_ble_eq_true rfl) (by intro v hv; simp only [List.mem_cons, List.not_mem_nil, or_false] at hv; rcases hv with rfl | rfl | rfl | rfl <;> rfl) (fun g x ht => ?_)
  show VV m_L_trap w g 0 0 (QM m_L_trap w g x) (fun b : Int32 × MS => b = x) 0 [some (.ref (wB w + 0)), some (.int p1), some (.int p2), some (.ref (wB w + 183)), none] [] σ (f_L_trap n p1 p2 σ)
  refine V_aload_n (pc := 0) dL_trap_0 rfl rfl ?_
  refine V_iconst (pc := 1) dL_trap_1 ic_0 ?_
  refine V_aload_n (pc := 2) dL_trap_2 rfl rfl ?_
  refine V_iload_n (pc := 3) dL_trap_3 rfl rfl ?_
  refine V_iload_n (pc := 4) dL_trap_4 rfl rfl ?_
  refine VX_callC (pc := 5) (As := [.int p1, .int p2]) (rest := [.int (0 : Int32), .ref (wB w + 183)]) (c_X11_trap w n p1 p2 σ) cw_L_96 rfl dL_trap_5 kc_0 ci_11 ⟨Nat.le_of_ble_eq_true rfl, Nat.le_of_ble_eq_true rfl⟩ rfl rfl (Nat.le_of_ble_eq_true rfl) (Nat.le_of_ble_eq_true rfl) (Nat.le_of_ble_eq_true rfl) (fun e s b hb => ?_) (fun v5 s5 => ?_)
  · by_cases h1 : e = 1
    · subst h1
      refine ⟨[], ⟨0, 10, 13, 13⟩, [], by decide, ht.trans rfl, by decide, by decide, gx 682 (by decide +kernel) (by decide +kernel), (by intro u hu; cases hu), fun q => ?_⟩
      show VV m_L_trap w g 1 6 (QM m_L_trap w g x) (fun b : Int32 × MS => b = x) 13 [some (.ref (wB w + 0)), some (.int p1), some (.int p2), some (.ref (wB w + 183)), none] [.ref q] s (some ((1 : Int32), s))
      refine V_astore (pc := 13) (vs' := [some (.ref (wB w + 0)), some (.int p1), some (.int p2), some (.ref (wB w + 183)), some (.ref q)]) dL_trap_13 (Nat.le_of_ble_eq_true rfl) (Nat.le_of_ble_eq_true rfl) rfl ?_
      refine V_iconst (pc := 15) dL_trap_15 ic_1 ?_
      exact V_ireti (pc := 16) dL_trap_16 rfl (hk := fun h => h)
    exact absurd hb (by simp [h1])
  · show VV m_L_trap w g 1 6 (QM m_L_trap w g x) (fun b : Int32 × MS => b = x) 8 [some (.ref (wB w + 0)), some (.int p1), some (.int p2), some (.ref (wB w + 183)), none] [.int v5, .int (0 : Int32), .ref (wB w + 183)] s5 _
    refine V_i2l (pc := 8) dL_trap_8 ?_
    refine V_last (pc := 9) dL_trap_9 (fun s9 => ?_)
    refine V_goto (pc := 10) (tgt := 17) dL_trap_10 (by decide +kernel) ?_
    refine V_iconst (pc := 17) dL_trap_17 ic_0 ?_
    exact V_ireti (pc := 18) dL_trap_18 rfl (hk := fun h => h)
def J_L_oath_16 (t0 : Int32) (σ : MS) : Option (Int32 × MS) := (ltM (mu σ 183 0 t0) (fun s16 => some ((0 : Int32), s16)))
def f_L_oath (p1 : Int32) (p2 : Int32) (σ : MS) : Option (Int32 × MS) := (thn (f_X11_oath p1 p2 σ) (fun v5 s5 => (if v5 = 0 then J_L_oath_16 (0 : Int32) s5 else J_L_oath_16 (1 : Int32) s5)) (fun e s => if e = 0 then some ((1 : Int32), s) else none))
set_option maxRecDepth 20000 in
set_option maxHeartbeats 2000000 in
theorem c_L_oath (w : TG) (p1 : Int32) (p2 : Int32) (σ : MS) : MCW m_L_oath [(0, 17, 20, 24)] w [.ref (wB w + 0), .int p1, .int p2, .ref (wB w + 183)] σ (f_L_oath p1 p2 σ) := by
  refine V_methW (by decide +kernel) (Nat.le_of_ble_eq_true rfl) (by intro v hv; simp only [List.mem_cons, List.not_mem_nil, or_false] at hv; rcases hv with rfl | rfl | rfl | rfl <;> rfl) (fun g x ht => ?_)
  show VV m_L_oath w g 0 0 (QM m_L_oath w g x) (fun b : Int32 × MS => b = x) 0 [some (.ref (wB w + 0)), some (.int p1), some (.int p2), some (.ref (wB w + 183)), none] [] σ (f_L_oath p1 p2 σ)
  have hJ16 : ∀ (t0 : Int32) (σ : MS), VV m_L_oath w g 1 6 (QM m_L_oath w g x) (fun b : Int32 × MS => b = x) 16 [none, none, none, none, none] [.long (t0).toInt64, .int (0 : Int32), .ref (wB w + 183)] σ (J_L_oath_16 t0 σ) := by
    intro t0 σ
    refine V_last (pc := 16) dL_oath_16 (fun s16 => ?_)
    refine V_goto (pc := 17) (tgt := 24) dL_oath_17 (by decide +kernel) ?_
    refine V_iconst (pc := 24) dL_oath_24 ic_0 ?_
    exact V_ireti (pc := 25) dL_oath_25 rfl (hk := fun h => h)
  refine V_aload_n (pc := 0) dL_oath_0 rfl rfl ?_
  refine V_iconst (pc := 1) dL_oath_1 ic_0 ?_
  refine V_aload_n (pc := 2) dL_oath_2 rfl rfl ?_
  refine V_iload_n (pc := 3) dL_oath_3 rfl rfl ?_
  refine V_iload_n (pc := 4) dL_oath_4 rfl rfl ?_
  refine VX_callC (pc := 5) (As := [.int p1, .int p2]) (rest := [.int (0 : Int32), .ref (wB w + 183)]) (c_X11_oath w p1 p2 σ) cw_L_100 rfl dL_oath_5 kc_0 ci_11 ⟨Nat.le_of_ble_eq_true rfl, Nat.le_of_ble_eq_true rfl⟩ rfl rfl (Nat.le_of_ble_eq_true rfl) (Nat.le_of_ble_eq_true rfl) (Nat.le_of_ble_eq_true rfl) (fun e s b hb => ?_) (fun v5 s5 => ?_)
  · by_cases h0 : e = 0
    · subst h0
      refine ⟨[], ⟨0, 17, 20, 24⟩, [], by decide, ht.trans rfl, by decide, by decide, gx 975 (by decide +kernel) (by decide +kernel), (by intro u hu; cases hu), fun q => ?_⟩
      show VV m_L_oath w g 1 6 (QM m_L_oath w g x) (fun b : Int32 × MS => b = x) 20 [some (.ref (wB w + 0)), some (.int p1), some (.int p2), some (.ref (wB w + 183)), none] [.ref q] s (some ((1 : Int32), s))
      refine V_astore (pc := 20) (vs' := [some (.ref (wB w + 0)), some (.int p1), some (.int p2), some (.ref (wB w + 183)), some (.ref q)]) dL_oath_20 (Nat.le_of_ble_eq_true rfl) (Nat.le_of_ble_eq_true rfl) rfl ?_
      refine V_iconst (pc := 22) dL_oath_22 ic_1 ?_
      exact V_ireti (pc := 23) dL_oath_23 rfl (hk := fun h => h)
    exact absurd hb (by simp [h0])
  · show VV m_L_oath w g 1 6 (QM m_L_oath w g x) (fun b : Int32 × MS => b = x) 8 [some (.ref (wB w + 0)), some (.int p1), some (.int p2), some (.ref (wB w + 183)), none] [.int v5, .int (0 : Int32), .ref (wB w + 183)] s5 _
    refine V_if_eq (pc := 8) (tgt := 15) dL_oath_8 (by decide +kernel) ?_ ?_
    · refine V_lconst (pc := 15) (v := ((0 : Int32)).toInt64) dL_oath_15 rfl ?_
      refine V_widen (kc' := 1) (ks' := 6) (Nat.le_of_ble_eq_true rfl) (Nat.le_of_ble_eq_true rfl) ?_
      refine V_sub (vs' := [none, none, none, none, none]) (show vless _ _ from trivial) rfl ?_
      exact hJ16 (0 : Int32) s5
    · refine V_lconst (pc := 11) (v := ((1 : Int32)).toInt64) dL_oath_11 rfl ?_
      refine V_goto (pc := 12) (tgt := 16) dL_oath_12 (by decide +kernel) ?_
      refine V_widen (kc' := 1) (ks' := 6) (Nat.le_of_ble_eq_true rfl) (Nat.le_of_ble_eq_true rfl) ?_
      refine V_sub (vs' := [none, none, none, none, none]) (show vless _ _ from trivial) rfl ?_
      exact hJ16 (1 : Int32) s5
def f_L_shortest (p1 : Int32) (σ : MS) : Option (Int32 × MS) := (thn (f_X11_shortest p1 σ) (fun v4 s4 => (ltM (mu s4 183 0 v4) (fun s8 => some ((0 : Int32), s8)))) (fun e s => if e = 0 then some ((1 : Int32), s) else none))
set_option maxRecDepth 20000 in
set_option maxHeartbeats 2000000 in
theorem c_L_shortest (w : TG) (p1 : Int32) (σ : MS) : MCW m_L_shortest [(0, 9, 12, 24)] w [.ref (wB w + 0), .int p1, .ref (wB w + 183)] σ (f_L_shortest p1 σ) := by
  refine V_methW (by decide +kernel) (Nat.le_of_ble_eq_true rfl) (by intro v hv; simp only [List.mem_cons, List.not_mem_nil, or_false] at hv; rcases hv with rfl | rfl | rfl <;> rfl) (fun g x ht => ?_)
  show VV m_L_shortest w g 0 0 (QM m_L_shortest w g x) (fun b : Int32 × MS => b = x) 0 [some (.ref (wB w + 0)), some (.int p1), some (.ref (wB w + 183)), none] [] σ (f_L_shortest p1 σ)
  refine V_aload_n (pc := 0) dL_shortest_0 rfl rfl ?_
  refine V_iconst (pc := 1) dL_shortest_1 ic_0 ?_
  refine V_aload_n (pc := 2) dL_shortest_2 rfl rfl ?_
  refine V_iload_n (pc := 3) dL_shortest_3 rfl rfl ?_
  refine VX_callC (pc := 4) (As := [.int p1]) (rest := [.int (0 : Int32), .ref (wB w + 183)]) (c_X11_shortest w p1 σ) cw_L_104 rfl dL_shortest_4 kc_0 ci_11 ⟨Nat.le_of_ble_eq_true rfl, Nat.le_of_ble_eq_true rfl⟩ rfl rfl (Nat.le_of_ble_eq_true rfl) (Nat.le_of_ble_eq_true rfl) (Nat.le_of_ble_eq_true rfl) (fun e s b hb => ?_) (fun v4 s4 => ?_)
  · by_cases h0 : e = 0
    · subst h0
      refine ⟨[], ⟨0, 9, 12, 24⟩, [], by decide, ht.trans rfl, by decide, by decide, gx 975 (by decide +kernel) (by decide +kernel), (by intro u hu; cases hu), fun q => ?_⟩
      show VV m_L_shortest w g 1 6 (QM m_L_shortest w g x) (fun b : Int32 × MS => b = x) 12 [some (.ref (wB w + 0)), some (.int p1), some (.ref (wB w + 183)), none] [.ref q] s (some ((1 : Int32), s))
      refine V_astore_n (pc := 12) (vs' := [some (.ref (wB w + 0)), some (.int p1), some (.ref (wB w + 183)), some (.ref q)]) dL_shortest_12 rfl (Nat.le_of_ble_eq_true rfl) (Nat.le_of_ble_eq_true rfl) rfl ?_
      refine V_iconst (pc := 13) dL_shortest_13 ic_1 ?_
      exact V_ireti (pc := 14) dL_shortest_14 rfl (hk := fun h => h)
    exact absurd hb (by simp [h0])
  · show VV m_L_shortest w g 1 6 (QM m_L_shortest w g x) (fun b : Int32 × MS => b = x) 7 [some (.ref (wB w + 0)), some (.int p1), some (.ref (wB w + 183)), none] [.int v4, .int (0 : Int32), .ref (wB w + 183)] s4 _
    refine V_i2l (pc := 7) dL_shortest_7 ?_
    refine V_last (pc := 8) dL_shortest_8 (fun s8 => ?_)
    refine V_goto (pc := 9) (tgt := 15) dL_shortest_9 (by decide +kernel) ?_
    refine V_iconst (pc := 15) dL_shortest_15 ic_0 ?_
    exact V_ireti (pc := 16) dL_shortest_16 rfl (hk := fun h => h)
def f_L_alibi (n : Nat) (p1 : Int32) (σ : MS) : Option (Int32 × MS) := (thn (f_X11_alibi n p1 σ) (fun v4 s4 => (ltM (mu s4 183 0 v4) (fun s8 => some ((0 : Int32), s8)))) (fun e s => if e = 0 then some ((1 : Int32), s) else none))
set_option maxRecDepth 20000 in
set_option maxHeartbeats 2000000 in
theorem c_L_alibi (w : TG) (n : Nat) (p1 : Int32) (σ : MS) : MCW m_L_alibi [(0, 9, 12, 24)] w [.ref (wB w + 0), .int p1, .ref (wB w + 183)] σ (f_L_alibi n p1 σ) := by
  refine V_methW (by decide +kernel) (Nat.le_of_ble_eq_true rfl) (by intro v hv; simp only [List.mem_cons, List.not_mem_nil, or_false] at hv; rcases hv with rfl | rfl | rfl <;> rfl) (fun g x ht => ?_)
  show VV m_L_alibi w g 0 0 (QM m_L_alibi w g x) (fun b : Int32 × MS => b = x) 0 [some (.ref (wB w + 0)), some (.int p1), some (.ref (wB w + 183)), none] [] σ (f_L_alibi n p1 σ)
  refine V_aload_n (pc := 0) dL_alibi_0 rfl rfl ?_
  refine V_iconst (pc := 1) dL_alibi_1 ic_0 ?_
  refine V_aload_n (pc := 2) dL_alibi_2 rfl rfl ?_
  refine V_iload_n (pc := 3) dL_alibi_3 rfl rfl ?_
  refine VX_callC (pc := 4) (As := [.int p1]) (rest := [.int (0 : Int32), .ref (wB w + 183)]) (c_X11_alibi w n p1 σ) cw_L_107 rfl dL_alibi_4 kc_0 ci_11 ⟨Nat.le_of_ble_eq_true rfl, Nat.le_of_ble_eq_true rfl⟩ rfl rfl (Nat.le_of_ble_eq_true rfl) (Nat.le_of_ble_eq_true rfl) (Nat.le_of_ble_eq_true rfl) (fun e s b hb => ?_) (fun v4 s4 => ?_)
  · by_cases h0 : e = 0
    · subst h0
      refine ⟨[], ⟨0, 9, 12, 24⟩, [], by decide, ht.trans rfl, by decide, by decide, gx 975 (by decide +kernel) (by decide +kernel), (by intro u hu; cases hu), fun q => ?_⟩
      show VV m_L_alibi w g 1 6 (QM m_L_alibi w g x) (fun b : Int32 × MS => b = x) 12 [some (.ref (wB w + 0)), some (.int p1), some (.ref (wB w + 183)), none] [.ref q] s (some ((1 : Int32), s))
      refine V_astore_n (pc := 12) (vs' := [some (.ref (wB w + 0)), some (.int p1), some (.ref (wB w + 183)), some (.ref q)]) dL_alibi_12 rfl (Nat.le_of_ble_eq_true rfl) (Nat.le_of_ble_eq_true rfl) rfl ?_
      refine V_iconst (pc := 13) dL_alibi_13 ic_1 ?_
      exact V_ireti (pc := 14) dL_alibi_14 rfl (hk := fun h => h)
    exact absurd hb (by simp [h0])
  · show VV m_L_alibi w g 1 6 (QM m_L_alibi w g x) (fun b : Int32 × MS => b = x) 7 [some (.ref (wB w + 0)), some (.int p1), some (.ref (wB w + 183)), none] [.int v4, .int (0 : Int32), .ref (wB w + 183)] s4 _
    refine V_i2l (pc := 7) dL_alibi_7 ?_
    refine V_last (pc := 8) dL_alibi_8 (fun s8 => ?_)
    refine V_goto (pc := 9) (tgt := 15) dL_alibi_9 (by decide +kernel) ?_
    refine V_iconst (pc := 15) dL_alibi_15 ic_0 ?_
    exact V_ireti (pc := 16) dL_alibi_16 rfl (hk := fun h => h)
def f_L_odds (n : Nat) (p1 : Int32) (p2 : Int32) (σ : MS) : Option (Int32 × MS) := (thn (f_X11_odds n p1 p2 σ) (fun v5 s5 => (ltM (mu s5 183 0 v5) (fun s9 => some ((0 : Int32), s9)))) (fun e s => if e = 0 then some ((1 : Int32), s) else if e = 1 then some ((2 : Int32), s) else none))
set_option maxRecDepth 20000 in
set_option maxHeartbeats 2000000 in
theorem c_L_odds (w : TG) (n : Nat) (p1 : Int32) (p2 : Int32) (σ : MS) : MCW m_L_odds [(0, 10, 13, 24), (0, 10, 17, 13)] w [.ref (wB w + 0), .int p1, .int p2, .ref (wB w + 183)] σ (f_L_odds n p1 p2 σ) := by
  refine V_methW (by decide +kernel) (Nat.le_of_ble_eq_true rfl) (by intro v hv; simp only [List.mem_cons, List.not_mem_nil, or_false] at hv; rcases hv with rfl | rfl | rfl | rfl <;> rfl) (fun g x ht => ?_)
  show VV m_L_odds w g 0 0 (QM m_L_odds w g x) (fun b : Int32 × MS => b = x) 0 [some (.ref (wB w + 0)), some (.int p1), some (.int p2), some (.ref (wB w + 183)), none] [] σ (f_L_odds n p1 p2 σ)
  refine V_aload_n (pc := 0) dL_odds_0 rfl rfl ?_
  refine V_iconst (pc := 1) dL_odds_1 ic_0 ?_
  refine V_aload_n (pc := 2) dL_odds_2 rfl rfl ?_
  refine V_iload_n (pc := 3) dL_odds_3 rfl rfl ?_
  refine V_iload_n (pc := 4) dL_odds_4 rfl rfl ?_
  refine VX_callC (pc := 5) (As := [.int p1, .int p2]) (rest := [.int (0 : Int32), .ref (wB w + 183)]) (c_X11_odds w n p1 p2 σ) cw_L_110 rfl dL_odds_5 kc_0 ci_11 ⟨Nat.le_of_ble_eq_true rfl, Nat.le_of_ble_eq_true rfl⟩ rfl rfl (Nat.le_of_ble_eq_true rfl) (Nat.le_of_ble_eq_true rfl) (Nat.le_of_ble_eq_true rfl) (fun e s b hb => ?_) (fun v5 s5 => ?_)
  · by_cases h0 : e = 0
    · subst h0
      refine ⟨[], ⟨0, 10, 13, 24⟩, [⟨0, 10, 17, 13⟩], by decide, ht.trans rfl, by decide, by decide, gx 975 (by decide +kernel) (by decide +kernel), (by intro u hu; cases hu), fun q => ?_⟩
      show VV m_L_odds w g 3 18 (QM m_L_odds w g x) (fun b : Int32 × MS => b = x) 13 [some (.ref (wB w + 0)), some (.int p1), some (.int p2), some (.ref (wB w + 183)), none] [.ref q] s (some ((1 : Int32), s))
      refine V_astore (pc := 13) (vs' := [some (.ref (wB w + 0)), some (.int p1), some (.int p2), some (.ref (wB w + 183)), some (.ref q)]) dL_odds_13 (Nat.le_of_ble_eq_true rfl) (Nat.le_of_ble_eq_true rfl) rfl ?_
      refine V_iconst (pc := 15) dL_odds_15 ic_1 ?_
      exact V_ireti (pc := 16) dL_odds_16 rfl (hk := fun h => h)
    by_cases h1 : e = 1
    · subst h1
      refine ⟨[⟨0, 10, 13, 24⟩], ⟨0, 10, 17, 13⟩, [], by decide, ht.trans rfl, by decide, by decide, gx 682 (by decide +kernel) (by decide +kernel), (by intro u hu; rw [List.mem_singleton.mp hu]; exact ⟨by decide, 0, by decide, by decide, gm (by decide +kernel) (by decide +kernel)⟩), fun q => ?_⟩
      show VV m_L_odds w g 3 18 (QM m_L_odds w g x) (fun b : Int32 × MS => b = x) 17 [some (.ref (wB w + 0)), some (.int p1), some (.int p2), some (.ref (wB w + 183)), none] [.ref q] s (some ((2 : Int32), s))
      refine V_astore (pc := 17) (vs' := [some (.ref (wB w + 0)), some (.int p1), some (.int p2), some (.ref (wB w + 183)), some (.ref q)]) dL_odds_17 (Nat.le_of_ble_eq_true rfl) (Nat.le_of_ble_eq_true rfl) rfl ?_
      refine V_iconst (pc := 19) dL_odds_19 ic_2 ?_
      exact V_ireti (pc := 20) dL_odds_20 rfl (hk := fun h => h)
    exact absurd hb (by simp [h0, h1])
  · show VV m_L_odds w g 3 18 (QM m_L_odds w g x) (fun b : Int32 × MS => b = x) 8 [some (.ref (wB w + 0)), some (.int p1), some (.int p2), some (.ref (wB w + 183)), none] [.int v5, .int (0 : Int32), .ref (wB w + 183)] s5 _
    refine V_i2l (pc := 8) dL_odds_8 ?_
    refine V_last (pc := 9) dL_odds_9 (fun s9 => ?_)
    refine V_goto (pc := 10) (tgt := 21) dL_odds_10 (by decide +kernel) ?_
    refine V_iconst (pc := 21) dL_odds_21 ic_0 ?_
    exact V_ireti (pc := 22) dL_odds_22 rfl (hk := fun h => h)
def f_L_ahead (n : Nat) (p1 : Int32) (p2 : Int32) (p3 : Int32) (σ : MS) : Option (Int32 × MS) := (thn (f_X11_ahead n p1 p2 p3 σ) (fun v7 s7 => (ltM (mu s7 183 0 v7) (fun s11 => some ((0 : Int32), s11)))) (fun e s => if e = 0 then some ((1 : Int32), s) else if e = 1 then some ((2 : Int32), s) else none))
set_option maxRecDepth 20000 in
set_option maxHeartbeats 2000000 in
theorem c_L_ahead (w : TG) (n : Nat) (p1 : Int32) (p2 : Int32) (p3 : Int32) (σ : MS) : MCW m_L_ahead [(0, 12, 15, 24), (0, 12, 19, 13)] w [.ref (wB w + 0), .int p1, .int p2, .int p3, .ref (wB w + 183)] σ (f_L_ahead n p1 p2 p3 σ) := by
  refine V_methW (by decide +kernel) (Nat.le_of_ble_eq_true rfl) (by intro v hv; simp only [List.mem_cons, List.not_mem_nil, or_false] at hv; rcases hv with rfl | rfl | rfl | rfl | rfl <;> rfl) (fun g x ht => ?_)
  show VV m_L_ahead w g 0 0 (QM m_L_ahead w g x) (fun b : Int32 × MS => b = x) 0 [some (.ref (wB w + 0)), some (.int p1), some (.int p2), some (.int p3), some (.ref (wB w + 183)), none] [] σ (f_L_ahead n p1 p2 p3 σ)
  refine V_aload (pc := 0) dL_ahead_0 rfl ?_
  refine V_iconst (pc := 2) dL_ahead_2 ic_0 ?_
  refine V_aload_n (pc := 3) dL_ahead_3 rfl rfl ?_
  refine V_iload_n (pc := 4) dL_ahead_4 rfl rfl ?_
  refine V_iload_n (pc := 5) dL_ahead_5 rfl rfl ?_
  refine V_iload_n (pc := 6) dL_ahead_6 rfl rfl ?_
  refine VX_callC (pc := 7) (As := [.int p1, .int p2, .int p3]) (rest := [.int (0 : Int32), .ref (wB w + 183)]) (c_X11_ahead w n p1 p2 p3 σ) cw_L_113 rfl dL_ahead_7 kc_0 ci_11 ⟨Nat.le_of_ble_eq_true rfl, Nat.le_of_ble_eq_true rfl⟩ rfl rfl (Nat.le_of_ble_eq_true rfl) (Nat.le_of_ble_eq_true rfl) (Nat.le_of_ble_eq_true rfl) (fun e s b hb => ?_) (fun v7 s7 => ?_)
  · by_cases h0 : e = 0
    · subst h0
      refine ⟨[], ⟨0, 12, 15, 24⟩, [⟨0, 12, 19, 13⟩], by decide, ht.trans rfl, by decide, by decide, gx 975 (by decide +kernel) (by decide +kernel), (by intro u hu; cases hu), fun q => ?_⟩
      show VV m_L_ahead w g 2 12 (QM m_L_ahead w g x) (fun b : Int32 × MS => b = x) 15 [some (.ref (wB w + 0)), some (.int p1), some (.int p2), some (.int p3), some (.ref (wB w + 183)), none] [.ref q] s (some ((1 : Int32), s))
      refine V_astore (pc := 15) (vs' := [some (.ref (wB w + 0)), some (.int p1), some (.int p2), some (.int p3), some (.ref (wB w + 183)), some (.ref q)]) dL_ahead_15 (Nat.le_of_ble_eq_true rfl) (Nat.le_of_ble_eq_true rfl) rfl ?_
      refine V_iconst (pc := 17) dL_ahead_17 ic_1 ?_
      exact V_ireti (pc := 18) dL_ahead_18 rfl (hk := fun h => h)
    by_cases h1 : e = 1
    · subst h1
      refine ⟨[⟨0, 12, 15, 24⟩], ⟨0, 12, 19, 13⟩, [], by decide, ht.trans rfl, by decide, by decide, gx 682 (by decide +kernel) (by decide +kernel), (by intro u hu; rw [List.mem_singleton.mp hu]; exact ⟨by decide, 0, by decide, by decide, gm (by decide +kernel) (by decide +kernel)⟩), fun q => ?_⟩
      show VV m_L_ahead w g 2 12 (QM m_L_ahead w g x) (fun b : Int32 × MS => b = x) 19 [some (.ref (wB w + 0)), some (.int p1), some (.int p2), some (.int p3), some (.ref (wB w + 183)), none] [.ref q] s (some ((2 : Int32), s))
      refine V_astore (pc := 19) (vs' := [some (.ref (wB w + 0)), some (.int p1), some (.int p2), some (.int p3), some (.ref (wB w + 183)), some (.ref q)]) dL_ahead_19 (Nat.le_of_ble_eq_true rfl) (Nat.le_of_ble_eq_true rfl) rfl ?_
      refine V_iconst (pc := 21) dL_ahead_21 ic_2 ?_
      exact V_ireti (pc := 22) dL_ahead_22 rfl (hk := fun h => h)
    exact absurd hb (by simp [h0, h1])
  · show VV m_L_ahead w g 2 12 (QM m_L_ahead w g x) (fun b : Int32 × MS => b = x) 10 [some (.ref (wB w + 0)), some (.int p1), some (.int p2), some (.int p3), some (.ref (wB w + 183)), none] [.int v7, .int (0 : Int32), .ref (wB w + 183)] s7 _
    refine V_i2l (pc := 10) dL_ahead_10 ?_
    refine V_last (pc := 11) dL_ahead_11 (fun s11 => ?_)
    refine V_goto (pc := 12) (tgt := 23) dL_ahead_12 (by decide +kernel) ?_
    refine V_iconst (pc := 23) dL_ahead_23 ic_0 ?_
    exact V_ireti (pc := 24) dL_ahead_24 rfl (hk := fun h => h)
def f_L_calm (n : Nat) (p1 : Int32) (σ : MS) : Option (Int32 × MS) := (thn (f_X11_calm n p1 σ) (fun v4 s4 => (ltM (mu s4 183 0 v4) (fun s8 => some ((0 : Int32), s8)))) (fun e s => if e = 1 then some ((1 : Int32), s) else none))
set_option maxRecDepth 20000 in
set_option maxHeartbeats 2000000 in
theorem c_L_calm (w : TG) (n : Nat) (p1 : Int32) (σ : MS) : MCW m_L_calm [(0, 9, 12, 13)] w [.ref (wB w + 0), .int p1, .ref (wB w + 183)] σ (f_L_calm n p1 σ) := by
  refine V_methW (by decide +kernel) (Nat.le_of_ble_eq_true rfl) (by intro v hv; simp only [List.mem_cons, List.not_mem_nil, or_false] at hv; rcases hv with rfl | rfl | rfl <;> rfl) (fun g x ht => ?_)
  show VV m_L_calm w g 0 0 (QM m_L_calm w g x) (fun b : Int32 × MS => b = x) 0 [some (.ref (wB w + 0)), some (.int p1), some (.ref (wB w + 183)), none] [] σ (f_L_calm n p1 σ)
  refine V_aload_n (pc := 0) dL_calm_0 rfl rfl ?_
  refine V_iconst (pc := 1) dL_calm_1 ic_0 ?_
  refine V_aload_n (pc := 2) dL_calm_2 rfl rfl ?_
  refine V_iload_n (pc := 3) dL_calm_3 rfl rfl ?_
  refine VX_callC (pc := 4) (As := [.int p1]) (rest := [.int (0 : Int32), .ref (wB w + 183)]) (c_X11_calm w n p1 σ) cw_L_116 rfl dL_calm_4 kc_0 ci_11 ⟨Nat.le_of_ble_eq_true rfl, Nat.le_of_ble_eq_true rfl⟩ rfl rfl (Nat.le_of_ble_eq_true rfl) (Nat.le_of_ble_eq_true rfl) (Nat.le_of_ble_eq_true rfl) (fun e s b hb => ?_) (fun v4 s4 => ?_)
  · by_cases h1 : e = 1
    · subst h1
      refine ⟨[], ⟨0, 9, 12, 13⟩, [], by decide, ht.trans rfl, by decide, by decide, gx 682 (by decide +kernel) (by decide +kernel), (by intro u hu; cases hu), fun q => ?_⟩
      show VV m_L_calm w g 1 6 (QM m_L_calm w g x) (fun b : Int32 × MS => b = x) 12 [some (.ref (wB w + 0)), some (.int p1), some (.ref (wB w + 183)), none] [.ref q] s (some ((1 : Int32), s))
      refine V_astore_n (pc := 12) (vs' := [some (.ref (wB w + 0)), some (.int p1), some (.ref (wB w + 183)), some (.ref q)]) dL_calm_12 rfl (Nat.le_of_ble_eq_true rfl) (Nat.le_of_ble_eq_true rfl) rfl ?_
      refine V_iconst (pc := 13) dL_calm_13 ic_1 ?_
      exact V_ireti (pc := 14) dL_calm_14 rfl (hk := fun h => h)
    exact absurd hb (by simp [h1])
  · show VV m_L_calm w g 1 6 (QM m_L_calm w g x) (fun b : Int32 × MS => b = x) 7 [some (.ref (wB w + 0)), some (.int p1), some (.ref (wB w + 183)), none] [.int v4, .int (0 : Int32), .ref (wB w + 183)] s4 _
    refine V_i2l (pc := 7) dL_calm_7 ?_
    refine V_last (pc := 8) dL_calm_8 (fun s8 => ?_)
    refine V_goto (pc := 9) (tgt := 15) dL_calm_9 (by decide +kernel) ?_
    refine V_iconst (pc := 15) dL_calm_15 ic_0 ?_
    exact V_ireti (pc := 16) dL_calm_16 rfl (hk := fun h => h)
def f_L_trial (n : Nat) (p1 : Int32) (p2 : Int32) (σ : MS) : Option (Int32 × MS) := (thn (f_X11_trial n p1 p2 σ) (fun v5 s5 => (ltM (mu s5 183 0 v5) (fun s9 => some ((0 : Int32), s9)))) (fun e s => if e = 1 then some ((1 : Int32), s) else none))
set_option maxRecDepth 20000 in
set_option maxHeartbeats 2000000 in
theorem c_L_trial (w : TG) (n : Nat) (p1 : Int32) (p2 : Int32) (σ : MS) : MCW m_L_trial [(0, 10, 13, 13)] w [.ref (wB w + 0), .int p1, .int p2, .ref (wB w + 183)] σ (f_L_trial n p1 p2 σ) := by
  refine V_methW (by decide +kernel) (Nat.le_of_ble_eq_true rfl) (by intro v hv; simp only [List.mem_cons, List.not_mem_nil, or_false] at hv; rcases hv with rfl | rfl | rfl | rfl <;> rfl) (fun g x ht => ?_)
  show VV m_L_trial w g 0 0 (QM m_L_trial w g x) (fun b : Int32 × MS => b = x) 0 [some (.ref (wB w + 0)), some (.int p1), some (.int p2), some (.ref (wB w + 183)), none] [] σ (f_L_trial n p1 p2 σ)
  refine V_aload_n (pc := 0) dL_trial_0 rfl rfl ?_
  refine V_iconst (pc := 1) dL_trial_1 ic_0 ?_
  refine V_aload_n (pc := 2) dL_trial_2 rfl rfl ?_
  refine V_iload_n (pc := 3) dL_trial_3 rfl rfl ?_
  refine V_iload_n (pc := 4) dL_trial_4 rfl rfl ?_
  refine VX_callC (pc := 5) (As := [.int p1, .int p2]) (rest := [.int (0 : Int32), .ref (wB w + 183)]) (c_X11_trial w n p1 p2 σ) cw_L_119 rfl dL_trial_5 kc_0 ci_11 ⟨Nat.le_of_ble_eq_true rfl, Nat.le_of_ble_eq_true rfl⟩ rfl rfl (Nat.le_of_ble_eq_true rfl) (Nat.le_of_ble_eq_true rfl) (Nat.le_of_ble_eq_true rfl) (fun e s b hb => ?_) (fun v5 s5 => ?_)
  · by_cases h1 : e = 1
    · subst h1
      refine ⟨[], ⟨0, 10, 13, 13⟩, [], by decide, ht.trans rfl, by decide, by decide, gx 682 (by decide +kernel) (by decide +kernel), (by intro u hu; cases hu), fun q => ?_⟩
      show VV m_L_trial w g 1 6 (QM m_L_trial w g x) (fun b : Int32 × MS => b = x) 13 [some (.ref (wB w + 0)), some (.int p1), some (.int p2), some (.ref (wB w + 183)), none] [.ref q] s (some ((1 : Int32), s))
      refine V_astore (pc := 13) (vs' := [some (.ref (wB w + 0)), some (.int p1), some (.int p2), some (.ref (wB w + 183)), some (.ref q)]) dL_trial_13 (Nat.le_of_ble_eq_true rfl) (Nat.le_of_ble_eq_true rfl) rfl ?_
      refine V_iconst (pc := 15) dL_trial_15 ic_1 ?_
      exact V_ireti (pc := 16) dL_trial_16 rfl (hk := fun h => h)
    exact absurd hb (by simp [h1])
  · show VV m_L_trial w g 1 6 (QM m_L_trial w g x) (fun b : Int32 × MS => b = x) 8 [some (.ref (wB w + 0)), some (.int p1), some (.int p2), some (.ref (wB w + 183)), none] [.int v5, .int (0 : Int32), .ref (wB w + 183)] s5 _
    refine V_i2l (pc := 8) dL_trial_8 ?_
    refine V_last (pc := 9) dL_trial_9 (fun s9 => ?_)
    refine V_goto (pc := 10) (tgt := 17) dL_trial_10 (by decide +kernel) ?_
    refine V_iconst (pc := 17) dL_trial_17 ic_0 ?_
    exact V_ireti (pc := 18) dL_trial_18 rfl (hk := fun h => h)
def f_L_span (n : Nat) (p1 : Int32) (p2 : Int32) (σ : MS) : Option (Int32 × MS) := (thn (f_X11_span n p1 p2 σ) (fun v5 s5 => (ltM (mu s5 183 0 v5) (fun s9 => some ((0 : Int32), s9)))) (fun e s => if e = 1 then some ((1 : Int32), s) else none))
set_option maxRecDepth 20000 in
set_option maxHeartbeats 2000000 in
theorem c_L_span (w : TG) (n : Nat) (p1 : Int32) (p2 : Int32) (σ : MS) : MCW m_L_span [(0, 10, 13, 13)] w [.ref (wB w + 0), .int p1, .int p2, .ref (wB w + 183)] σ (f_L_span n p1 p2 σ) := by
  refine V_methW (by decide +kernel) (Nat.le_of_ble_eq_true rfl) (by intro v hv; simp only [List.mem_cons, List.not_mem_nil, or_false] at hv; rcases hv with rfl | rfl | rfl | rfl <;> rfl) (fun g x ht => ?_)
  show VV m_L_span w g 0 0 (QM m_L_span w g x) (fun b : Int32 × MS => b = x) 0 [some (.ref (wB w + 0)), some (.int p1), some (.int p2), some (.ref (wB w + 183)), none] [] σ (f_L_span n p1 p2 σ)
  refine V_aload_n (pc := 0) dL_span_0 rfl rfl ?_
  refine V_iconst (pc := 1) dL_span_1 ic_0 ?_
  refine V_aload_n (pc := 2) dL_span_2 rfl rfl ?_
  refine V_iload_n (pc := 3) dL_span_3 rfl rfl ?_
  refine V_iload_n (pc := 4) dL_span_4 rfl rfl ?_
  refine VX_callC (pc := 5) (As := [.int p1, .int p2]) (rest := [.int (0 : Int32), .ref (wB w + 183)]) (c_X11_span w n p1 p2 σ) cw_L_122 rfl dL_span_5 kc_0 ci_11 ⟨Nat.le_of_ble_eq_true rfl, Nat.le_of_ble_eq_true rfl⟩ rfl rfl (Nat.le_of_ble_eq_true rfl) (Nat.le_of_ble_eq_true rfl) (Nat.le_of_ble_eq_true rfl) (fun e s b hb => ?_) (fun v5 s5 => ?_)
  · by_cases h1 : e = 1
    · subst h1
      refine ⟨[], ⟨0, 10, 13, 13⟩, [], by decide, ht.trans rfl, by decide, by decide, gx 682 (by decide +kernel) (by decide +kernel), (by intro u hu; cases hu), fun q => ?_⟩
      show VV m_L_span w g 1 6 (QM m_L_span w g x) (fun b : Int32 × MS => b = x) 13 [some (.ref (wB w + 0)), some (.int p1), some (.int p2), some (.ref (wB w + 183)), none] [.ref q] s (some ((1 : Int32), s))
      refine V_astore (pc := 13) (vs' := [some (.ref (wB w + 0)), some (.int p1), some (.int p2), some (.ref (wB w + 183)), some (.ref q)]) dL_span_13 (Nat.le_of_ble_eq_true rfl) (Nat.le_of_ble_eq_true rfl) rfl ?_
      refine V_iconst (pc := 15) dL_span_15 ic_1 ?_
      exact V_ireti (pc := 16) dL_span_16 rfl (hk := fun h => h)
    exact absurd hb (by simp [h1])
  · show VV m_L_span w g 1 6 (QM m_L_span w g x) (fun b : Int32 × MS => b = x) 8 [some (.ref (wB w + 0)), some (.int p1), some (.int p2), some (.ref (wB w + 183)), none] [.int v5, .int (0 : Int32), .ref (wB w + 183)] s5 _
    refine V_i2l (pc := 8) dL_span_8 ?_
    refine V_last (pc := 9) dL_span_9 (fun s9 => ?_)
    refine V_goto (pc := 10) (tgt := 17) dL_span_10 (by decide +kernel) ?_
    refine V_iconst (pc := 17) dL_span_17 ic_0 ?_
    exact V_ireti (pc := 18) dL_span_18 rfl (hk := fun h => h)
def f_L_led (n : Nat) (p1 : Int32) (p2 : Int32) (σ : MS) : Option (Int32 × MS) := (thn (f_X11_led n p1 p2 σ) (fun v5 s5 => (ltM (mu s5 183 0 v5) (fun s9 => some ((0 : Int32), s9)))) (fun e s => if e = 0 then some ((1 : Int32), s) else none))
set_option maxRecDepth 20000 in
set_option maxHeartbeats 2000000 in
theorem c_L_led (w : TG) (n : Nat) (p1 : Int32) (p2 : Int32) (σ : MS) : MCW m_L_led [(0, 10, 13, 24)] w [.ref (wB w + 0), .int p1, .int p2, .ref (wB w + 183)] σ (f_L_led n p1 p2 σ) := by
  refine V_methW (by decide +kernel) (Nat.le_of_ble_eq_true rfl) (by intro v hv; simp only [List.mem_cons, List.not_mem_nil, or_false] at hv; rcases hv with rfl | rfl | rfl | rfl <;> rfl) (fun g x ht => ?_)
  show VV m_L_led w g 0 0 (QM m_L_led w g x) (fun b : Int32 × MS => b = x) 0 [some (.ref (wB w + 0)), some (.int p1), some (.int p2), some (.ref (wB w + 183)), none] [] σ (f_L_led n p1 p2 σ)
  refine V_aload_n (pc := 0) dL_led_0 rfl rfl ?_
  refine V_iconst (pc := 1) dL_led_1 ic_0 ?_
  refine V_aload_n (pc := 2) dL_led_2 rfl rfl ?_
  refine V_iload_n (pc := 3) dL_led_3 rfl rfl ?_
  refine V_iload_n (pc := 4) dL_led_4 rfl rfl ?_
  refine VX_callC (pc := 5) (As := [.int p1, .int p2]) (rest := [.int (0 : Int32), .ref (wB w + 183)]) (c_X11_led w n p1 p2 σ) cw_L_125 rfl dL_led_5 kc_0 ci_11 ⟨Nat.le_of_ble_eq_true rfl, Nat.le_of_ble_eq_true rfl⟩ rfl rfl (Nat.le_of_ble_eq_true rfl) (Nat.le_of_ble_eq_true rfl) (Nat.le_of_ble_eq_true rfl) (fun e s b hb => ?_) (fun v5 s5 => ?_)
  · by_cases h0 : e = 0
    · subst h0
      refine ⟨[], ⟨0, 10, 13, 24⟩, [], by decide, ht.trans rfl, by decide, by decide, gx 975 (by decide +kernel) (by decide +kernel), (by intro u hu; cases hu), fun q => ?_⟩
      show VV m_L_led w g 1 6 (QM m_L_led w g x) (fun b : Int32 × MS => b = x) 13 [some (.ref (wB w + 0)), some (.int p1), some (.int p2), some (.ref (wB w + 183)), none] [.ref q] s (some ((1 : Int32), s))
      refine V_astore (pc := 13) (vs' := [some (.ref (wB w + 0)), some (.int p1), some (.int p2), some (.ref (wB w + 183)), some (.ref q)]) dL_led_13 (Nat.le_of_ble_eq_true rfl) (Nat.le_of_ble_eq_true rfl) rfl ?_
      refine V_iconst (pc := 15) dL_led_15 ic_1 ?_
      exact V_ireti (pc := 16) dL_led_16 rfl (hk := fun h => h)
    exact absurd hb (by simp [h0])
  · show VV m_L_led w g 1 6 (QM m_L_led w g x) (fun b : Int32 × MS => b = x) 8 [some (.ref (wB w + 0)), some (.int p1), some (.int p2), some (.ref (wB w + 183)), none] [.int v5, .int (0 : Int32), .ref (wB w + 183)] s5 _
    refine V_i2l (pc := 8) dL_led_8 ?_
    refine V_last (pc := 9) dL_led_9 (fun s9 => ?_)
    refine V_goto (pc := 10) (tgt := 17) dL_led_10 (by decide +kernel) ?_
    refine V_iconst (pc := 17) dL_led_17 ic_0 ?_
    exact V_ireti (pc := 18) dL_led_18 rfl (hk := fun h => h)
def f_L_log (p1 : Int32) (p2 : Int32) (σ : MS) : Option (Int32 × MS) := (thn (f_X11_log p1 p2 σ) (fun v5 s5 => (ltM (mu s5 183 0 v5) (fun s9 => some ((0 : Int32), s9)))) (fun e s => if e = 2 then some ((1 : Int32), s) else none))
set_option maxRecDepth 20000 in
set_option maxHeartbeats 2000000 in
theorem c_L_log (w : TG) (p1 : Int32) (p2 : Int32) (σ : MS) : MCW m_L_log [(0, 10, 13, 26)] w [.ref (wB w + 0), .int p1, .int p2, .ref (wB w + 183)] σ (f_L_log p1 p2 σ) := by
  refine V_methW (by decide +kernel) (Nat.le_of_ble_eq_true rfl) (by intro v hv; simp only [List.mem_cons, List.not_mem_nil, or_false] at hv; rcases hv with rfl | rfl | rfl | rfl <;> rfl) (fun g x ht => ?_)
  show VV m_L_log w g 0 0 (QM m_L_log w g x) (fun b : Int32 × MS => b = x) 0 [some (.ref (wB w + 0)), some (.int p1), some (.int p2), some (.ref (wB w + 183)), none] [] σ (f_L_log p1 p2 σ)
  refine V_aload_n (pc := 0) dL_log_0 rfl rfl ?_
  refine V_iconst (pc := 1) dL_log_1 ic_0 ?_
  refine V_aload_n (pc := 2) dL_log_2 rfl rfl ?_
  refine V_iload_n (pc := 3) dL_log_3 rfl rfl ?_
  refine V_iload_n (pc := 4) dL_log_4 rfl rfl ?_
  refine VX_callC (pc := 5) (As := [.int p1, .int p2]) (rest := [.int (0 : Int32), .ref (wB w + 183)]) (c_X11_log w p1 p2 σ) cw_L_128 rfl dL_log_5 kc_0 ci_11 ⟨Nat.le_of_ble_eq_true rfl, Nat.le_of_ble_eq_true rfl⟩ rfl rfl (Nat.le_of_ble_eq_true rfl) (Nat.le_of_ble_eq_true rfl) (Nat.le_of_ble_eq_true rfl) (fun e s b hb => ?_) (fun v5 s5 => ?_)
  · by_cases h2 : e = 2
    · subst h2
      refine ⟨[], ⟨0, 10, 13, 26⟩, [], by decide, ht.trans rfl, by decide, by decide, gx 976 (by decide +kernel) (by decide +kernel), (by intro u hu; cases hu), fun q => ?_⟩
      show VV m_L_log w g 1 6 (QM m_L_log w g x) (fun b : Int32 × MS => b = x) 13 [some (.ref (wB w + 0)), some (.int p1), some (.int p2), some (.ref (wB w + 183)), none] [.ref q] s (some ((1 : Int32), s))
      refine V_astore (pc := 13) (vs' := [some (.ref (wB w + 0)), some (.int p1), some (.int p2), some (.ref (wB w + 183)), some (.ref q)]) dL_log_13 (Nat.le_of_ble_eq_true rfl) (Nat.le_of_ble_eq_true rfl) rfl ?_
      refine V_iconst (pc := 15) dL_log_15 ic_1 ?_
      exact V_ireti (pc := 16) dL_log_16 rfl (hk := fun h => h)
    exact absurd hb (by simp [h2])
  · show VV m_L_log w g 1 6 (QM m_L_log w g x) (fun b : Int32 × MS => b = x) 8 [some (.ref (wB w + 0)), some (.int p1), some (.int p2), some (.ref (wB w + 183)), none] [.int v5, .int (0 : Int32), .ref (wB w + 183)] s5 _
    refine V_i2l (pc := 8) dL_log_8 ?_
    refine V_last (pc := 9) dL_log_9 (fun s9 => ?_)
    refine V_goto (pc := 10) (tgt := 17) dL_log_10 (by decide +kernel) ?_
    refine V_iconst (pc := 17) dL_log_17 ic_0 ?_
    exact V_ireti (pc := 18) dL_log_18 rfl (hk := fun h => h)
