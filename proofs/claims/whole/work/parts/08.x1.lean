def m_X11_days : MD := (yX11_days, cX11_days, 3, (some .int), 9, 272, 1, 6)
def m_X11_circles : MD := (yX11_circles, cX11_circles, 1, (some .int), 6, 138, 0, 0)
def m_X11_ends : MD := (yX11_ends, cX11_ends, 1, (some .int), 5, 223, 0, 0)
def m_X11_free : MD := (yX11_free, cX11_free, 2, (some .int), 9, 123, 1, 6)
def m_X11_secrets : MD := (yX11_secrets, cX11_secrets, 1, (some .int), 4, 91, 0, 0)
def m_X11_would : MD := (yX11_would, cX11_would, 3, (some .int), 10, 307, 2, 12)
def m_X11_widest : MD := (yX11_widest, cX11_widest, 3, (some .int), 9, 299, 2, 12)
def m_X11_parts : MD := (yX11_parts, cX11_parts, 3, (some .int), 10, 224, 3, 18)
def m_X11_lovers : MD := (yX11_lovers, cX11_lovers, 2, (some .int), 7, 163, 0, 0)
def m_X11_steady : MD := (yX11_steady, cX11_steady, 2, (some .int), 37, 956, 1, 6)
def m_X11_fondest : MD := (yX11_fondest, cX11_fondest, 1, (some .int), 36, 995, 0, 0)
def m_X11_tell : MD := (yX11_tell, cX11_tell, 1, (some .int), 5, 113, 0, 0)
def m_X11_between : MD := (yX11_between, cX11_between, 3, (some .int), 9, 121, 2, 12)
def m_X11_hub : MD := (yX11_hub, cX11_hub, 1, (some .int), 4, 93, 0, 0)
def m_X11_weighDrinkers : MD := (yX11_weighDrinkers, cX11_weighDrinkers, 2, none, 8, 100, 1, 6)
def m_X11_drank : MD := (yX11_drank, cX11_drank, 2, (some .int), 9, 121, 1, 6)
def m_X11_look : MD := (yX11_look, cX11_look, 1, (some .int), 9, 224, 1, 6)
def m_X11_way : MD := (yX11_way, cX11_way, 3, (some .int), 9, 224, 2, 12)
def m_X11_unseen : MD := (yX11_unseen, cX11_unseen, 3, (some .int), 10, 252, 3, 18)
def m_X11_trap : MD := (yX11_trap, cX11_trap, 4, (some .int), 9, 123, 1, 6)
def m_X11_oath : MD := (yX11_oath, cX11_oath, 3, (some .boolean), 9, 121, 1, 6)
def m_X11_shortest : MD := (yX11_shortest, cX11_shortest, 2, (some .int), 9, 121, 1, 6)
def m_X11_alibi : MD := (yX11_alibi, cX11_alibi, 4, (some .int), 9, 121, 1, 6)
def m_X11_odds : MD := (yX11_odds, cX11_odds, 3, (some .int), 10, 143, 3, 18)
def m_X11_ahead : MD := (yX11_ahead, cX11_ahead, 4, (some .int), 9, 272, 2, 12)
def m_X11_calm : MD := (yX11_calm, cX11_calm, 2, (some .int), 9, 272, 1, 6)
def m_X11_tryDays : MD := (yX11_tryDays, cX11_tryDays, 3, (some .int), 7, 272, 0, 0)
def m_X11_trial : MD := (yX11_trial, cX11_trial, 4, (some .int), 9, 294, 1, 6)
def m_X11_span : MD := (yX11_span, cX11_span, 6, (some .int), 9, 294, 1, 6)
def m_X11_led : MD := (yX11_led, cX11_led, 7, (some .int), 9, 220, 1, 6)
def m_X11_log : MD := (yX11_log, cX11_log, 3, (some .int), 8, 220, 1, 6)
theorem fk_X11_245 : fk RX11 245 4 7 := ⟨_, _, _, rfl, in_4, by decide, rfl, by decide, gx 234 (by decide +kernel) (by decide +kernel)⟩
theorem wm_X0_pass : wms m_X0_pass 4 := ⟨gx 1193 (by decide +kernel) (by decide +kernel), gx 154 (by decide +kernel) (by decide +kernel), gx 1194 (by decide +kernel) (by decide +kernel), by decide +kernel, by decide +kernel, by decide +kernel⟩
theorem cs_X11_248 : csp RX11 248 m_X0_pass 4 := csp_of wm_X0_pass (gx 1192 (by decide +kernel) (by decide +kernel))
theorem wm_X10_groups : wmp m_X10_groups 0 := ⟨gx 499 (by decide +kernel) (by decide +kernel), gx 500 (by decide +kernel) (by decide +kernel), gx 134 (by decide +kernel) (by decide +kernel), gx 501 (by decide +kernel) (by decide +kernel), by decide +kernel, by decide +kernel, by decide +kernel⟩
theorem cw_X11_254 : cwp RX11 254 m_X10_groups 0 := cwp_of wm_X10_groups (gx 498 (by decide +kernel) (by decide +kernel))
theorem wm_X10_lastDay : wmp m_X10_lastDay 0 := ⟨gx 530 (by decide +kernel) (by decide +kernel), gx 531 (by decide +kernel) (by decide +kernel), gx 134 (by decide +kernel) (by decide +kernel), gx 532 (by decide +kernel) (by decide +kernel), by decide +kernel, by decide +kernel, by decide +kernel⟩
theorem cw_X11_257 : cwp RX11 257 m_X10_lastDay 0 := cwp_of wm_X10_lastDay (gx 529 (by decide +kernel) (by decide +kernel))
theorem wm_X10_unboundOn : wmp m_X10_unboundOn 1 := ⟨gx 1223 (by decide +kernel) (by decide +kernel), gx 1224 (by decide +kernel) (by decide +kernel), gx 134 (by decide +kernel) (by decide +kernel), gx 1225 (by decide +kernel) (by decide +kernel), by decide +kernel, by decide +kernel, by decide +kernel⟩
theorem cw_X11_260 : cwp RX11 260 m_X10_unboundOn 1 := cwp_of wm_X10_unboundOn (gx 1222 (by decide +kernel) (by decide +kernel))
theorem wm_X10_hidden : wmp m_X10_hidden 0 := ⟨gx 545 (by decide +kernel) (by decide +kernel), gx 546 (by decide +kernel) (by decide +kernel), gx 134 (by decide +kernel) (by decide +kernel), gx 547 (by decide +kernel) (by decide +kernel), by decide +kernel, by decide +kernel, by decide +kernel⟩
theorem cw_X11_263 : cwp RX11 263 m_X10_hidden 0 := cwp_of wm_X10_hidden (gx 544 (by decide +kernel) (by decide +kernel))
theorem wm_X1_binding : wmp m_X1_binding 2 := ⟨gx 1242 (by decide +kernel) (by decide +kernel), gx 1243 (by decide +kernel) (by decide +kernel), gx 133 (by decide +kernel) (by decide +kernel), gx 1244 (by decide +kernel) (by decide +kernel), by decide +kernel, by decide +kernel, by decide +kernel⟩
theorem cw_X11_266 : cwp RX11 266 m_X1_binding 2 := cwp_of wm_X1_binding (gx 1241 (by decide +kernel) (by decide +kernel))
theorem wm_X10_cut : wmp m_X10_cut 2 := ⟨gx 1263 (by decide +kernel) (by decide +kernel), gx 1264 (by decide +kernel) (by decide +kernel), gx 134 (by decide +kernel) (by decide +kernel), gx 1265 (by decide +kernel) (by decide +kernel), by decide +kernel, by decide +kernel, by decide +kernel⟩
theorem cw_X11_269 : cwp RX11 269 m_X10_cut 2 := cwp_of wm_X10_cut (gx 1262 (by decide +kernel) (by decide +kernel))
theorem wm_X8_manyLovers : wmp m_X8_manyLovers 0 := ⟨gx 581 (by decide +kernel) (by decide +kernel), gx 582 (by decide +kernel) (by decide +kernel), gx 135 (by decide +kernel) (by decide +kernel), gx 583 (by decide +kernel) (by decide +kernel), by decide +kernel, by decide +kernel, by decide +kernel⟩
theorem cw_X11_275 : cwp RX11 275 m_X8_manyLovers 0 := cwp_of wm_X8_manyLovers (gx 580 (by decide +kernel) (by decide +kernel))
theorem wm_X8_firstLovers : wmp m_X8_firstLovers 0 := ⟨gx 557 (by decide +kernel) (by decide +kernel), gx 558 (by decide +kernel) (by decide +kernel), gx 135 (by decide +kernel) (by decide +kernel), gx 559 (by decide +kernel) (by decide +kernel), by decide +kernel, by decide +kernel, by decide +kernel⟩
theorem cw_X11_272 : cwp RX11 272 m_X8_firstLovers 0 := cwp_of wm_X8_firstLovers (gx 556 (by decide +kernel) (by decide +kernel))
theorem wm_X8_settle : wmp m_X8_settle 0 := ⟨gx 1279 (by decide +kernel) (by decide +kernel), gx 1280 (by decide +kernel) (by decide +kernel), gx 135 (by decide +kernel) (by decide +kernel), gx 1281 (by decide +kernel) (by decide +kernel), by decide +kernel, by decide +kernel, by decide +kernel⟩
theorem cw_X11_278 : cwp RX11 278 m_X8_settle 0 := cwp_of wm_X8_settle (gx 1278 (by decide +kernel) (by decide +kernel))
theorem fk_X11_281 : fk RX11 281 8 3 := ⟨_, _, _, rfl, in_8, by decide, rfl, by decide, gx 375 (by decide +kernel) (by decide +kernel)⟩
theorem fk_X11_284 : fk RX11 284 8 2 := ⟨_, _, _, rfl, in_8, by decide, rfl, by decide, gx 373 (by decide +kernel) (by decide +kernel)⟩
theorem wm_X8_greatest : wmp m_X8_greatest 0 := ⟨gx 589 (by decide +kernel) (by decide +kernel), gx 590 (by decide +kernel) (by decide +kernel), gx 135 (by decide +kernel) (by decide +kernel), gx 591 (by decide +kernel) (by decide +kernel), by decide +kernel, by decide +kernel, by decide +kernel⟩
theorem cw_X11_287 : cwp RX11 287 m_X8_greatest 0 := cwp_of wm_X8_greatest (gx 588 (by decide +kernel) (by decide +kernel))
theorem wm_X10_cover : wmp m_X10_cover 0 := ⟨gx 606 (by decide +kernel) (by decide +kernel), gx 607 (by decide +kernel) (by decide +kernel), gx 134 (by decide +kernel) (by decide +kernel), gx 608 (by decide +kernel) (by decide +kernel), by decide +kernel, by decide +kernel, by decide +kernel⟩
theorem cw_X11_290 : cwp RX11 290 m_X10_cover 0 := cwp_of wm_X10_cover (gx 605 (by decide +kernel) (by decide +kernel))
theorem wm_X10_steps : wmp m_X10_steps 2 := ⟨gx 1303 (by decide +kernel) (by decide +kernel), gx 1304 (by decide +kernel) (by decide +kernel), gx 134 (by decide +kernel) (by decide +kernel), gx 1305 (by decide +kernel) (by decide +kernel), by decide +kernel, by decide +kernel, by decide +kernel⟩
theorem cw_X11_293 : cwp RX11 293 m_X10_steps 2 := cwp_of wm_X10_steps (gx 1302 (by decide +kernel) (by decide +kernel))
theorem wm_X10_centre : wmp m_X10_centre 0 := ⟨gx 625 (by decide +kernel) (by decide +kernel), gx 626 (by decide +kernel) (by decide +kernel), gx 134 (by decide +kernel) (by decide +kernel), gx 627 (by decide +kernel) (by decide +kernel), by decide +kernel, by decide +kernel, by decide +kernel⟩
theorem cw_X11_296 : cwp RX11 296 m_X10_centre 0 := cwp_of wm_X10_centre (gx 624 (by decide +kernel) (by decide +kernel))
theorem fk_X11_95 : fk RX11 95 11 13 := ⟨_, _, _, rfl, in_11, by decide, rfl, by decide, gx 433 (by decide +kernel) (by decide +kernel)⟩
theorem wm_X2_weigh : wmp m_X2_weigh 0 := ⟨gx 1318 (by decide +kernel) (by decide +kernel), gx 1319 (by decide +kernel) (by decide +kernel), gx 137 (by decide +kernel) (by decide +kernel), gx 1320 (by decide +kernel) (by decide +kernel), by decide +kernel, by decide +kernel, by decide +kernel⟩
theorem cw_X11_386 : cwp RX11 386 m_X2_weigh 0 := cwp_of wm_X2_weigh (gx 1317 (by decide +kernel) (by decide +kernel))
theorem wm_X11_weighDrinkers : wmp m_X11_weighDrinkers 0 := ⟨gx 1315 (by decide +kernel) (by decide +kernel), gx 37 (by decide +kernel) (by decide +kernel), gx 127 (by decide +kernel) (by decide +kernel), gx 1316 (by decide +kernel) (by decide +kernel), by decide +kernel, by decide +kernel, by decide +kernel⟩
theorem cw_X11_299 : cwp RX11 299 m_X11_weighDrinkers 0 := cwp_of wm_X11_weighDrinkers (gx 1313 (by decide +kernel) (by decide +kernel))
theorem fk_X11_305 : fk RX11 305 2 3 := ⟨_, _, _, rfl, in_2, by decide, rfl, by decide, gx 405 (by decide +kernel) (by decide +kernel)⟩
theorem fk_X11_302 : fk RX11 302 2 4 := ⟨_, _, _, rfl, in_2, by decide, rfl, by decide, gx 407 (by decide +kernel) (by decide +kernel)⟩
theorem wm_X2_parting : wmp m_X2_parting 0 := ⟨gx 1344 (by decide +kernel) (by decide +kernel), gx 1345 (by decide +kernel) (by decide +kernel), gx 137 (by decide +kernel) (by decide +kernel), gx 1346 (by decide +kernel) (by decide +kernel), by decide +kernel, by decide +kernel, by decide +kernel⟩
theorem cw_X11_308 : cwp RX11 308 m_X2_parting 0 := cwp_of wm_X2_parting (gx 1343 (by decide +kernel) (by decide +kernel))
theorem fk_X11_86 : fk RX11 86 11 12 := ⟨_, _, _, rfl, in_11, by decide, rfl, by decide, gx 432 (by decide +kernel) (by decide +kernel)⟩
theorem cw_X11_311 : cwp RX11 311 m_X3_steps 2 := cwp_of wm_X3_steps (gx 1355 (by decide +kernel) (by decide +kernel))
theorem wm_X3_meeting : wmp m_X3_meeting 2 := ⟨gx 1373 (by decide +kernel) (by decide +kernel), gx 1374 (by decide +kernel) (by decide +kernel), gx 136 (by decide +kernel) (by decide +kernel), gx 1375 (by decide +kernel) (by decide +kernel), by decide +kernel, by decide +kernel, by decide +kernel⟩
theorem cw_X11_312 : cwp RX11 312 m_X3_meeting 2 := cwp_of wm_X3_meeting (gx 1372 (by decide +kernel) (by decide +kernel))
theorem wm_X3_catching : wmp m_X3_catching 1 := ⟨gx 1385 (by decide +kernel) (by decide +kernel), gx 1386 (by decide +kernel) (by decide +kernel), gx 136 (by decide +kernel) (by decide +kernel), gx 1387 (by decide +kernel) (by decide +kernel), by decide +kernel, by decide +kernel, by decide +kernel⟩
theorem cw_X11_315 : cwp RX11 315 m_X3_catching 1 := cwp_of wm_X3_catching (gx 1384 (by decide +kernel) (by decide +kernel))
theorem cw_X11_318 : cwp RX11 318 m_X3_caught 1 := cwp_of wm_X3_caught (gx 1394 (by decide +kernel) (by decide +kernel))
theorem fk_X11_326 : fk RX11 326 4 0 := ⟨_, _, _, rfl, in_4, by decide, rfl, by decide, gx 207 (by decide +kernel) (by decide +kernel)⟩
theorem wm_X4_strongest : wmp m_X4_strongest 1 := ⟨gx 1424 (by decide +kernel) (by decide +kernel), gx 1425 (by decide +kernel) (by decide +kernel), gx 129 (by decide +kernel) (by decide +kernel), gx 1426 (by decide +kernel) (by decide +kernel), by decide +kernel, by decide +kernel, by decide +kernel⟩
theorem cw_X11_329 : cwp RX11 329 m_X4_strongest 1 := cwp_of wm_X4_strongest (gx 1423 (by decide +kernel) (by decide +kernel))
theorem fp_X11_332 : fp RX11 332 4 6 .int := ⟨_, _, _, tyX4, rfl, in_4, by decide, rfl, by decide, gx 231 (by decide +kernel) (by decide +kernel), rfl, by decide +kernel, tyX4_ok, nmX4⟩
theorem fk_X11_332 : fk RX11 332 4 6 := ⟨_, _, _, rfl, in_4, by decide, rfl, by decide, gx 231 (by decide +kernel) (by decide +kernel)⟩
theorem wm_X11_tryDays : wmp m_X11_tryDays 2 := ⟨gx 1451 (by decide +kernel) (by decide +kernel), gx 42 (by decide +kernel) (by decide +kernel), gx 127 (by decide +kernel) (by decide +kernel), gx 1452 (by decide +kernel) (by decide +kernel), by decide +kernel, by decide +kernel, by decide +kernel⟩
theorem cw_X11_335 : cwp RX11 335 m_X11_tryDays 2 := cwp_of wm_X11_tryDays (gx 1449 (by decide +kernel) (by decide +kernel))
theorem wm_X4_allSuspicion : wmp m_X4_allSuspicion 0 := ⟨gx 661 (by decide +kernel) (by decide +kernel), gx 662 (by decide +kernel) (by decide +kernel), gx 129 (by decide +kernel) (by decide +kernel), gx 663 (by decide +kernel) (by decide +kernel), by decide +kernel, by decide +kernel, by decide +kernel⟩
theorem cw_X11_338 : cwp RX11 338 m_X4_allSuspicion 0 := cwp_of wm_X4_allSuspicion (gx 660 (by decide +kernel) (by decide +kernel))
theorem wm_X4_rowOf : wmp m_X4_rowOf 1 := ⟨gx 1468 (by decide +kernel) (by decide +kernel), gx 1469 (by decide +kernel) (by decide +kernel), gx 129 (by decide +kernel) (by decide +kernel), gx 1470 (by decide +kernel) (by decide +kernel), by decide +kernel, by decide +kernel, by decide +kernel⟩
theorem cw_X11_344 : cwp RX11 344 m_X4_rowOf 1 := cwp_of wm_X4_rowOf (gx 1467 (by decide +kernel) (by decide +kernel))
theorem wm_X4_rowHas : wms m_X4_rowHas 2 := ⟨gx 1472 (by decide +kernel) (by decide +kernel), gx 129 (by decide +kernel) (by decide +kernel), gx 1473 (by decide +kernel) (by decide +kernel), by decide +kernel, by decide +kernel, by decide +kernel⟩
theorem cs_X11_347 : csp RX11 347 m_X4_rowHas 2 := csp_of wm_X4_rowHas (gx 1471 (by decide +kernel) (by decide +kernel))
theorem cs_X11_351 : csp RX11 351 m_X4_rowPart 2 := csp_of wm_X4_rowPart (gx 1477 (by decide +kernel) (by decide +kernel))
theorem wm_X4_rows : wmp m_X4_rows 0 := ⟨gx 673 (by decide +kernel) (by decide +kernel), gx 674 (by decide +kernel) (by decide +kernel), gx 129 (by decide +kernel) (by decide +kernel), gx 675 (by decide +kernel) (by decide +kernel), by decide +kernel, by decide +kernel, by decide +kernel⟩
theorem cw_X11_341 : cwp RX11 341 m_X4_rows 0 := cwp_of wm_X4_rows (gx 672 (by decide +kernel) (by decide +kernel))
def f_X11_days (n : Nat) (p1 : Int32) (σ : MS) : Option (XRes) := (thn (f_X11_needNumber p1 (1 : Int32) (60 : Int32) σ) (fun v5 s5 => ((f_X11_remember  s5).bind (fun q9 => ((f_X0_pass n 3 30 p1 (1 : Int32) q9.2).bind (fun q30 => some (.inl ((q30.2 3 7) - (q9.2 3 7)), q30.2)))))) (fun e s => some (.inr e, s)))
set_option maxRecDepth 20000 in
set_option maxHeartbeats 2000000 in
theorem c_X11_days (w : TG) (n : Nat) (p1 : Int32) (σ : MS) : MX m_X11_days w [.ref (wB w + 0), .int p1] σ (f_X11_days n p1 σ) := by
  refine VX_meth (by decide +kernel) (Nat.le_of_ble_eq_true rfl) (by intro v hv; simp only [List.mem_cons, List.not_mem_nil, or_false] at hv; rcases hv with rfl | rfl <;> rfl) (fun g x hno => ?_)
  show VV m_X11_days w g 0 0 (QX m_X11_days w g x) (fun b : XRes => b = x) 0 [some (.ref (wB w + 0)), some (.int p1), none] [] σ (f_X11_days n p1 σ)
  refine V_aload_n (pc := 0) dX11_days_0 rfl rfl ?_
  refine V_iload_n (pc := 1) dX11_days_1 rfl rfl ?_
  refine V_iconst (pc := 2) dX11_days_2 ic_1 ?_
  refine V_bipush (pc := 3) dX11_days_3 bp_60 ?_
  refine VX_call (pc := 5) (As := [.int p1, .int (1 : Int32), .int (60 : Int32)]) (rest := []) hno (c_X11_needNumber w p1 (1 : Int32) (60 : Int32) σ) cw_X11_192 rfl dX11_days_5 kc_0 ci_11 ⟨Nat.le_of_ble_eq_true rfl, Nat.le_of_ble_eq_true rfl⟩ rfl rfl (Nat.le_of_ble_eq_true rfl) (Nat.le_of_ble_eq_true rfl) (Nat.le_of_ble_eq_true rfl) (fun e s b h k => by cases h; exact k) (fun v5 s5 => ?_)
  show VV m_X11_days w g 1 6 (QX m_X11_days w g x) (fun b : XRes => b = x) 8 [some (.ref (wB w + 0)), some (.int p1), none] [] s5 _
  refine V_aload_n (pc := 8) dX11_days_8 rfl rfl ?_
  refine V_callVv (pc := 9) (As := []) (rest := []) (c_X11_remember w  s5) cw_X11_218 rfl rfl dX11_days_9 kc_0 ci_11 ⟨Nat.le_of_ble_eq_true rfl, Nat.le_of_ble_eq_true rfl⟩ rfl rfl (Nat.le_of_ble_eq_true rfl) (Nat.le_of_ble_eq_true rfl) (Nat.le_of_ble_eq_true rfl) rfl (fun q9 => ?_)
  refine V_aload_n (pc := 12) dX11_days_12 rfl rfl ?_
  refine V_getr (pc := 13) (t := 3) fk_X11_19 rfl dX11_days_13 kc_0 rf_11_1_0 ?_
  refine V_geti (pc := 16) fk_X11_245 rfl dX11_days_16 kc_3 rf_4_7_3 ?_
  refine V_istore_n (pc := 19) (vs' := [some (.ref (wB w + 0)), some (.int p1), some (.int (q9.2 3 7))]) dX11_days_19 rfl (Nat.le_of_ble_eq_true rfl) (Nat.le_of_ble_eq_true rfl) rfl ?_
  refine V_aload_n (pc := 20) dX11_days_20 rfl rfl ?_
  refine V_getr (pc := 21) (t := 3) fk_X11_19 rfl dX11_days_21 kc_0 rf_11_1_0 ?_
  refine V_aload_n (pc := 24) dX11_days_24 rfl rfl ?_
  refine V_getr (pc := 25) (t := 30) fk_X11_32 rfl dX11_days_25 kc_0 rf_11_4_0 ?_
  refine V_iload_n (pc := 28) dX11_days_28 rfl rfl ?_
  refine V_iconst (pc := 29) dX11_days_29 ic_1 ?_
  refine V_callSi (pc := 30) (As := [.ref (wB w + 3), .ref (wB w + 30), .int p1, .int (1 : Int32)]) (rest := []) (c_X0_pass w n 3 30 p1 (1 : Int32) kc_3 kc_30 q9.2) cs_X11_248 rfl rfl dX11_days_30 ⟨Nat.le_of_ble_eq_true rfl, Nat.le_of_ble_eq_true rfl⟩ rfl rfl (Nat.le_of_ble_eq_true rfl) (Nat.le_of_ble_eq_true rfl) (Nat.le_of_ble_eq_true rfl) rfl (fun q30 => ?_)
  refine V_pop (pc := 33) dX11_days_33 rfl ?_
  refine V_aload_n (pc := 34) dX11_days_34 rfl rfl ?_
  refine V_getr (pc := 35) (t := 3) fk_X11_19 rfl dX11_days_35 kc_0 rf_11_1_0 ?_
  refine V_geti (pc := 38) fk_X11_245 rfl dX11_days_38 kc_3 rf_4_7_3 ?_
  refine V_iload_n (pc := 41) dX11_days_41 rfl rfl ?_
  refine V_isub (pc := 42) dX11_days_42 ?_
  exact VX_ireti (pc := 43) dX11_days_43 rfl (hk := fun h => h)
def f_X11_circles (n : Nat)  (σ : MS) : Option (Int32) := ((f_X10_groups n  σ).bind (fun q4 => some q4))
set_option maxRecDepth 20000 in
set_option maxHeartbeats 2000000 in
theorem c_X11_circles (w : TG) (n : Nat)  (σ : MS) : MC m_X11_circles w [.ref (wB w + 0)] σ ((f_X11_circles n  σ).map (fun r => (r, σ))) := by
  refine V_methp (by decide +kernel) (Nat.le_of_ble_eq_true rfl) (by intro v hv; simp only [List.mem_cons, List.not_mem_nil, or_false] at hv; subst hv; rfl) (fun g x => ?_)
  show VV m_X11_circles w g 0 0 (QM m_X11_circles w g x) (fun b : Int32 => (b, σ) = x) 0 [some (.ref (wB w + 0))] [] σ (f_X11_circles n  σ)
  refine V_aload_n (pc := 0) dX11_circles_0 rfl rfl ?_
  refine V_getr (pc := 1) (t := 55) fk_X11_72 rfl dX11_circles_1 kc_0 rf_11_10_0 ?_
  refine V_callVpi (pc := 4) (As := []) (rest := []) (c_X10_groups w n  σ) cw_X11_254 rfl rfl dX11_circles_4 kc_55 ci_10 ⟨Nat.le_of_ble_eq_true rfl, Nat.le_of_ble_eq_true rfl⟩ rfl rfl (Nat.le_of_ble_eq_true rfl) (Nat.le_of_ble_eq_true rfl) (Nat.le_of_ble_eq_true rfl) rfl (fun q4 => ?_)
  exact V_ireti (pc := 7) dX11_circles_7 rfl (hk := fun h => h)
def f_X11_ends (n : Nat)  (σ : MS) : Option (Int32) := ((f_X10_lastDay n  σ).bind (fun q4 => some q4))
set_option maxRecDepth 20000 in
set_option maxHeartbeats 2000000 in
theorem c_X11_ends (w : TG) (n : Nat)  (σ : MS) : MC m_X11_ends w [.ref (wB w + 0)] σ ((f_X11_ends n  σ).map (fun r => (r, σ))) := by
  refine V_methp (by decide +kernel) (Nat.le_of_ble_eq_true rfl) (by intro v hv; simp only [List.mem_cons, List.not_mem_nil, or_false] at hv; subst hv; rfl) (fun g x => ?_)
  show VV m_X11_ends w g 0 0 (QM m_X11_ends w g x) (fun b : Int32 => (b, σ) = x) 0 [some (.ref (wB w + 0))] [] σ (f_X11_ends n  σ)
  refine V_aload_n (pc := 0) dX11_ends_0 rfl rfl ?_
  refine V_getr (pc := 1) (t := 55) fk_X11_72 rfl dX11_ends_1 kc_0 rf_11_10_0 ?_
  refine V_callVpi (pc := 4) (As := []) (rest := []) (c_X10_lastDay w n  σ) cw_X11_257 rfl rfl dX11_ends_4 kc_55 ci_10 ⟨Nat.le_of_ble_eq_true rfl, Nat.le_of_ble_eq_true rfl⟩ rfl rfl (Nat.le_of_ble_eq_true rfl) (Nat.le_of_ble_eq_true rfl) (Nat.le_of_ble_eq_true rfl) rfl (fun q4 => ?_)
  exact V_ireti (pc := 7) dX11_ends_7 rfl (hk := fun h => h)
def f_X11_free (n : Nat) (p1 : Int32) (σ : MS) : Option (XRes) := (thn (f_X11_needNumber p1 (0 : Int32) (9999 : Int32) σ) (fun v6 s6 => ((f_X10_unboundOn n p1 s6).bind (fun q14 => some (.inl q14, s6)))) (fun e s => some (.inr e, s)))
set_option maxRecDepth 20000 in
set_option maxHeartbeats 2000000 in
theorem c_X11_free (w : TG) (n : Nat) (p1 : Int32) (σ : MS) : MX m_X11_free w [.ref (wB w + 0), .int p1] σ (f_X11_free n p1 σ) := by
  refine VX_meth (by decide +kernel) (Nat.le_of_ble_eq_true rfl) (by intro v hv; simp only [List.mem_cons, List.not_mem_nil, or_false] at hv; rcases hv with rfl | rfl <;> rfl) (fun g x hno => ?_)
  show VV m_X11_free w g 0 0 (QX m_X11_free w g x) (fun b : XRes => b = x) 0 [some (.ref (wB w + 0)), some (.int p1)] [] σ (f_X11_free n p1 σ)
  refine V_aload_n (pc := 0) dX11_free_0 rfl rfl ?_
  refine V_iload_n (pc := 1) dX11_free_1 rfl rfl ?_
  refine V_iconst (pc := 2) dX11_free_2 ic_0 ?_
  refine V_sipush (pc := 3) dX11_free_3 sp_9999 ?_
  refine VX_call (pc := 6) (As := [.int p1, .int (0 : Int32), .int (9999 : Int32)]) (rest := []) hno (c_X11_needNumber w p1 (0 : Int32) (9999 : Int32) σ) cw_X11_192 rfl dX11_free_6 kc_0 ci_11 ⟨Nat.le_of_ble_eq_true rfl, Nat.le_of_ble_eq_true rfl⟩ rfl rfl (Nat.le_of_ble_eq_true rfl) (Nat.le_of_ble_eq_true rfl) (Nat.le_of_ble_eq_true rfl) (fun e s b h k => by cases h; exact k) (fun v6 s6 => ?_)
  show VV m_X11_free w g 1 6 (QX m_X11_free w g x) (fun b : XRes => b = x) 9 [some (.ref (wB w + 0)), some (.int p1)] [] s6 _
  refine V_aload_n (pc := 9) dX11_free_9 rfl rfl ?_
  refine V_getr (pc := 10) (t := 55) fk_X11_72 rfl dX11_free_10 kc_0 rf_11_10_0 ?_
  refine V_iload_n (pc := 13) dX11_free_13 rfl rfl ?_
  refine V_callVpi (pc := 14) (As := [.int p1]) (rest := []) (c_X10_unboundOn w n p1 s6) cw_X11_260 rfl rfl dX11_free_14 kc_55 ci_10 ⟨Nat.le_of_ble_eq_true rfl, Nat.le_of_ble_eq_true rfl⟩ rfl rfl (Nat.le_of_ble_eq_true rfl) (Nat.le_of_ble_eq_true rfl) (Nat.le_of_ble_eq_true rfl) rfl (fun q14 => ?_)
  exact VX_ireti (pc := 17) dX11_free_17 rfl (hk := fun h => h)
def f_X11_secrets (n : Nat)  (σ : MS) : Option (Int32) := ((f_X10_hidden n  σ).bind (fun q4 => some q4))
set_option maxRecDepth 20000 in
set_option maxHeartbeats 2000000 in
theorem c_X11_secrets (w : TG) (n : Nat)  (σ : MS) : MC m_X11_secrets w [.ref (wB w + 0)] σ ((f_X11_secrets n  σ).map (fun r => (r, σ))) := by
  refine V_methp (by decide +kernel) (Nat.le_of_ble_eq_true rfl) (by intro v hv; simp only [List.mem_cons, List.not_mem_nil, or_false] at hv; subst hv; rfl) (fun g x => ?_)
  show VV m_X11_secrets w g 0 0 (QM m_X11_secrets w g x) (fun b : Int32 => (b, σ) = x) 0 [some (.ref (wB w + 0))] [] σ (f_X11_secrets n  σ)
  refine V_aload_n (pc := 0) dX11_secrets_0 rfl rfl ?_
  refine V_getr (pc := 1) (t := 55) fk_X11_72 rfl dX11_secrets_1 kc_0 rf_11_10_0 ?_
  refine V_callVpi (pc := 4) (As := []) (rest := []) (c_X10_hidden w n  σ) cw_X11_263 rfl rfl dX11_secrets_4 kc_55 ci_10 ⟨Nat.le_of_ble_eq_true rfl, Nat.le_of_ble_eq_true rfl⟩ rfl rfl (Nat.le_of_ble_eq_true rfl) (Nat.le_of_ble_eq_true rfl) (Nat.le_of_ble_eq_true rfl) rfl (fun q4 => ?_)
  exact V_ireti (pc := 7) dX11_secrets_7 rfl (hk := fun h => h)
def f_X11_would (n : Nat) (p1 : Int32) (p2 : Int32) (σ : MS) : Option (XRes) := (thn (f_X11_needCup p1 p2 σ) (fun v3 s3 => ((f_X4_everybody 3 s3).bind (fun q15 => ((f_X1_pour n (p1 &&& q15) p2 (0 : Int32) s3).bind (fun q21 => some (.inl q21.1, q21.2)))))) (fun e s => some (.inr e, s)))
set_option maxRecDepth 20000 in
set_option maxHeartbeats 2000000 in
theorem c_X11_would (w : TG) (n : Nat) (p1 : Int32) (p2 : Int32) (σ : MS) : MX m_X11_would w [.ref (wB w + 0), .int p1, .int p2] σ (f_X11_would n p1 p2 σ) := by
  refine VX_meth (by decide +kernel) (Nat.le_of_ble_eq_true rfl) (by intro v hv; simp only [List.mem_cons, List.not_mem_nil, or_false] at hv; rcases hv with rfl | rfl | rfl <;> rfl) (fun g x hno => ?_)
  show VV m_X11_would w g 0 0 (QX m_X11_would w g x) (fun b : XRes => b = x) 0 [some (.ref (wB w + 0)), some (.int p1), some (.int p2)] [] σ (f_X11_would n p1 p2 σ)
  refine V_aload_n (pc := 0) dX11_would_0 rfl rfl ?_
  refine V_iload_n (pc := 1) dX11_would_1 rfl rfl ?_
  refine V_iload_n (pc := 2) dX11_would_2 rfl rfl ?_
  refine VX_call (pc := 3) (As := [.int p1, .int p2]) (rest := []) hno (c_X11_needCup w p1 p2 σ) cw_X11_215 rfl dX11_would_3 kc_0 ci_11 ⟨Nat.le_of_ble_eq_true rfl, Nat.le_of_ble_eq_true rfl⟩ rfl rfl (Nat.le_of_ble_eq_true rfl) (Nat.le_of_ble_eq_true rfl) (Nat.le_of_ble_eq_true rfl) (fun e s b h k => by cases h; exact k) (fun v3 s3 => ?_)
  show VV m_X11_would w g 2 12 (QX m_X11_would w g x) (fun b : XRes => b = x) 6 [some (.ref (wB w + 0)), some (.int p1), some (.int p2)] [] s3 _
  refine V_aload_n (pc := 6) dX11_would_6 rfl rfl ?_
  refine V_getr (pc := 7) (t := 53) fk_X11_63 rfl dX11_would_7 kc_0 rf_11_9_0 ?_
  refine V_iload_n (pc := 10) dX11_would_10 rfl rfl ?_
  refine V_aload_n (pc := 11) dX11_would_11 rfl rfl ?_
  refine V_getr (pc := 12) (t := 3) fk_X11_19 rfl dX11_would_12 kc_0 rf_11_1_0 ?_
  refine V_callVpi (pc := 15) (As := []) (rest := [.int p1, .ref (wB w + 53)]) (c_X4_everybody w 3 kc_3 s3) cw_X11_221 rfl rfl dX11_would_15 kc_3 ci_4 ⟨Nat.le_of_ble_eq_true rfl, Nat.le_of_ble_eq_true rfl⟩ rfl rfl (Nat.le_of_ble_eq_true rfl) (Nat.le_of_ble_eq_true rfl) (Nat.le_of_ble_eq_true rfl) rfl (fun q15 => ?_)
  refine V_iand (pc := 18) dX11_would_18 ?_
  refine V_iload_n (pc := 19) dX11_would_19 rfl rfl ?_
  refine V_iconst (pc := 20) dX11_would_20 ic_0 ?_
  refine V_callVi (pc := 21) (As := [.int (p1 &&& q15), .int p2, .int (0 : Int32)]) (rest := []) (c_X1_pour w n (p1 &&& q15) p2 (0 : Int32) s3) cw_X11_225 rfl rfl dX11_would_21 kc_53 ci_1 ⟨Nat.le_of_ble_eq_true rfl, Nat.le_of_ble_eq_true rfl⟩ rfl rfl (Nat.le_of_ble_eq_true rfl) (Nat.le_of_ble_eq_true rfl) (Nat.le_of_ble_eq_true rfl) rfl (fun q21 => ?_)
  exact VX_ireti (pc := 24) dX11_would_24 rfl (hk := fun h => h)
def f_X11_widest (n : Nat) (p1 : Int32) (p2 : Int32) (σ : MS) : Option (XRes) := (thn (f_X11_needNumber p1 (0 : Int32) (3 : Int32) σ) (fun v4 s4 => (thn (f_X11_needNumber p2 (2 : Int32) (8 : Int32) s4) (fun v12 s12 => ((f_X1_binding n p1 p2 s12).bind (fun q21 => some (.inl q21.1, q21.2)))) (fun e s => some (.inr e, s)))) (fun e s => some (.inr e, s)))
set_option maxRecDepth 20000 in
set_option maxHeartbeats 2000000 in
theorem c_X11_widest (w : TG) (n : Nat) (p1 : Int32) (p2 : Int32) (σ : MS) : MX m_X11_widest w [.ref (wB w + 0), .int p1, .int p2] σ (f_X11_widest n p1 p2 σ) := by
  refine VX_meth (by decide +kernel) (Nat.le_of_ble_eq_true rfl) (by intro v hv; simp only [List.mem_cons, List.not_mem_nil, or_false] at hv; rcases hv with rfl | rfl | rfl <;> rfl) (fun g x hno => ?_)
  show VV m_X11_widest w g 0 0 (QX m_X11_widest w g x) (fun b : XRes => b = x) 0 [some (.ref (wB w + 0)), some (.int p1), some (.int p2)] [] σ (f_X11_widest n p1 p2 σ)
  refine V_aload_n (pc := 0) dX11_widest_0 rfl rfl ?_
  refine V_iload_n (pc := 1) dX11_widest_1 rfl rfl ?_
  refine V_iconst (pc := 2) dX11_widest_2 ic_0 ?_
  refine V_iconst (pc := 3) dX11_widest_3 ic_3 ?_
  refine VX_call (pc := 4) (As := [.int p1, .int (0 : Int32), .int (3 : Int32)]) (rest := []) hno (c_X11_needNumber w p1 (0 : Int32) (3 : Int32) σ) cw_X11_192 rfl dX11_widest_4 kc_0 ci_11 ⟨Nat.le_of_ble_eq_true rfl, Nat.le_of_ble_eq_true rfl⟩ rfl rfl (Nat.le_of_ble_eq_true rfl) (Nat.le_of_ble_eq_true rfl) (Nat.le_of_ble_eq_true rfl) (fun e s b h k => by cases h; exact k) (fun v4 s4 => ?_)
  show VV m_X11_widest w g 1 6 (QX m_X11_widest w g x) (fun b : XRes => b = x) 7 [some (.ref (wB w + 0)), some (.int p1), some (.int p2)] [] s4 _
  refine V_aload_n (pc := 7) dX11_widest_7 rfl rfl ?_
  refine V_iload_n (pc := 8) dX11_widest_8 rfl rfl ?_
  refine V_iconst (pc := 9) dX11_widest_9 ic_2 ?_
  refine V_bipush (pc := 10) dX11_widest_10 bp_8 ?_
  refine VX_call (pc := 12) (As := [.int p2, .int (2 : Int32), .int (8 : Int32)]) (rest := []) hno (c_X11_needNumber w p2 (2 : Int32) (8 : Int32) s4) cw_X11_192 rfl dX11_widest_12 kc_0 ci_11 ⟨Nat.le_of_ble_eq_true rfl, Nat.le_of_ble_eq_true rfl⟩ rfl rfl (Nat.le_of_ble_eq_true rfl) (Nat.le_of_ble_eq_true rfl) (Nat.le_of_ble_eq_true rfl) (fun e s b h k => by cases h; exact k) (fun v12 s12 => ?_)
  show VV m_X11_widest w g 2 12 (QX m_X11_widest w g x) (fun b : XRes => b = x) 15 [some (.ref (wB w + 0)), some (.int p1), some (.int p2)] [] s12 _
  refine V_aload_n (pc := 15) dX11_widest_15 rfl rfl ?_
  refine V_getr (pc := 16) (t := 53) fk_X11_63 rfl dX11_widest_16 kc_0 rf_11_9_0 ?_
  refine V_iload_n (pc := 19) dX11_widest_19 rfl rfl ?_
  refine V_iload_n (pc := 20) dX11_widest_20 rfl rfl ?_
  refine V_callVi (pc := 21) (As := [.int p1, .int p2]) (rest := []) (c_X1_binding w n p1 p2 s12) cw_X11_266 rfl rfl dX11_widest_21 kc_53 ci_1 ⟨Nat.le_of_ble_eq_true rfl, Nat.le_of_ble_eq_true rfl⟩ rfl rfl (Nat.le_of_ble_eq_true rfl) (Nat.le_of_ble_eq_true rfl) (Nat.le_of_ble_eq_true rfl) rfl (fun q21 => ?_)
  exact VX_ireti (pc := 24) dX11_widest_24 rfl (hk := fun h => h)
def f_X11_parts (n : Nat) (p1 : Int32) (p2 : Int32) (σ : MS) : Option (XRes) := (thn (f_X11_needTwo p1 p2 σ) (fun v3 s3 => ((f_X10_cut n p1 p2 s3).bind (fun q12 => some (.inl q12, s3)))) (fun e s => some (.inr e, s)))
set_option maxRecDepth 20000 in
set_option maxHeartbeats 2000000 in
theorem c_X11_parts (w : TG) (n : Nat) (p1 : Int32) (p2 : Int32) (σ : MS) : MX m_X11_parts w [.ref (wB w + 0), .int p1, .int p2] σ (f_X11_parts n p1 p2 σ) := by
  refine VX_meth (by decide +kernel) (Nat.le_of_ble_eq_true rfl) (by intro v hv; simp only [List.mem_cons, List.not_mem_nil, or_false] at hv; rcases hv with rfl | rfl | rfl <;> rfl) (fun g x hno => ?_)
  show VV m_X11_parts w g 0 0 (QX m_X11_parts w g x) (fun b : XRes => b = x) 0 [some (.ref (wB w + 0)), some (.int p1), some (.int p2)] [] σ (f_X11_parts n p1 p2 σ)
  refine V_aload_n (pc := 0) dX11_parts_0 rfl rfl ?_
  refine V_iload_n (pc := 1) dX11_parts_1 rfl rfl ?_
  refine V_iload_n (pc := 2) dX11_parts_2 rfl rfl ?_
  refine VX_call (pc := 3) (As := [.int p1, .int p2]) (rest := []) hno (c_X11_needTwo w p1 p2 σ) cw_X11_178 rfl dX11_parts_3 kc_0 ci_11 ⟨Nat.le_of_ble_eq_true rfl, Nat.le_of_ble_eq_true rfl⟩ rfl rfl (Nat.le_of_ble_eq_true rfl) (Nat.le_of_ble_eq_true rfl) (Nat.le_of_ble_eq_true rfl) (fun e s b h k => by cases h; exact k) (fun v3 s3 => ?_)
  show VV m_X11_parts w g 3 18 (QX m_X11_parts w g x) (fun b : XRes => b = x) 6 [some (.ref (wB w + 0)), some (.int p1), some (.int p2)] [] s3 _
  refine V_aload_n (pc := 6) dX11_parts_6 rfl rfl ?_
  refine V_getr (pc := 7) (t := 55) fk_X11_72 rfl dX11_parts_7 kc_0 rf_11_10_0 ?_
  refine V_iload_n (pc := 10) dX11_parts_10 rfl rfl ?_
  refine V_iload_n (pc := 11) dX11_parts_11 rfl rfl ?_
  refine V_callVpi (pc := 12) (As := [.int p1, .int p2]) (rest := []) (c_X10_cut w n p1 p2 s3) cw_X11_269 rfl rfl dX11_parts_12 kc_55 ci_10 ⟨Nat.le_of_ble_eq_true rfl, Nat.le_of_ble_eq_true rfl⟩ rfl rfl (Nat.le_of_ble_eq_true rfl) (Nat.le_of_ble_eq_true rfl) (Nat.le_of_ble_eq_true rfl) rfl (fun q12 => ?_)
  exact VX_ireti (pc := 15) dX11_parts_15 rfl (hk := fun h => h)
def J_X11_lovers_21 (n : Nat) (t0 : Int32) (σ : MS) : Option (Int32) := some t0
def f_X11_lovers (n : Nat) (p1 : Int32) (σ : MS) : Option (Int32) := (if p1 = 0 then ((f_X8_manyLovers n  σ).bind (fun q18 => J_X11_lovers_21 n q18 σ)) else ((f_X8_firstLovers n  σ).bind (fun q8 => J_X11_lovers_21 n q8 σ)))
set_option maxRecDepth 20000 in
set_option maxHeartbeats 2000000 in
theorem c_X11_lovers (w : TG) (n : Nat) (p1 : Int32) (σ : MS) : MC m_X11_lovers w [.ref (wB w + 0), .int p1] σ ((f_X11_lovers n p1 σ).map (fun r => (r, σ))) := by
  refine V_methp (by decide +kernel) (Nat.le_of_ble_eq_true rfl) (by intro v hv; simp only [List.mem_cons, List.not_mem_nil, or_false] at hv; rcases hv with rfl | rfl <;> rfl) (fun g x => ?_)
  show VV m_X11_lovers w g 0 0 (QM m_X11_lovers w g x) (fun b : Int32 => (b, σ) = x) 0 [some (.ref (wB w + 0)), some (.int p1)] [] σ (f_X11_lovers n p1 σ)
  have hJ21 : ∀ (t0 : Int32), VV m_X11_lovers w g 0 0 (QM m_X11_lovers w g x) (fun b : Int32 => (b, σ) = x) 21 [none, none] [.int t0] σ (J_X11_lovers_21 n t0 σ) := by
    intro t0
    exact V_ireti (pc := 21) dX11_lovers_21 rfl (hk := fun h => h)
  refine V_iload_n (pc := 0) dX11_lovers_0 rfl rfl ?_
  refine V_if_eq (pc := 1) (tgt := 14) dX11_lovers_1 (by decide +kernel) ?_ ?_
  · refine V_aload_n (pc := 14) dX11_lovers_14 rfl rfl ?_
    refine V_getr (pc := 15) (t := 56) fk_X11_79 rfl dX11_lovers_15 kc_0 rf_11_11_0 ?_
    refine V_callVpi (pc := 18) (As := []) (rest := []) (c_X8_manyLovers w n  σ) cw_X11_275 rfl rfl dX11_lovers_18 kc_56 ci_8 ⟨Nat.le_of_ble_eq_true rfl, Nat.le_of_ble_eq_true rfl⟩ rfl rfl (Nat.le_of_ble_eq_true rfl) (Nat.le_of_ble_eq_true rfl) (Nat.le_of_ble_eq_true rfl) rfl (fun q18 => ?_)
    refine V_sub (vs' := [none, none]) (show vless _ _ from trivial) rfl ?_
    exact hJ21 q18
  · refine V_aload_n (pc := 4) dX11_lovers_4 rfl rfl ?_
    refine V_getr (pc := 5) (t := 56) fk_X11_79 rfl dX11_lovers_5 kc_0 rf_11_11_0 ?_
    refine V_callVpi (pc := 8) (As := []) (rest := []) (c_X8_firstLovers w n  σ) cw_X11_272 rfl rfl dX11_lovers_8 kc_56 ci_8 ⟨Nat.le_of_ble_eq_true rfl, Nat.le_of_ble_eq_true rfl⟩ rfl rfl (Nat.le_of_ble_eq_true rfl) (Nat.le_of_ble_eq_true rfl) (Nat.le_of_ble_eq_true rfl) rfl (fun q8 => ?_)
    refine V_goto (pc := 11) (tgt := 21) dX11_lovers_11 (by decide +kernel) ?_
    refine V_sub (vs' := [none, none]) (show vless _ _ from trivial) rfl ?_
    exact hJ21 q8
def J_X11_steady_53 (n : Nat) (t0 : Int32) (σ : MS) : Option (XRes) := some (.inl t0, σ)
def J_X11_steady_10 (n : Nat) (v1 : Int32) (σ : MS) : Option (XRes) := ((f_X8_settle n  σ).bind (fun q14 => (if v1 = (-1 : Int32) then some (.inl (q14.2 56 3), q14.2) else (if (q14.2 56 3) = 0 then J_X11_steady_53 n (-1 : Int32) q14.2 else (if inb v1 8 then J_X11_steady_53 n (q14.2 58 (ix v1)) q14.2 else none)))))
def f_X11_steady (n : Nat) (p1 : Int32) (σ : MS) : Option (XRes) := (if p1 = (-1 : Int32) then J_X11_steady_10 n p1 σ else (thn (f_X11_needPerson p1 σ) (fun v7 s7 => J_X11_steady_10 n p1 s7) (fun e s => some (.inr e, s))))
set_option maxRecDepth 20000 in
set_option maxHeartbeats 2000000 in
theorem c_X11_steady (w : TG) (n : Nat) (p1 : Int32) (σ : MS) : MX m_X11_steady w [.ref (wB w + 0), .int p1] σ (f_X11_steady n p1 σ) := by
  refine VX_meth (by decide +kernel) (Nat.le_of_ble_eq_true rfl) (by intro v hv; simp only [List.mem_cons, List.not_mem_nil, or_false] at hv; rcases hv with rfl | rfl <;> rfl) (fun g x hno => ?_)
  show VV m_X11_steady w g 0 0 (QX m_X11_steady w g x) (fun b : XRes => b = x) 0 [some (.ref (wB w + 0)), some (.int p1)] [] σ (f_X11_steady n p1 σ)
  have hJ53 : ∀ (t0 : Int32) (σ : MS), VV m_X11_steady w g 1 6 (QX m_X11_steady w g x) (fun b : XRes => b = x) 53 [none, none] [.int t0] σ (J_X11_steady_53 n t0 σ) := by
    intro t0 σ
    exact VX_ireti (pc := 53) dX11_steady_53 rfl (hk := fun h => h)
  have hJ10 : ∀ (σ : MS), VV m_X11_steady w g 1 6 (QX m_X11_steady w g x) (fun b : XRes => b = x) 10 [some (.ref (wB w + 0)), some (.int p1)] [] σ (J_X11_steady_10 n p1 σ) := by
    intro σ
    refine V_aload_n (pc := 10) dX11_steady_10 rfl rfl ?_
    refine V_getr (pc := 11) (t := 56) fk_X11_79 rfl dX11_steady_11 kc_0 rf_11_11_0 ?_
    refine V_callVv (pc := 14) (As := []) (rest := []) (c_X8_settle w n  σ) cw_X11_278 rfl rfl dX11_steady_14 kc_56 ci_8 ⟨Nat.le_of_ble_eq_true rfl, Nat.le_of_ble_eq_true rfl⟩ rfl rfl (Nat.le_of_ble_eq_true rfl) (Nat.le_of_ble_eq_true rfl) (Nat.le_of_ble_eq_true rfl) rfl (fun q14 => ?_)
    refine V_iload_n (pc := 17) dX11_steady_17 rfl rfl ?_
    refine V_iconst (pc := 18) dX11_steady_18 ic_m1 ?_
    refine V_icmp_ne (pc := 19) (tgt := 30) dX11_steady_19 (by decide +kernel) ?_ ?_
    · refine V_aload_n (pc := 30) dX11_steady_30 rfl rfl ?_
      refine V_getr (pc := 31) (t := 56) fk_X11_79 rfl dX11_steady_31 kc_0 rf_11_11_0 ?_
      refine V_geti (pc := 34) fk_X11_281 rfl dX11_steady_34 kc_56 rf_8_3_56 ?_
      refine V_if_ne (pc := 37) (tgt := 44) dX11_steady_37 (by decide +kernel) ?_ ?_
      · refine V_aload_n (pc := 44) dX11_steady_44 rfl rfl ?_
        refine V_getr (pc := 45) (t := 56) fk_X11_79 rfl dX11_steady_45 kc_0 rf_11_11_0 ?_
        refine V_getr (pc := 48) (t := 58) fk_X11_284 rfl dX11_steady_48 kc_56 rf_8_2_56 ?_
        refine V_iload_n (pc := 51) dX11_steady_51 rfl rfl ?_
        refine V_iald (pc := 52) (n := 8) dX11_steady_52 kc_58 lc_58 ?_
        refine V_widen (kc' := 1) (ks' := 6) (Nat.le_of_ble_eq_true rfl) (Nat.le_of_ble_eq_true rfl) ?_
        refine V_sub (vs' := [none, none]) (show vless _ _ from trivial) rfl ?_
        exact hJ53 (q14.2 58 (ix p1)) q14.2
      · refine V_iconst (pc := 40) dX11_steady_40 ic_m1 ?_
        refine V_goto (pc := 41) (tgt := 53) dX11_steady_41 (by decide +kernel) ?_
        refine V_widen (kc' := 1) (ks' := 6) (Nat.le_of_ble_eq_true rfl) (Nat.le_of_ble_eq_true rfl) ?_
        refine V_sub (vs' := [none, none]) (show vless _ _ from trivial) rfl ?_
        exact hJ53 (-1 : Int32) q14.2
    · refine V_aload_n (pc := 22) dX11_steady_22 rfl rfl ?_
      refine V_getr (pc := 23) (t := 56) fk_X11_79 rfl dX11_steady_23 kc_0 rf_11_11_0 ?_
      refine V_geti (pc := 26) fk_X11_281 rfl dX11_steady_26 kc_56 rf_8_3_56 ?_
      exact VX_ireti (pc := 29) dX11_steady_29 rfl (hk := fun h => h)
  refine V_iload_n (pc := 0) dX11_steady_0 rfl rfl ?_
  refine V_iconst (pc := 1) dX11_steady_1 ic_m1 ?_
  refine V_icmp_eq (pc := 2) (tgt := 10) dX11_steady_2 (by decide +kernel) ?_ ?_
  · refine V_widen (kc' := 1) (ks' := 6) (Nat.le_of_ble_eq_true rfl) (Nat.le_of_ble_eq_true rfl) ?_
    exact hJ10 σ
  · refine V_aload_n (pc := 5) dX11_steady_5 rfl rfl ?_
    refine V_iload_n (pc := 6) dX11_steady_6 rfl rfl ?_
    refine VX_call (pc := 7) (As := [.int p1]) (rest := []) hno (c_X11_needPerson w p1 σ) cw_X11_146 rfl dX11_steady_7 kc_0 ci_11 ⟨Nat.le_of_ble_eq_true rfl, Nat.le_of_ble_eq_true rfl⟩ rfl rfl (Nat.le_of_ble_eq_true rfl) (Nat.le_of_ble_eq_true rfl) (Nat.le_of_ble_eq_true rfl) (fun e s b h k => by cases h; exact k) (fun v7 s7 => ?_)
    show VV m_X11_steady w g 1 6 (QX m_X11_steady w g x) (fun b : XRes => b = x) 10 [some (.ref (wB w + 0)), some (.int p1)] [] s7 _
    refine V_widen (kc' := 1) (ks' := 6) (Nat.le_of_ble_eq_true rfl) (Nat.le_of_ble_eq_true rfl) ?_
    exact hJ10 s7
def f_X11_fondest (n : Nat)  (σ : MS) : Option (Int32) := ((f_X8_greatest n  σ).bind (fun q4 => some q4))
set_option maxRecDepth 20000 in
set_option maxHeartbeats 2000000 in
theorem c_X11_fondest (w : TG) (n : Nat)  (σ : MS) : MC m_X11_fondest w [.ref (wB w + 0)] σ ((f_X11_fondest n  σ).map (fun r => (r, σ))) := by
  refine V_methp (by decide +kernel) (Nat.le_of_ble_eq_true rfl) (by intro v hv; simp only [List.mem_cons, List.not_mem_nil, or_false] at hv; subst hv; rfl) (fun g x => ?_)
  show VV m_X11_fondest w g 0 0 (QM m_X11_fondest w g x) (fun b : Int32 => (b, σ) = x) 0 [some (.ref (wB w + 0))] [] σ (f_X11_fondest n  σ)
  refine V_aload_n (pc := 0) dX11_fondest_0 rfl rfl ?_
  refine V_getr (pc := 1) (t := 56) fk_X11_79 rfl dX11_fondest_1 kc_0 rf_11_11_0 ?_
  refine V_callVpi (pc := 4) (As := []) (rest := []) (c_X8_greatest w n  σ) cw_X11_287 rfl rfl dX11_fondest_4 kc_56 ci_8 ⟨Nat.le_of_ble_eq_true rfl, Nat.le_of_ble_eq_true rfl⟩ rfl rfl (Nat.le_of_ble_eq_true rfl) (Nat.le_of_ble_eq_true rfl) (Nat.le_of_ble_eq_true rfl) rfl (fun q4 => ?_)
  exact V_ireti (pc := 7) dX11_fondest_7 rfl (hk := fun h => h)
def f_X11_tell (n : Nat)  (σ : MS) : Option (Int32) := ((f_X10_cover n  σ).bind (fun q4 => some q4))
set_option maxRecDepth 20000 in
set_option maxHeartbeats 2000000 in
theorem c_X11_tell (w : TG) (n : Nat)  (σ : MS) : MC m_X11_tell w [.ref (wB w + 0)] σ ((f_X11_tell n  σ).map (fun r => (r, σ))) := by
  refine V_methp (by decide +kernel) (Nat.le_of_ble_eq_true rfl) (by intro v hv; simp only [List.mem_cons, List.not_mem_nil, or_false] at hv; subst hv; rfl) (fun g x => ?_)
  show VV m_X11_tell w g 0 0 (QM m_X11_tell w g x) (fun b : Int32 => (b, σ) = x) 0 [some (.ref (wB w + 0))] [] σ (f_X11_tell n  σ)
  refine V_aload_n (pc := 0) dX11_tell_0 rfl rfl ?_
  refine V_getr (pc := 1) (t := 55) fk_X11_72 rfl dX11_tell_1 kc_0 rf_11_10_0 ?_
  refine V_callVpi (pc := 4) (As := []) (rest := []) (c_X10_cover w n  σ) cw_X11_290 rfl rfl dX11_tell_4 kc_55 ci_10 ⟨Nat.le_of_ble_eq_true rfl, Nat.le_of_ble_eq_true rfl⟩ rfl rfl (Nat.le_of_ble_eq_true rfl) (Nat.le_of_ble_eq_true rfl) (Nat.le_of_ble_eq_true rfl) rfl (fun q4 => ?_)
  exact V_ireti (pc := 7) dX11_tell_7 rfl (hk := fun h => h)
def f_X11_between (n : Nat) (p1 : Int32) (p2 : Int32) (σ : MS) : Option (XRes) := (thn (f_X11_needPerson p1 σ) (fun v2 s2 => (thn (f_X11_needPerson p2 s2) (fun v7 s7 => ((f_X10_steps n p1 p2 s7).bind (fun q16 => some (.inl q16, s7)))) (fun e s => some (.inr e, s)))) (fun e s => some (.inr e, s)))
set_option maxRecDepth 20000 in
set_option maxHeartbeats 2000000 in
theorem c_X11_between (w : TG) (n : Nat) (p1 : Int32) (p2 : Int32) (σ : MS) : MX m_X11_between w [.ref (wB w + 0), .int p1, .int p2] σ (f_X11_between n p1 p2 σ) := by
  refine VX_meth (by decide +kernel) (Nat.le_of_ble_eq_true rfl) (by intro v hv; simp only [List.mem_cons, List.not_mem_nil, or_false] at hv; rcases hv with rfl | rfl | rfl <;> rfl) (fun g x hno => ?_)
  show VV m_X11_between w g 0 0 (QX m_X11_between w g x) (fun b : XRes => b = x) 0 [some (.ref (wB w + 0)), some (.int p1), some (.int p2)] [] σ (f_X11_between n p1 p2 σ)
  refine V_aload_n (pc := 0) dX11_between_0 rfl rfl ?_
  refine V_iload_n (pc := 1) dX11_between_1 rfl rfl ?_
  refine VX_call (pc := 2) (As := [.int p1]) (rest := []) hno (c_X11_needPerson w p1 σ) cw_X11_146 rfl dX11_between_2 kc_0 ci_11 ⟨Nat.le_of_ble_eq_true rfl, Nat.le_of_ble_eq_true rfl⟩ rfl rfl (Nat.le_of_ble_eq_true rfl) (Nat.le_of_ble_eq_true rfl) (Nat.le_of_ble_eq_true rfl) (fun e s b h k => by cases h; exact k) (fun v2 s2 => ?_)
  show VV m_X11_between w g 1 6 (QX m_X11_between w g x) (fun b : XRes => b = x) 5 [some (.ref (wB w + 0)), some (.int p1), some (.int p2)] [] s2 _
  refine V_aload_n (pc := 5) dX11_between_5 rfl rfl ?_
  refine V_iload_n (pc := 6) dX11_between_6 rfl rfl ?_
  refine VX_call (pc := 7) (As := [.int p2]) (rest := []) hno (c_X11_needPerson w p2 s2) cw_X11_146 rfl dX11_between_7 kc_0 ci_11 ⟨Nat.le_of_ble_eq_true rfl, Nat.le_of_ble_eq_true rfl⟩ rfl rfl (Nat.le_of_ble_eq_true rfl) (Nat.le_of_ble_eq_true rfl) (Nat.le_of_ble_eq_true rfl) (fun e s b h k => by cases h; exact k) (fun v7 s7 => ?_)
  show VV m_X11_between w g 2 12 (QX m_X11_between w g x) (fun b : XRes => b = x) 10 [some (.ref (wB w + 0)), some (.int p1), some (.int p2)] [] s7 _
  refine V_aload_n (pc := 10) dX11_between_10 rfl rfl ?_
  refine V_getr (pc := 11) (t := 55) fk_X11_72 rfl dX11_between_11 kc_0 rf_11_10_0 ?_
  refine V_iload_n (pc := 14) dX11_between_14 rfl rfl ?_
  refine V_iload_n (pc := 15) dX11_between_15 rfl rfl ?_
  refine V_callVpi (pc := 16) (As := [.int p1, .int p2]) (rest := []) (c_X10_steps w n p1 p2 s7) cw_X11_293 rfl rfl dX11_between_16 kc_55 ci_10 ⟨Nat.le_of_ble_eq_true rfl, Nat.le_of_ble_eq_true rfl⟩ rfl rfl (Nat.le_of_ble_eq_true rfl) (Nat.le_of_ble_eq_true rfl) (Nat.le_of_ble_eq_true rfl) rfl (fun q16 => ?_)
  exact VX_ireti (pc := 19) dX11_between_19 rfl (hk := fun h => h)
def f_X11_hub (n : Nat)  (σ : MS) : Option (Int32) := ((f_X10_centre n  σ).bind (fun q4 => some q4))
set_option maxRecDepth 20000 in
set_option maxHeartbeats 2000000 in
theorem c_X11_hub (w : TG) (n : Nat)  (σ : MS) : MC m_X11_hub w [.ref (wB w + 0)] σ ((f_X11_hub n  σ).map (fun r => (r, σ))) := by
  refine V_methp (by decide +kernel) (Nat.le_of_ble_eq_true rfl) (by intro v hv; simp only [List.mem_cons, List.not_mem_nil, or_false] at hv; subst hv; rfl) (fun g x => ?_)
  show VV m_X11_hub w g 0 0 (QM m_X11_hub w g x) (fun b : Int32 => (b, σ) = x) 0 [some (.ref (wB w + 0))] [] σ (f_X11_hub n  σ)
  refine V_aload_n (pc := 0) dX11_hub_0 rfl rfl ?_
  refine V_getr (pc := 1) (t := 55) fk_X11_72 rfl dX11_hub_1 kc_0 rf_11_10_0 ?_
  refine V_callVpi (pc := 4) (As := []) (rest := []) (c_X10_centre w n  σ) cw_X11_296 rfl rfl dX11_hub_4 kc_55 ci_10 ⟨Nat.le_of_ble_eq_true rfl, Nat.le_of_ble_eq_true rfl⟩ rfl rfl (Nat.le_of_ble_eq_true rfl) (Nat.le_of_ble_eq_true rfl) (Nat.le_of_ble_eq_true rfl) rfl (fun q4 => ?_)
  exact V_ireti (pc := 7) dX11_hub_7 rfl (hk := fun h => h)
def f_X11_weighDrinkers (n : Nat)  (σ : MS) : Option (XRes) := ((f_X2_weigh n  σ).bind (fun q4 => (ltM (mu q4.2 1 1 (0 : Int32)) (fun s13 => (if q4.1 = 0 then some (.inr 1, s13) else some (.inl 0, s13))))))
set_option maxRecDepth 20000 in
set_option maxHeartbeats 2000000 in
theorem c_X11_weighDrinkers (w : TG) (n : Nat)  (σ : MS) : MX m_X11_weighDrinkers w [.ref (wB w + 0)] σ (f_X11_weighDrinkers n  σ) := by
  refine VX_meth (by decide +kernel) (Nat.le_of_ble_eq_true rfl) (by intro v hv; simp only [List.mem_cons, List.not_mem_nil, or_false] at hv; subst hv; rfl) (fun g x hno => ?_)
  show VV m_X11_weighDrinkers w g 0 0 (QX m_X11_weighDrinkers w g x) (fun b : XRes => b = x) 0 [some (.ref (wB w + 0)), none] [] σ (f_X11_weighDrinkers n  σ)
  refine V_aload_n (pc := 0) dX11_weighDrinkers_0 rfl rfl ?_
  refine V_getr (pc := 1) (t := 60) fk_X11_95 rfl dX11_weighDrinkers_1 kc_0 rf_11_13_0 ?_
  refine V_callVi (pc := 4) (As := []) (rest := []) (c_X2_weigh w n  σ) cw_X11_386 rfl rfl dX11_weighDrinkers_4 kc_60 ci_2 ⟨Nat.le_of_ble_eq_true rfl, Nat.le_of_ble_eq_true rfl⟩ rfl rfl (Nat.le_of_ble_eq_true rfl) (Nat.le_of_ble_eq_true rfl) (Nat.le_of_ble_eq_true rfl) rfl (fun q4 => ?_)
  refine V_istore_n (pc := 7) (vs' := [some (.ref (wB w + 0)), some (.int q4.1)]) dX11_weighDrinkers_7 rfl (Nat.le_of_ble_eq_true rfl) (Nat.le_of_ble_eq_true rfl) rfl ?_
  refine V_aload_n (pc := 8) dX11_weighDrinkers_8 rfl rfl ?_
  refine V_getr (pc := 9) (t := 1) fk_X11_10 rfl dX11_weighDrinkers_9 kc_0 rf_11_0_0 ?_
  refine V_iconst (pc := 12) dX11_weighDrinkers_12 ic_0 ?_
  refine V_puti (pc := 13) fp_X11_107 rfl dX11_weighDrinkers_13 kc_1 rf_9_1_1 (fun s13 => ?_)
  refine V_iload_n (pc := 16) dX11_weighDrinkers_16 rfl rfl ?_
  refine V_if_ne (pc := 17) (tgt := 28) dX11_weighDrinkers_17 (by decide +kernel) ?_ ?_
  · exact VX_ret (pc := 28) dX11_weighDrinkers_28 rfl (hk := fun h => h)
  · exact VX_throw (pc := 20) (e := 1) (names := ["java/lang/RuntimeException", "java/lang/Exception"]) hno rfl (by decide +kernel) (by decide +kernel) (by decide) tw_X11_125_127.1 tw_X11_125_127.2 dX11_weighDrinkers_20 dX11_weighDrinkers_23 dX11_weighDrinkers_24 dX11_weighDrinkers_27 (Nat.le_of_ble_eq_true rfl) (Nat.le_of_ble_eq_true rfl) (Nat.le_of_ble_eq_true rfl) (Nat.le_of_ble_eq_true rfl) (fun h => h)
def J_X11_drank_25 (n : Nat) (t0 : Int32) (σ : MS) : Option (XRes) := some (.inl t0, σ)
def f_X11_drank (n : Nat) (p1 : Int32) (σ : MS) : Option (XRes) := (thn (f_X11_weighDrinkers n  σ) (fun v1 s1 => (if p1 = 0 then J_X11_drank_25 n (s1 60 3) s1 else J_X11_drank_25 n (s1 60 4) s1)) (fun e s => some (.inr e, s)))
set_option maxRecDepth 20000 in
set_option maxHeartbeats 2000000 in
theorem c_X11_drank (w : TG) (n : Nat) (p1 : Int32) (σ : MS) : MX m_X11_drank w [.ref (wB w + 0), .int p1] σ (f_X11_drank n p1 σ) := by
  refine VX_meth (by decide +kernel) (Nat.le_of_ble_eq_true rfl) (by intro v hv; simp only [List.mem_cons, List.not_mem_nil, or_false] at hv; rcases hv with rfl | rfl <;> rfl) (fun g x hno => ?_)
  show VV m_X11_drank w g 0 0 (QX m_X11_drank w g x) (fun b : XRes => b = x) 0 [some (.ref (wB w + 0)), some (.int p1)] [] σ (f_X11_drank n p1 σ)
  have hJ25 : ∀ (t0 : Int32) (σ : MS), VV m_X11_drank w g 1 6 (QX m_X11_drank w g x) (fun b : XRes => b = x) 25 [none, none] [.int t0] σ (J_X11_drank_25 n t0 σ) := by
    intro t0 σ
    exact VX_ireti (pc := 25) dX11_drank_25 rfl (hk := fun h => h)
  refine V_aload_n (pc := 0) dX11_drank_0 rfl rfl ?_
  refine VX_call (pc := 1) (As := []) (rest := []) hno (c_X11_weighDrinkers w n  σ) cw_X11_299 rfl dX11_drank_1 kc_0 ci_11 ⟨Nat.le_of_ble_eq_true rfl, Nat.le_of_ble_eq_true rfl⟩ rfl rfl (Nat.le_of_ble_eq_true rfl) (Nat.le_of_ble_eq_true rfl) (Nat.le_of_ble_eq_true rfl) (fun e s b h k => by cases h; exact k) (fun v1 s1 => ?_)
  show VV m_X11_drank w g 1 6 (QX m_X11_drank w g x) (fun b : XRes => b = x) 4 [some (.ref (wB w + 0)), some (.int p1)] [] s1 _
  refine V_iload_n (pc := 4) dX11_drank_4 rfl rfl ?_
  refine V_if_eq (pc := 5) (tgt := 18) dX11_drank_5 (by decide +kernel) ?_ ?_
  · refine V_aload_n (pc := 18) dX11_drank_18 rfl rfl ?_
    refine V_getr (pc := 19) (t := 60) fk_X11_95 rfl dX11_drank_19 kc_0 rf_11_13_0 ?_
    refine V_geti (pc := 22) fk_X11_305 rfl dX11_drank_22 kc_60 rf_2_3_60 ?_
    refine V_widen (kc' := 1) (ks' := 6) (Nat.le_of_ble_eq_true rfl) (Nat.le_of_ble_eq_true rfl) ?_
    refine V_sub (vs' := [none, none]) (show vless _ _ from trivial) rfl ?_
    exact hJ25 (s1 60 3) s1
  · refine V_aload_n (pc := 8) dX11_drank_8 rfl rfl ?_
    refine V_getr (pc := 9) (t := 60) fk_X11_95 rfl dX11_drank_9 kc_0 rf_11_13_0 ?_
    refine V_geti (pc := 12) fk_X11_302 rfl dX11_drank_12 kc_60 rf_2_4_60 ?_
    refine V_goto (pc := 15) (tgt := 25) dX11_drank_15 (by decide +kernel) ?_
    refine V_widen (kc' := 1) (ks' := 6) (Nat.le_of_ble_eq_true rfl) (Nat.le_of_ble_eq_true rfl) ?_
    refine V_sub (vs' := [none, none]) (show vless _ _ from trivial) rfl ?_
    exact hJ25 (s1 60 4) s1
def f_X11_look (n : Nat)  (σ : MS) : Option (XRes) := (thn (f_X11_weighDrinkers n  σ) (fun v1 s1 => ((f_X2_parting n  s1).bind (fun q8 => some (.inl q8, s1)))) (fun e s => some (.inr e, s)))
set_option maxRecDepth 20000 in
set_option maxHeartbeats 2000000 in
theorem c_X11_look (w : TG) (n : Nat)  (σ : MS) : MX m_X11_look w [.ref (wB w + 0)] σ (f_X11_look n  σ) := by
  refine VX_meth (by decide +kernel) (Nat.le_of_ble_eq_true rfl) (by intro v hv; simp only [List.mem_cons, List.not_mem_nil, or_false] at hv; subst hv; rfl) (fun g x hno => ?_)
  show VV m_X11_look w g 0 0 (QX m_X11_look w g x) (fun b : XRes => b = x) 0 [some (.ref (wB w + 0))] [] σ (f_X11_look n  σ)
  refine V_aload_n (pc := 0) dX11_look_0 rfl rfl ?_
  refine VX_call (pc := 1) (As := []) (rest := []) hno (c_X11_weighDrinkers w n  σ) cw_X11_299 rfl dX11_look_1 kc_0 ci_11 ⟨Nat.le_of_ble_eq_true rfl, Nat.le_of_ble_eq_true rfl⟩ rfl rfl (Nat.le_of_ble_eq_true rfl) (Nat.le_of_ble_eq_true rfl) (Nat.le_of_ble_eq_true rfl) (fun e s b h k => by cases h; exact k) (fun v1 s1 => ?_)
  show VV m_X11_look w g 1 6 (QX m_X11_look w g x) (fun b : XRes => b = x) 4 [some (.ref (wB w + 0))] [] s1 _
  refine V_aload_n (pc := 4) dX11_look_4 rfl rfl ?_
  refine V_getr (pc := 5) (t := 60) fk_X11_95 rfl dX11_look_5 kc_0 rf_11_13_0 ?_
  refine V_callVpi (pc := 8) (As := []) (rest := []) (c_X2_parting w n  s1) cw_X11_308 rfl rfl dX11_look_8 kc_60 ci_2 ⟨Nat.le_of_ble_eq_true rfl, Nat.le_of_ble_eq_true rfl⟩ rfl rfl (Nat.le_of_ble_eq_true rfl) (Nat.le_of_ble_eq_true rfl) (Nat.le_of_ble_eq_true rfl) rfl (fun q8 => ?_)
  exact VX_ireti (pc := 11) dX11_look_11 rfl (hk := fun h => h)
def f_X11_way (n : Nat) (p1 : Int32) (p2 : Int32) (σ : MS) : Option (XRes) := (thn (f_X11_needPerson p1 σ) (fun v2 s2 => (thn (f_X11_needRoom p2 s2) (fun v7 s7 => (if inb p1 8 then ((f_X3_steps n (s7 4 (ix p1)) p2 s7).bind (fun q24 => some (.inl q24, s7))) else none)) (fun e s => some (.inr e, s)))) (fun e s => some (.inr e, s)))
set_option maxRecDepth 20000 in
set_option maxHeartbeats 2000000 in
theorem c_X11_way (w : TG) (n : Nat) (p1 : Int32) (p2 : Int32) (σ : MS) : MX m_X11_way w [.ref (wB w + 0), .int p1, .int p2] σ (f_X11_way n p1 p2 σ) := by
  refine VX_meth (by decide +kernel) (Nat.le_of_ble_eq_true rfl) (by intro v hv; simp only [List.mem_cons, List.not_mem_nil, or_false] at hv; rcases hv with rfl | rfl | rfl <;> rfl) (fun g x hno => ?_)
  show VV m_X11_way w g 0 0 (QX m_X11_way w g x) (fun b : XRes => b = x) 0 [some (.ref (wB w + 0)), some (.int p1), some (.int p2)] [] σ (f_X11_way n p1 p2 σ)
  refine V_aload_n (pc := 0) dX11_way_0 rfl rfl ?_
  refine V_iload_n (pc := 1) dX11_way_1 rfl rfl ?_
  refine VX_call (pc := 2) (As := [.int p1]) (rest := []) hno (c_X11_needPerson w p1 σ) cw_X11_146 rfl dX11_way_2 kc_0 ci_11 ⟨Nat.le_of_ble_eq_true rfl, Nat.le_of_ble_eq_true rfl⟩ rfl rfl (Nat.le_of_ble_eq_true rfl) (Nat.le_of_ble_eq_true rfl) (Nat.le_of_ble_eq_true rfl) (fun e s b h k => by cases h; exact k) (fun v2 s2 => ?_)
  show VV m_X11_way w g 1 6 (QX m_X11_way w g x) (fun b : XRes => b = x) 5 [some (.ref (wB w + 0)), some (.int p1), some (.int p2)] [] s2 _
  refine V_aload_n (pc := 5) dX11_way_5 rfl rfl ?_
  refine V_iload_n (pc := 6) dX11_way_6 rfl rfl ?_
  refine VX_call (pc := 7) (As := [.int p2]) (rest := []) hno (c_X11_needRoom w p2 s2) cw_X11_233 rfl dX11_way_7 kc_0 ci_11 ⟨Nat.le_of_ble_eq_true rfl, Nat.le_of_ble_eq_true rfl⟩ rfl rfl (Nat.le_of_ble_eq_true rfl) (Nat.le_of_ble_eq_true rfl) (Nat.le_of_ble_eq_true rfl) (fun e s b h k => by cases h; exact k) (fun v7 s7 => ?_)
  show VV m_X11_way w g 2 12 (QX m_X11_way w g x) (fun b : XRes => b = x) 10 [some (.ref (wB w + 0)), some (.int p1), some (.int p2)] [] s7 _
  refine V_aload_n (pc := 10) dX11_way_10 rfl rfl ?_
  refine V_getr (pc := 11) (t := 59) fk_X11_86 rfl dX11_way_11 kc_0 rf_11_12_0 ?_
  refine V_aload_n (pc := 14) dX11_way_14 rfl rfl ?_
  refine V_getr (pc := 15) (t := 3) fk_X11_19 rfl dX11_way_15 kc_0 rf_11_1_0 ?_
  refine V_getr (pc := 18) (t := 4) fk_X11_149 rfl dX11_way_18 kc_3 rf_4_8_3 ?_
  refine V_iload_n (pc := 21) dX11_way_21 rfl rfl ?_
  refine V_iald (pc := 22) (n := 8) dX11_way_22 kc_4 lc_4 ?_
  refine V_iload_n (pc := 23) dX11_way_23 rfl rfl ?_
  refine V_callVpi (pc := 24) (As := [.int (s7 4 (ix p1)), .int p2]) (rest := []) (c_X3_steps w n (s7 4 (ix p1)) p2 s7) cw_X11_311 rfl rfl dX11_way_24 kc_59 ci_3 ⟨Nat.le_of_ble_eq_true rfl, Nat.le_of_ble_eq_true rfl⟩ rfl rfl (Nat.le_of_ble_eq_true rfl) (Nat.le_of_ble_eq_true rfl) (Nat.le_of_ble_eq_true rfl) rfl (fun q24 => ?_)
  exact VX_ireti (pc := 27) dX11_way_27 rfl (hk := fun h => h)
def f_X11_unseen (n : Nat) (p1 : Int32) (p2 : Int32) (σ : MS) : Option (XRes) := (thn (f_X11_needTwo p1 p2 σ) (fun v3 s3 => (if inb p1 8 then (if inb p2 8 then ((f_X3_meeting n (s3 4 (ix p1)) (s3 4 (ix p2)) s3).bind (fun q28 => some (.inl q28, s3))) else none) else none)) (fun e s => some (.inr e, s)))
set_option maxRecDepth 20000 in
set_option maxHeartbeats 2000000 in
theorem c_X11_unseen (w : TG) (n : Nat) (p1 : Int32) (p2 : Int32) (σ : MS) : MX m_X11_unseen w [.ref (wB w + 0), .int p1, .int p2] σ (f_X11_unseen n p1 p2 σ) := by
  refine VX_meth (by decide +kernel) (Nat.le_of_ble_eq_true rfl) (by intro v hv; simp only [List.mem_cons, List.not_mem_nil, or_false] at hv; rcases hv with rfl | rfl | rfl <;> rfl) (fun g x hno => ?_)
  show VV m_X11_unseen w g 0 0 (QX m_X11_unseen w g x) (fun b : XRes => b = x) 0 [some (.ref (wB w + 0)), some (.int p1), some (.int p2)] [] σ (f_X11_unseen n p1 p2 σ)
  refine V_aload_n (pc := 0) dX11_unseen_0 rfl rfl ?_
  refine V_iload_n (pc := 1) dX11_unseen_1 rfl rfl ?_
  refine V_iload_n (pc := 2) dX11_unseen_2 rfl rfl ?_
  refine VX_call (pc := 3) (As := [.int p1, .int p2]) (rest := []) hno (c_X11_needTwo w p1 p2 σ) cw_X11_178 rfl dX11_unseen_3 kc_0 ci_11 ⟨Nat.le_of_ble_eq_true rfl, Nat.le_of_ble_eq_true rfl⟩ rfl rfl (Nat.le_of_ble_eq_true rfl) (Nat.le_of_ble_eq_true rfl) (Nat.le_of_ble_eq_true rfl) (fun e s b h k => by cases h; exact k) (fun v3 s3 => ?_)
  show VV m_X11_unseen w g 3 18 (QX m_X11_unseen w g x) (fun b : XRes => b = x) 6 [some (.ref (wB w + 0)), some (.int p1), some (.int p2)] [] s3 _
  refine V_aload_n (pc := 6) dX11_unseen_6 rfl rfl ?_
  refine V_getr (pc := 7) (t := 59) fk_X11_86 rfl dX11_unseen_7 kc_0 rf_11_12_0 ?_
  refine V_aload_n (pc := 10) dX11_unseen_10 rfl rfl ?_
  refine V_getr (pc := 11) (t := 3) fk_X11_19 rfl dX11_unseen_11 kc_0 rf_11_1_0 ?_
  refine V_getr (pc := 14) (t := 4) fk_X11_149 rfl dX11_unseen_14 kc_3 rf_4_8_3 ?_
  refine V_iload_n (pc := 17) dX11_unseen_17 rfl rfl ?_
  refine V_iald (pc := 18) (n := 8) dX11_unseen_18 kc_4 lc_4 ?_
  refine V_aload_n (pc := 19) dX11_unseen_19 rfl rfl ?_
  refine V_getr (pc := 20) (t := 3) fk_X11_19 rfl dX11_unseen_20 kc_0 rf_11_1_0 ?_
  refine V_getr (pc := 23) (t := 4) fk_X11_149 rfl dX11_unseen_23 kc_3 rf_4_8_3 ?_
  refine V_iload_n (pc := 26) dX11_unseen_26 rfl rfl ?_
  refine V_iald (pc := 27) (n := 8) dX11_unseen_27 kc_4 lc_4 ?_
  refine V_callVpi (pc := 28) (As := [.int (s3 4 (ix p1)), .int (s3 4 (ix p2))]) (rest := []) (c_X3_meeting w n (s3 4 (ix p1)) (s3 4 (ix p2)) s3) cw_X11_312 rfl rfl dX11_unseen_28 kc_59 ci_3 ⟨Nat.le_of_ble_eq_true rfl, Nat.le_of_ble_eq_true rfl⟩ rfl rfl (Nat.le_of_ble_eq_true rfl) (Nat.le_of_ble_eq_true rfl) (Nat.le_of_ble_eq_true rfl) rfl (fun q28 => ?_)
  exact VX_ireti (pc := 31) dX11_unseen_31 rfl (hk := fun h => h)
def J_X11_trap_33 (n : Nat) (t0 : Int32) (σ : MS) : Option (XRes) := some (.inl t0, σ)
def f_X11_trap (n : Nat) (p1 : Int32) (p2 : Int32) (σ : MS) : Option (XRes) := (thn (f_X11_needNumber p1 (1 : Int32) (6 : Int32) σ) (fun v5 s5 => ((f_X3_catching n p1 s5).bind (fun q13 => (if p2 = 0 then J_X11_trap_33 n q13 s5 else ((f_X3_caught n q13 s5).bind (fun q26 => J_X11_trap_33 n q26 s5)))))) (fun e s => some (.inr e, s)))
set_option maxRecDepth 20000 in
set_option maxHeartbeats 2000000 in
theorem c_X11_trap (w : TG) (n : Nat) (p1 : Int32) (p2 : Int32) (σ : MS) : MX m_X11_trap w [.ref (wB w + 0), .int p1, .int p2] σ (f_X11_trap n p1 p2 σ) := by
  refine VX_meth (by decide +kernel) (Nat.le_of_ble_eq_true rfl) (by intro v hv; simp only [List.mem_cons, List.not_mem_nil, or_false] at hv; rcases hv with rfl | rfl | rfl <;> rfl) (fun g x hno => ?_)
  show VV m_X11_trap w g 0 0 (QX m_X11_trap w g x) (fun b : XRes => b = x) 0 [some (.ref (wB w + 0)), some (.int p1), some (.int p2), none] [] σ (f_X11_trap n p1 p2 σ)
  have hJ33 : ∀ (t0 : Int32) (σ : MS), VV m_X11_trap w g 1 6 (QX m_X11_trap w g x) (fun b : XRes => b = x) 33 [none, none, none, none] [.int t0] σ (J_X11_trap_33 n t0 σ) := by
    intro t0 σ
    exact VX_ireti (pc := 33) dX11_trap_33 rfl (hk := fun h => h)
  refine V_aload_n (pc := 0) dX11_trap_0 rfl rfl ?_
  refine V_iload_n (pc := 1) dX11_trap_1 rfl rfl ?_
  refine V_iconst (pc := 2) dX11_trap_2 ic_1 ?_
  refine V_bipush (pc := 3) dX11_trap_3 bp_6 ?_
  refine VX_call (pc := 5) (As := [.int p1, .int (1 : Int32), .int (6 : Int32)]) (rest := []) hno (c_X11_needNumber w p1 (1 : Int32) (6 : Int32) σ) cw_X11_192 rfl dX11_trap_5 kc_0 ci_11 ⟨Nat.le_of_ble_eq_true rfl, Nat.le_of_ble_eq_true rfl⟩ rfl rfl (Nat.le_of_ble_eq_true rfl) (Nat.le_of_ble_eq_true rfl) (Nat.le_of_ble_eq_true rfl) (fun e s b h k => by cases h; exact k) (fun v5 s5 => ?_)
  show VV m_X11_trap w g 1 6 (QX m_X11_trap w g x) (fun b : XRes => b = x) 8 [some (.ref (wB w + 0)), some (.int p1), some (.int p2), none] [] s5 _
  refine V_aload_n (pc := 8) dX11_trap_8 rfl rfl ?_
  refine V_getr (pc := 9) (t := 59) fk_X11_86 rfl dX11_trap_9 kc_0 rf_11_12_0 ?_
  refine V_iload_n (pc := 12) dX11_trap_12 rfl rfl ?_
  refine V_callVpi (pc := 13) (As := [.int p1]) (rest := []) (c_X3_catching w n p1 s5) cw_X11_315 rfl rfl dX11_trap_13 kc_59 ci_3 ⟨Nat.le_of_ble_eq_true rfl, Nat.le_of_ble_eq_true rfl⟩ rfl rfl (Nat.le_of_ble_eq_true rfl) (Nat.le_of_ble_eq_true rfl) (Nat.le_of_ble_eq_true rfl) rfl (fun q13 => ?_)
  refine V_istore_n (pc := 16) (vs' := [some (.ref (wB w + 0)), some (.int p1), some (.int p2), some (.int q13)]) dX11_trap_16 rfl (Nat.le_of_ble_eq_true rfl) (Nat.le_of_ble_eq_true rfl) rfl ?_
  refine V_iload_n (pc := 17) dX11_trap_17 rfl rfl ?_
  refine V_if_eq (pc := 18) (tgt := 32) dX11_trap_18 (by decide +kernel) ?_ ?_
  · refine V_iload_n (pc := 32) dX11_trap_32 rfl rfl ?_
    refine V_widen (kc' := 1) (ks' := 6) (Nat.le_of_ble_eq_true rfl) (Nat.le_of_ble_eq_true rfl) ?_
    refine V_sub (vs' := [none, none, none, none]) (show vless _ _ from trivial) rfl ?_
    exact hJ33 q13 s5
  · refine V_aload_n (pc := 21) dX11_trap_21 rfl rfl ?_
    refine V_getr (pc := 22) (t := 59) fk_X11_86 rfl dX11_trap_22 kc_0 rf_11_12_0 ?_
    refine V_iload_n (pc := 25) dX11_trap_25 rfl rfl ?_
    refine V_callVpi (pc := 26) (As := [.int q13]) (rest := []) (c_X3_caught w n q13 s5) cw_X11_318 rfl rfl dX11_trap_26 kc_59 ci_3 ⟨Nat.le_of_ble_eq_true rfl, Nat.le_of_ble_eq_true rfl⟩ rfl rfl (Nat.le_of_ble_eq_true rfl) (Nat.le_of_ble_eq_true rfl) (Nat.le_of_ble_eq_true rfl) rfl (fun q26 => ?_)
    refine V_goto (pc := 29) (tgt := 33) dX11_trap_29 (by decide +kernel) ?_
    refine V_widen (kc' := 1) (ks' := 6) (Nat.le_of_ble_eq_true rfl) (Nat.le_of_ble_eq_true rfl) ?_
    refine V_sub (vs' := [none, none, none, none]) (show vless _ _ from trivial) rfl ?_
    exact hJ33 q26 s5
def J_X11_oath_26 (t0 : Int32) (σ : MS) : Option (XRes) := (if t0 = 0 ∨ t0 = 1 then some (.inl t0, σ) else none)
def f_X11_oath (p1 : Int32) (p2 : Int32) (σ : MS) : Option (XRes) := (thn (f_X11_needPerson p1 σ) (fun v2 s2 => (if inb p1 8 then (if ((s2 7 (ix p1)) &&& (p2 ^^^ (-1 : Int32))) = 0 then J_X11_oath_26 (1 : Int32) s2 else J_X11_oath_26 (0 : Int32) s2) else none)) (fun e s => some (.inr e, s)))
set_option maxRecDepth 20000 in
set_option maxHeartbeats 2000000 in
theorem c_X11_oath (w : TG) (p1 : Int32) (p2 : Int32) (σ : MS) : MX m_X11_oath w [.ref (wB w + 0), .int p1, .int p2] σ (f_X11_oath p1 p2 σ) := by
  refine VX_meth (by decide +kernel) (Nat.le_of_ble_eq_true rfl) (by intro v hv; simp only [List.mem_cons, List.not_mem_nil, or_false] at hv; rcases hv with rfl | rfl | rfl <;> rfl) (fun g x hno => ?_)
  show VV m_X11_oath w g 0 0 (QX m_X11_oath w g x) (fun b : XRes => b = x) 0 [some (.ref (wB w + 0)), some (.int p1), some (.int p2)] [] σ (f_X11_oath p1 p2 σ)
  have hJ26 : ∀ (t0 : Int32) (σ : MS), VV m_X11_oath w g 1 6 (QX m_X11_oath w g x) (fun b : XRes => b = x) 26 [none, none, none] [.int t0] σ (J_X11_oath_26 t0 σ) := by
    intro t0 σ
    exact VX_iretZ (pc := 26) dX11_oath_26 rfl (hk := fun h => h)
  refine V_aload_n (pc := 0) dX11_oath_0 rfl rfl ?_
  refine V_iload_n (pc := 1) dX11_oath_1 rfl rfl ?_
  refine VX_call (pc := 2) (As := [.int p1]) (rest := []) hno (c_X11_needPerson w p1 σ) cw_X11_146 rfl dX11_oath_2 kc_0 ci_11 ⟨Nat.le_of_ble_eq_true rfl, Nat.le_of_ble_eq_true rfl⟩ rfl rfl (Nat.le_of_ble_eq_true rfl) (Nat.le_of_ble_eq_true rfl) (Nat.le_of_ble_eq_true rfl) (fun e s b h k => by cases h; exact k) (fun v2 s2 => ?_)
  show VV m_X11_oath w g 1 6 (QX m_X11_oath w g x) (fun b : XRes => b = x) 5 [some (.ref (wB w + 0)), some (.int p1), some (.int p2)] [] s2 _
  refine V_aload_n (pc := 5) dX11_oath_5 rfl rfl ?_
  refine V_getr (pc := 6) (t := 3) fk_X11_19 rfl dX11_oath_6 kc_0 rf_11_1_0 ?_
  refine V_getr (pc := 9) (t := 7) fk_X11_159 rfl dX11_oath_9 kc_3 rf_4_11_3 ?_
  refine V_iload_n (pc := 12) dX11_oath_12 rfl rfl ?_
  refine V_iald (pc := 13) (n := 8) dX11_oath_13 kc_7 lc_7 ?_
  refine V_iload_n (pc := 14) dX11_oath_14 rfl rfl ?_
  refine V_iconst (pc := 15) dX11_oath_15 ic_m1 ?_
  refine V_ixor (pc := 16) dX11_oath_16 ?_
  refine V_iand (pc := 17) dX11_oath_17 ?_
  refine V_if_ne (pc := 18) (tgt := 25) dX11_oath_18 (by decide +kernel) ?_ ?_
  · refine V_iconst (pc := 25) dX11_oath_25 ic_0 ?_
    refine V_widen (kc' := 1) (ks' := 6) (Nat.le_of_ble_eq_true rfl) (Nat.le_of_ble_eq_true rfl) ?_
    refine V_sub (vs' := [none, none, none]) (show vless _ _ from trivial) rfl ?_
    exact hJ26 (0 : Int32) s2
  · refine V_iconst (pc := 21) dX11_oath_21 ic_1 ?_
    refine V_goto (pc := 22) (tgt := 26) dX11_oath_22 (by decide +kernel) ?_
    refine V_widen (kc' := 1) (ks' := 6) (Nat.le_of_ble_eq_true rfl) (Nat.le_of_ble_eq_true rfl) ?_
    refine V_sub (vs' := [none, none, none]) (show vless _ _ from trivial) rfl ?_
    exact hJ26 (1 : Int32) s2
def f_X11_shortest (p1 : Int32) (σ : MS) : Option (XRes) := (thn (f_X11_needPerson p1 σ) (fun v2 s2 => (if inb p1 8 then ((f_J6_bitCount_0f7a4 (s2 7 (ix p1)) s2).bind (fun q14 => some (.inl q14, s2))) else none)) (fun e s => some (.inr e, s)))
set_option maxRecDepth 20000 in
set_option maxHeartbeats 2000000 in
theorem c_X11_shortest (w : TG) (p1 : Int32) (σ : MS) : MX m_X11_shortest w [.ref (wB w + 0), .int p1] σ (f_X11_shortest p1 σ) := by
  refine VX_meth (by decide +kernel) (Nat.le_of_ble_eq_true rfl) (by intro v hv; simp only [List.mem_cons, List.not_mem_nil, or_false] at hv; rcases hv with rfl | rfl <;> rfl) (fun g x hno => ?_)
  show VV m_X11_shortest w g 0 0 (QX m_X11_shortest w g x) (fun b : XRes => b = x) 0 [some (.ref (wB w + 0)), some (.int p1)] [] σ (f_X11_shortest p1 σ)
  refine V_aload_n (pc := 0) dX11_shortest_0 rfl rfl ?_
  refine V_iload_n (pc := 1) dX11_shortest_1 rfl rfl ?_
  refine VX_call (pc := 2) (As := [.int p1]) (rest := []) hno (c_X11_needPerson w p1 σ) cw_X11_146 rfl dX11_shortest_2 kc_0 ci_11 ⟨Nat.le_of_ble_eq_true rfl, Nat.le_of_ble_eq_true rfl⟩ rfl rfl (Nat.le_of_ble_eq_true rfl) (Nat.le_of_ble_eq_true rfl) (Nat.le_of_ble_eq_true rfl) (fun e s b h k => by cases h; exact k) (fun v2 s2 => ?_)
  show VV m_X11_shortest w g 1 6 (QX m_X11_shortest w g x) (fun b : XRes => b = x) 5 [some (.ref (wB w + 0)), some (.int p1)] [] s2 _
  refine V_aload_n (pc := 5) dX11_shortest_5 rfl rfl ?_
  refine V_getr (pc := 6) (t := 3) fk_X11_19 rfl dX11_shortest_6 kc_0 rf_11_1_0 ?_
  refine V_getr (pc := 9) (t := 7) fk_X11_159 rfl dX11_shortest_9 kc_3 rf_4_11_3 ?_
  refine V_iload_n (pc := 12) dX11_shortest_12 rfl rfl ?_
  refine V_iald (pc := 13) (n := 8) dX11_shortest_13 kc_7 lc_7 ?_
  refine V_callSpi (pc := 14) (As := [.int (s2 7 (ix p1))]) (rest := []) (c_J6_bitCount_0f7a4 w (s2 7 (ix p1)) s2) cs_X11_321 rfl rfl dX11_shortest_14 ⟨Nat.le_of_ble_eq_true rfl, Nat.le_of_ble_eq_true rfl⟩ rfl rfl (Nat.le_of_ble_eq_true rfl) (Nat.le_of_ble_eq_true rfl) (Nat.le_of_ble_eq_true rfl) rfl (fun q14 => ?_)
  exact VX_ireti (pc := 17) dX11_shortest_17 rfl (hk := fun h => h)
def J_X11_alibi_41 (n : Nat) (v1 : Int32) (v2 : Int32) (v3 : Int32) (σ : MS) : Option ((Int32 × Int32) ⊕ (XRes)) := some (.inl (v2, (v3 + (1 : Int32))))
def L_X11_alibi_9 (n : Nat) (v1 : Int32) (σ : MS) (a9 : Int32 × Int32) : Option ((Int32 × Int32) ⊕ (XRes)) := (if (σ 3 0) ≤ a9.2 then (some (.inl a9.1, σ)).map Sum.inr else (if inb a9.2 8 then (if (σ 7 (ix a9.2)) = (shlI (1 : Int32) v1) then J_X11_alibi_41 n v1 (a9.1 ||| (shlI (1 : Int32) a9.2)) a9.2 σ else J_X11_alibi_41 n v1 a9.1 a9.2 σ) else none))
def f_X11_alibi (n : Nat) (p1 : Int32) (σ : MS) : Option (XRes) := (thn (f_X11_needPerson p1 σ) (fun v2 s2 => itr (L_X11_alibi_9 n p1 s2) n ((0 : Int32), (0 : Int32))) (fun e s => some (.inr e, s)))
set_option maxRecDepth 20000 in
set_option maxHeartbeats 2000000 in
theorem c_X11_alibi (w : TG) (n : Nat) (p1 : Int32) (σ : MS) : MX m_X11_alibi w [.ref (wB w + 0), .int p1] σ (f_X11_alibi n p1 σ) := by
  refine VX_meth (by decide +kernel) (Nat.le_of_ble_eq_true rfl) (by intro v hv; simp only [List.mem_cons, List.not_mem_nil, or_false] at hv; rcases hv with rfl | rfl <;> rfl) (fun g x hno => ?_)
  show VV m_X11_alibi w g 0 0 (QX m_X11_alibi w g x) (fun b : XRes => b = x) 0 [some (.ref (wB w + 0)), some (.int p1), none, none] [] σ (f_X11_alibi n p1 σ)
  have hL9 : ∀ (σ : MS) (n0 : Nat) (a : Int32 × Int32), VV m_X11_alibi w g 1 6 (QX m_X11_alibi w g x) (fun b : XRes => b = x) 9 [some (.ref (wB w + 0)), some (.int p1), some (.int a.1), some (.int a.2)] [] σ (itr (L_X11_alibi_9 n p1 σ) n0 a) := by
    intro σ
    refine V_itr (vf := fun a : Int32 × Int32 => [some (.ref (wB w + 0)), some (.int p1), some (.int a.1), some (.int a.2)]) (sf := fun a : Int32 × Int32 => σ) (fun κ9 b9 r9 a9 => ?_)
    obtain ⟨a9_1, a9_2⟩ := a9
    show VV m_X11_alibi w g 1 6 (QX m_X11_alibi w g x) κ9 9 [some (.ref (wB w + 0)), some (.int p1), some (.int a9_1), some (.int a9_2)] [] σ (L_X11_alibi_9 n p1 σ (a9_1, a9_2))
    have hJ41 : ∀ (v2 : Int32) (v3 : Int32), VV m_X11_alibi w g 1 6 (QX m_X11_alibi w g x) κ9 41 [some (.ref (wB w + 0)), some (.int p1), some (.int v2), some (.int v3)] [] σ (J_X11_alibi_41 n p1 v2 v3 σ) := by
      intro v2 v3
      refine V_iincC (pc := 41) (vs' := [some (.ref (wB w + 0)), some (.int p1), some (.int v2), some (.int (v3 + (1 : Int32)))]) dX11_alibi_41 (Nat.le_of_ble_eq_true rfl) rfl ic_1 rfl ?_
      refine V_goto (pc := 44) (tgt := 9) dX11_alibi_44 (by decide +kernel) ?_
      exact V_back (b9 (v2, (v3 + (1 : Int32))))
    refine V_iload_n (pc := 9) dX11_alibi_9 rfl rfl ?_
    refine V_aload_n (pc := 10) dX11_alibi_10 rfl rfl ?_
    refine V_getr (pc := 11) (t := 3) fk_X11_19 rfl dX11_alibi_11 kc_0 rf_11_1_0 ?_
    refine V_geti (pc := 14) fk_X11_326 rfl dX11_alibi_14 kc_3 rf_4_0_3 ?_
    refine V_icmp_ge (pc := 17) (tgt := 47) dX11_alibi_17 (by decide +kernel) ?_ ?_
    · refine V_exit r9 ?_
      refine V_iload_n (pc := 47) dX11_alibi_47 rfl rfl ?_
      exact VX_ireti (pc := 48) dX11_alibi_48 rfl (hk := fun h => h)
    · refine V_aload_n (pc := 20) dX11_alibi_20 rfl rfl ?_
      refine V_getr (pc := 21) (t := 3) fk_X11_19 rfl dX11_alibi_21 kc_0 rf_11_1_0 ?_
      refine V_getr (pc := 24) (t := 7) fk_X11_159 rfl dX11_alibi_24 kc_3 rf_4_11_3 ?_
      refine V_iload_n (pc := 27) dX11_alibi_27 rfl rfl ?_
      refine V_iald (pc := 28) (n := 8) dX11_alibi_28 kc_7 lc_7 ?_
      refine V_iconst (pc := 29) dX11_alibi_29 ic_1 ?_
      refine V_iload_n (pc := 30) dX11_alibi_30 rfl rfl ?_
      refine V_ishl (pc := 31) dX11_alibi_31 ?_
      refine V_icmp_ne (pc := 32) (tgt := 41) dX11_alibi_32 (by decide +kernel) ?_ ?_
      · refine V_widen (kc' := 1) (ks' := 6) (Nat.le_of_ble_eq_true rfl) (Nat.le_of_ble_eq_true rfl) ?_
        exact hJ41 a9_1 a9_2
      · refine V_iload_n (pc := 35) dX11_alibi_35 rfl rfl ?_
        refine V_iconst (pc := 36) dX11_alibi_36 ic_1 ?_
        refine V_iload_n (pc := 37) dX11_alibi_37 rfl rfl ?_
        refine V_ishl (pc := 38) dX11_alibi_38 ?_
        refine V_ior (pc := 39) dX11_alibi_39 ?_
        refine V_istore_n (pc := 40) (vs' := [some (.ref (wB w + 0)), some (.int p1), some (.int (a9_1 ||| (shlI (1 : Int32) a9_2))), some (.int a9_2)]) dX11_alibi_40 rfl (Nat.le_of_ble_eq_true rfl) (Nat.le_of_ble_eq_true rfl) rfl ?_
        refine V_widen (kc' := 1) (ks' := 6) (Nat.le_of_ble_eq_true rfl) (Nat.le_of_ble_eq_true rfl) ?_
        exact hJ41 (a9_1 ||| (shlI (1 : Int32) a9_2)) a9_2
  refine V_aload_n (pc := 0) dX11_alibi_0 rfl rfl ?_
  refine V_iload_n (pc := 1) dX11_alibi_1 rfl rfl ?_
  refine VX_call (pc := 2) (As := [.int p1]) (rest := []) hno (c_X11_needPerson w p1 σ) cw_X11_146 rfl dX11_alibi_2 kc_0 ci_11 ⟨Nat.le_of_ble_eq_true rfl, Nat.le_of_ble_eq_true rfl⟩ rfl rfl (Nat.le_of_ble_eq_true rfl) (Nat.le_of_ble_eq_true rfl) (Nat.le_of_ble_eq_true rfl) (fun e s b h k => by cases h; exact k) (fun v2 s2 => ?_)
  show VV m_X11_alibi w g 1 6 (QX m_X11_alibi w g x) (fun b : XRes => b = x) 5 [some (.ref (wB w + 0)), some (.int p1), none, none] [] s2 _
  refine V_iconst (pc := 5) dX11_alibi_5 ic_0 ?_
  refine V_istore_n (pc := 6) (vs' := [some (.ref (wB w + 0)), some (.int p1), some (.int (0 : Int32)), none]) dX11_alibi_6 rfl (Nat.le_of_ble_eq_true rfl) (Nat.le_of_ble_eq_true rfl) rfl ?_
  refine V_iconst (pc := 7) dX11_alibi_7 ic_0 ?_
  refine V_istore_n (pc := 8) (vs' := [some (.ref (wB w + 0)), some (.int p1), some (.int (0 : Int32)), some (.int (0 : Int32))]) dX11_alibi_8 rfl (Nat.le_of_ble_eq_true rfl) (Nat.le_of_ble_eq_true rfl) rfl ?_
  refine V_widen (kc' := 1) (ks' := 6) (Nat.le_of_ble_eq_true rfl) (Nat.le_of_ble_eq_true rfl) ?_
  exact hL9 s2 n ((0 : Int32), (0 : Int32))
def f_X11_odds (n : Nat) (p1 : Int32) (p2 : Int32) (σ : MS) : Option (XRes) := (thn (f_X11_needTwo p1 p2 σ) (fun v3 s3 => ((f_X4_strongest n 3 p1 s3).bind (fun q11 => ((f_X4_strongest n 3 p2 s3).bind (fun q19 => some (.inl (q11 * q19), s3)))))) (fun e s => some (.inr e, s)))
set_option maxRecDepth 20000 in
set_option maxHeartbeats 2000000 in
theorem c_X11_odds (w : TG) (n : Nat) (p1 : Int32) (p2 : Int32) (σ : MS) : MX m_X11_odds w [.ref (wB w + 0), .int p1, .int p2] σ (f_X11_odds n p1 p2 σ) := by
  refine VX_meth (by decide +kernel) (Nat.le_of_ble_eq_true rfl) (by intro v hv; simp only [List.mem_cons, List.not_mem_nil, or_false] at hv; rcases hv with rfl | rfl | rfl <;> rfl) (fun g x hno => ?_)
  show VV m_X11_odds w g 0 0 (QX m_X11_odds w g x) (fun b : XRes => b = x) 0 [some (.ref (wB w + 0)), some (.int p1), some (.int p2)] [] σ (f_X11_odds n p1 p2 σ)
  refine V_aload_n (pc := 0) dX11_odds_0 rfl rfl ?_
  refine V_iload_n (pc := 1) dX11_odds_1 rfl rfl ?_
  refine V_iload_n (pc := 2) dX11_odds_2 rfl rfl ?_
  refine VX_call (pc := 3) (As := [.int p1, .int p2]) (rest := []) hno (c_X11_needTwo w p1 p2 σ) cw_X11_178 rfl dX11_odds_3 kc_0 ci_11 ⟨Nat.le_of_ble_eq_true rfl, Nat.le_of_ble_eq_true rfl⟩ rfl rfl (Nat.le_of_ble_eq_true rfl) (Nat.le_of_ble_eq_true rfl) (Nat.le_of_ble_eq_true rfl) (fun e s b h k => by cases h; exact k) (fun v3 s3 => ?_)
  show VV m_X11_odds w g 3 18 (QX m_X11_odds w g x) (fun b : XRes => b = x) 6 [some (.ref (wB w + 0)), some (.int p1), some (.int p2)] [] s3 _
  refine V_aload_n (pc := 6) dX11_odds_6 rfl rfl ?_
  refine V_getr (pc := 7) (t := 3) fk_X11_19 rfl dX11_odds_7 kc_0 rf_11_1_0 ?_
  refine V_iload_n (pc := 10) dX11_odds_10 rfl rfl ?_
  refine V_callVpi (pc := 11) (As := [.int p1]) (rest := []) (c_X4_strongest w n 3 p1 kc_3 s3) cw_X11_329 rfl rfl dX11_odds_11 kc_3 ci_4 ⟨Nat.le_of_ble_eq_true rfl, Nat.le_of_ble_eq_true rfl⟩ rfl rfl (Nat.le_of_ble_eq_true rfl) (Nat.le_of_ble_eq_true rfl) (Nat.le_of_ble_eq_true rfl) rfl (fun q11 => ?_)
  refine V_aload_n (pc := 14) dX11_odds_14 rfl rfl ?_
  refine V_getr (pc := 15) (t := 3) fk_X11_19 rfl dX11_odds_15 kc_0 rf_11_1_0 ?_
  refine V_iload_n (pc := 18) dX11_odds_18 rfl rfl ?_
  refine V_callVpi (pc := 19) (As := [.int p2]) (rest := [.int q11]) (c_X4_strongest w n 3 p2 kc_3 s3) cw_X11_329 rfl rfl dX11_odds_19 kc_3 ci_4 ⟨Nat.le_of_ble_eq_true rfl, Nat.le_of_ble_eq_true rfl⟩ rfl rfl (Nat.le_of_ble_eq_true rfl) (Nat.le_of_ble_eq_true rfl) (Nat.le_of_ble_eq_true rfl) rfl (fun q19 => ?_)
  refine V_imul (pc := 22) dX11_odds_22 ?_
  exact VX_ireti (pc := 23) dX11_odds_23 rfl (hk := fun h => h)
def J_X11_ahead_64 (n : Nat) (t0 : Int32) (σ : MS) : Option (XRes) := some (.inl t0, σ)
def f_X11_ahead (n : Nat) (p1 : Int32) (p2 : Int32) (p3 : Int32) (σ : MS) : Option (XRes) := (thn (f_X11_needPerson p1 σ) (fun v2 s2 => (thn (f_X11_needNumber p2 (0 : Int32) (400 : Int32) s2) (fun v11 s11 => ((f_X4_become 12 3 s11).bind (fun q22 => ((f_X0_pass n 12 30 p2 (0 : Int32) q22.2).bind (fun q35 => (if p3 = 0 then (if inb p1 8 then J_X11_ahead_64 n (q35.2 13 (ix p1)) q35.2 else none) else (if inb p1 8 then J_X11_ahead_64 n (q35.2 15 (ix p1)) q35.2 else none))))))) (fun e s => some (.inr e, s)))) (fun e s => some (.inr e, s)))
set_option maxRecDepth 20000 in
set_option maxHeartbeats 2000000 in
theorem c_X11_ahead (w : TG) (n : Nat) (p1 : Int32) (p2 : Int32) (p3 : Int32) (σ : MS) : MX m_X11_ahead w [.ref (wB w + 0), .int p1, .int p2, .int p3] σ (f_X11_ahead n p1 p2 p3 σ) := by
  refine VX_meth (by decide +kernel) (Nat.le_of_ble_eq_true rfl) (by intro v hv; simp only [List.mem_cons, List.not_mem_nil, or_false] at hv; rcases hv with rfl | rfl | rfl | rfl <;> rfl) (fun g x hno => ?_)
  show VV m_X11_ahead w g 0 0 (QX m_X11_ahead w g x) (fun b : XRes => b = x) 0 [some (.ref (wB w + 0)), some (.int p1), some (.int p2), some (.int p3)] [] σ (f_X11_ahead n p1 p2 p3 σ)
  have hJ64 : ∀ (t0 : Int32) (σ : MS), VV m_X11_ahead w g 2 12 (QX m_X11_ahead w g x) (fun b : XRes => b = x) 64 [none, none, none, none] [.int t0] σ (J_X11_ahead_64 n t0 σ) := by
    intro t0 σ
    exact VX_ireti (pc := 64) dX11_ahead_64 rfl (hk := fun h => h)
  refine V_aload_n (pc := 0) dX11_ahead_0 rfl rfl ?_
  refine V_iload_n (pc := 1) dX11_ahead_1 rfl rfl ?_
  refine VX_call (pc := 2) (As := [.int p1]) (rest := []) hno (c_X11_needPerson w p1 σ) cw_X11_146 rfl dX11_ahead_2 kc_0 ci_11 ⟨Nat.le_of_ble_eq_true rfl, Nat.le_of_ble_eq_true rfl⟩ rfl rfl (Nat.le_of_ble_eq_true rfl) (Nat.le_of_ble_eq_true rfl) (Nat.le_of_ble_eq_true rfl) (fun e s b h k => by cases h; exact k) (fun v2 s2 => ?_)
  show VV m_X11_ahead w g 1 6 (QX m_X11_ahead w g x) (fun b : XRes => b = x) 5 [some (.ref (wB w + 0)), some (.int p1), some (.int p2), some (.int p3)] [] s2 _
  refine V_aload_n (pc := 5) dX11_ahead_5 rfl rfl ?_
  refine V_iload_n (pc := 6) dX11_ahead_6 rfl rfl ?_
  refine V_iconst (pc := 7) dX11_ahead_7 ic_0 ?_
  refine V_sipush (pc := 8) dX11_ahead_8 sp_400 ?_
  refine VX_call (pc := 11) (As := [.int p2, .int (0 : Int32), .int (400 : Int32)]) (rest := []) hno (c_X11_needNumber w p2 (0 : Int32) (400 : Int32) s2) cw_X11_192 rfl dX11_ahead_11 kc_0 ci_11 ⟨Nat.le_of_ble_eq_true rfl, Nat.le_of_ble_eq_true rfl⟩ rfl rfl (Nat.le_of_ble_eq_true rfl) (Nat.le_of_ble_eq_true rfl) (Nat.le_of_ble_eq_true rfl) (fun e s b h k => by cases h; exact k) (fun v11 s11 => ?_)
  show VV m_X11_ahead w g 2 12 (QX m_X11_ahead w g x) (fun b : XRes => b = x) 14 [some (.ref (wB w + 0)), some (.int p1), some (.int p2), some (.int p3)] [] s11 _
  refine V_aload_n (pc := 14) dX11_ahead_14 rfl rfl ?_
  refine V_getr (pc := 15) (t := 12) fk_X11_23 rfl dX11_ahead_15 kc_0 rf_11_2_0 ?_
  refine V_aload_n (pc := 18) dX11_ahead_18 rfl rfl ?_
  refine V_getr (pc := 19) (t := 3) fk_X11_19 rfl dX11_ahead_19 kc_0 rf_11_1_0 ?_
  refine V_callVv (pc := 22) (As := [.ref (wB w + 3)]) (rest := []) (c_X4_become w 12 3 kc_12 kc_3 s11) cw_X11_114 rfl rfl dX11_ahead_22 kc_12 ci_4 ⟨Nat.le_of_ble_eq_true rfl, Nat.le_of_ble_eq_true rfl⟩ rfl rfl (Nat.le_of_ble_eq_true rfl) (Nat.le_of_ble_eq_true rfl) (Nat.le_of_ble_eq_true rfl) rfl (fun q22 => ?_)
  refine V_aload_n (pc := 25) dX11_ahead_25 rfl rfl ?_
  refine V_getr (pc := 26) (t := 12) fk_X11_23 rfl dX11_ahead_26 kc_0 rf_11_2_0 ?_
  refine V_aload_n (pc := 29) dX11_ahead_29 rfl rfl ?_
  refine V_getr (pc := 30) (t := 30) fk_X11_32 rfl dX11_ahead_30 kc_0 rf_11_4_0 ?_
  refine V_iload_n (pc := 33) dX11_ahead_33 rfl rfl ?_
  refine V_iconst (pc := 34) dX11_ahead_34 ic_0 ?_
  refine V_callSi (pc := 35) (As := [.ref (wB w + 12), .ref (wB w + 30), .int p2, .int (0 : Int32)]) (rest := []) (c_X0_pass w n 12 30 p2 (0 : Int32) kc_12 kc_30 q22.2) cs_X11_248 rfl rfl dX11_ahead_35 ⟨Nat.le_of_ble_eq_true rfl, Nat.le_of_ble_eq_true rfl⟩ rfl rfl (Nat.le_of_ble_eq_true rfl) (Nat.le_of_ble_eq_true rfl) (Nat.le_of_ble_eq_true rfl) rfl (fun q35 => ?_)
  refine V_pop (pc := 38) dX11_ahead_38 rfl ?_
  refine V_iload_n (pc := 39) dX11_ahead_39 rfl rfl ?_
  refine V_if_eq (pc := 40) (tgt := 55) dX11_ahead_40 (by decide +kernel) ?_ ?_
  · refine V_aload_n (pc := 55) dX11_ahead_55 rfl rfl ?_
    refine V_getr (pc := 56) (t := 12) fk_X11_23 rfl dX11_ahead_56 kc_0 rf_11_2_0 ?_
    refine V_getr (pc := 59) (t := 13) fk_X11_149 rfl dX11_ahead_59 kc_12 rf_4_8_12 ?_
    refine V_iload_n (pc := 62) dX11_ahead_62 rfl rfl ?_
    refine V_iald (pc := 63) (n := 8) dX11_ahead_63 kc_13 lc_13 ?_
    refine V_widen (kc' := 2) (ks' := 12) (Nat.le_of_ble_eq_true rfl) (Nat.le_of_ble_eq_true rfl) ?_
    refine V_sub (vs' := [none, none, none, none]) (show vless _ _ from trivial) rfl ?_
    exact hJ64 (q35.2 13 (ix p1)) q35.2
  · refine V_aload_n (pc := 43) dX11_ahead_43 rfl rfl ?_
    refine V_getr (pc := 44) (t := 12) fk_X11_23 rfl dX11_ahead_44 kc_0 rf_11_2_0 ?_
    refine V_getr (pc := 47) (t := 15) fk_X11_156 rfl dX11_ahead_47 kc_12 rf_4_10_12 ?_
    refine V_iload_n (pc := 50) dX11_ahead_50 rfl rfl ?_
    refine V_iald (pc := 51) (n := 8) dX11_ahead_51 kc_15 lc_15 ?_
    refine V_goto (pc := 52) (tgt := 64) dX11_ahead_52 (by decide +kernel) ?_
    refine V_widen (kc' := 2) (ks' := 12) (Nat.le_of_ble_eq_true rfl) (Nat.le_of_ble_eq_true rfl) ?_
    refine V_sub (vs' := [none, none, none, none]) (show vless _ _ from trivial) rfl ?_
    exact hJ64 (q35.2 15 (ix p1)) q35.2
def f_X11_calm (n : Nat) (p1 : Int32) (σ : MS) : Option (XRes) := (thn (f_X11_needNumber p1 (0 : Int32) (400 : Int32) σ) (fun v6 s6 => ((f_X4_become 12 3 s6).bind (fun q17 => ((f_X0_pass n 12 30 p1 (0 : Int32) q17.2).bind (fun q30 => some (.inl q30.1, q30.2)))))) (fun e s => some (.inr e, s)))
set_option maxRecDepth 20000 in
set_option maxHeartbeats 2000000 in
theorem c_X11_calm (w : TG) (n : Nat) (p1 : Int32) (σ : MS) : MX m_X11_calm w [.ref (wB w + 0), .int p1] σ (f_X11_calm n p1 σ) := by
  refine VX_meth (by decide +kernel) (Nat.le_of_ble_eq_true rfl) (by intro v hv; simp only [List.mem_cons, List.not_mem_nil, or_false] at hv; rcases hv with rfl | rfl <;> rfl) (fun g x hno => ?_)
  show VV m_X11_calm w g 0 0 (QX m_X11_calm w g x) (fun b : XRes => b = x) 0 [some (.ref (wB w + 0)), some (.int p1)] [] σ (f_X11_calm n p1 σ)
  refine V_aload_n (pc := 0) dX11_calm_0 rfl rfl ?_
  refine V_iload_n (pc := 1) dX11_calm_1 rfl rfl ?_
  refine V_iconst (pc := 2) dX11_calm_2 ic_0 ?_
  refine V_sipush (pc := 3) dX11_calm_3 sp_400 ?_
  refine VX_call (pc := 6) (As := [.int p1, .int (0 : Int32), .int (400 : Int32)]) (rest := []) hno (c_X11_needNumber w p1 (0 : Int32) (400 : Int32) σ) cw_X11_192 rfl dX11_calm_6 kc_0 ci_11 ⟨Nat.le_of_ble_eq_true rfl, Nat.le_of_ble_eq_true rfl⟩ rfl rfl (Nat.le_of_ble_eq_true rfl) (Nat.le_of_ble_eq_true rfl) (Nat.le_of_ble_eq_true rfl) (fun e s b h k => by cases h; exact k) (fun v6 s6 => ?_)
  show VV m_X11_calm w g 1 6 (QX m_X11_calm w g x) (fun b : XRes => b = x) 9 [some (.ref (wB w + 0)), some (.int p1)] [] s6 _
  refine V_aload_n (pc := 9) dX11_calm_9 rfl rfl ?_
  refine V_getr (pc := 10) (t := 12) fk_X11_23 rfl dX11_calm_10 kc_0 rf_11_2_0 ?_
  refine V_aload_n (pc := 13) dX11_calm_13 rfl rfl ?_
  refine V_getr (pc := 14) (t := 3) fk_X11_19 rfl dX11_calm_14 kc_0 rf_11_1_0 ?_
  refine V_callVv (pc := 17) (As := [.ref (wB w + 3)]) (rest := []) (c_X4_become w 12 3 kc_12 kc_3 s6) cw_X11_114 rfl rfl dX11_calm_17 kc_12 ci_4 ⟨Nat.le_of_ble_eq_true rfl, Nat.le_of_ble_eq_true rfl⟩ rfl rfl (Nat.le_of_ble_eq_true rfl) (Nat.le_of_ble_eq_true rfl) (Nat.le_of_ble_eq_true rfl) rfl (fun q17 => ?_)
  refine V_aload_n (pc := 20) dX11_calm_20 rfl rfl ?_
  refine V_getr (pc := 21) (t := 12) fk_X11_23 rfl dX11_calm_21 kc_0 rf_11_2_0 ?_
  refine V_aload_n (pc := 24) dX11_calm_24 rfl rfl ?_
  refine V_getr (pc := 25) (t := 30) fk_X11_32 rfl dX11_calm_25 kc_0 rf_11_4_0 ?_
  refine V_iload_n (pc := 28) dX11_calm_28 rfl rfl ?_
  refine V_iconst (pc := 29) dX11_calm_29 ic_0 ?_
  refine V_callSi (pc := 30) (As := [.ref (wB w + 12), .ref (wB w + 30), .int p1, .int (0 : Int32)]) (rest := []) (c_X0_pass w n 12 30 p1 (0 : Int32) kc_12 kc_30 q17.2) cs_X11_248 rfl rfl dX11_calm_30 ⟨Nat.le_of_ble_eq_true rfl, Nat.le_of_ble_eq_true rfl⟩ rfl rfl (Nat.le_of_ble_eq_true rfl) (Nat.le_of_ble_eq_true rfl) (Nat.le_of_ble_eq_true rfl) rfl (fun q30 => ?_)
  exact VX_ireti (pc := 33) dX11_calm_33 rfl (hk := fun h => h)
def f_X11_tryDays (n : Nat) (p1 : Int32) (p2 : Int32) (σ : MS) : Option (Int32 × MS) := ((f_X4_become 12 3 σ).bind (fun q8 => (ltM (mu q8.2 12 6 p2) (fun s16 => ((f_X0_pass n 12 30 p1 (1 : Int32) s16).bind (fun q29 => some (((q29.2 12 7) - (q29.2 3 7)), q29.2)))))))
set_option maxRecDepth 20000 in
set_option maxHeartbeats 2000000 in
theorem c_X11_tryDays (w : TG) (n : Nat) (p1 : Int32) (p2 : Int32) (σ : MS) : MC m_X11_tryDays w [.ref (wB w + 0), .int p1, .int p2] σ (f_X11_tryDays n p1 p2 σ) := by
  refine V_meth (by decide +kernel) (Nat.le_of_ble_eq_true rfl) (by intro v hv; simp only [List.mem_cons, List.not_mem_nil, or_false] at hv; rcases hv with rfl | rfl | rfl <;> rfl) (fun g x => ?_)
  show VV m_X11_tryDays w g 0 0 (QM m_X11_tryDays w g x) (fun b : Int32 × MS => b = x) 0 [some (.ref (wB w + 0)), some (.int p1), some (.int p2)] [] σ (f_X11_tryDays n p1 p2 σ)
  refine V_aload_n (pc := 0) dX11_tryDays_0 rfl rfl ?_
  refine V_getr (pc := 1) (t := 12) fk_X11_23 rfl dX11_tryDays_1 kc_0 rf_11_2_0 ?_
  refine V_aload_n (pc := 4) dX11_tryDays_4 rfl rfl ?_
  refine V_getr (pc := 5) (t := 3) fk_X11_19 rfl dX11_tryDays_5 kc_0 rf_11_1_0 ?_
  refine V_callVv (pc := 8) (As := [.ref (wB w + 3)]) (rest := []) (c_X4_become w 12 3 kc_12 kc_3 σ) cw_X11_114 rfl rfl dX11_tryDays_8 kc_12 ci_4 ⟨Nat.le_of_ble_eq_true rfl, Nat.le_of_ble_eq_true rfl⟩ rfl rfl (Nat.le_of_ble_eq_true rfl) (Nat.le_of_ble_eq_true rfl) (Nat.le_of_ble_eq_true rfl) rfl (fun q8 => ?_)
  refine V_aload_n (pc := 11) dX11_tryDays_11 rfl rfl ?_
  refine V_getr (pc := 12) (t := 12) fk_X11_23 rfl dX11_tryDays_12 kc_0 rf_11_2_0 ?_
  refine V_iload_n (pc := 15) dX11_tryDays_15 rfl rfl ?_
  refine V_puti (pc := 16) fp_X11_332 rfl dX11_tryDays_16 kc_12 rf_4_6_12 (fun s16 => ?_)
  refine V_aload_n (pc := 19) dX11_tryDays_19 rfl rfl ?_
  refine V_getr (pc := 20) (t := 12) fk_X11_23 rfl dX11_tryDays_20 kc_0 rf_11_2_0 ?_
  refine V_aload_n (pc := 23) dX11_tryDays_23 rfl rfl ?_
  refine V_getr (pc := 24) (t := 30) fk_X11_32 rfl dX11_tryDays_24 kc_0 rf_11_4_0 ?_
  refine V_iload_n (pc := 27) dX11_tryDays_27 rfl rfl ?_
  refine V_iconst (pc := 28) dX11_tryDays_28 ic_1 ?_
  refine V_callSi (pc := 29) (As := [.ref (wB w + 12), .ref (wB w + 30), .int p1, .int (1 : Int32)]) (rest := []) (c_X0_pass w n 12 30 p1 (1 : Int32) kc_12 kc_30 s16) cs_X11_248 rfl rfl dX11_tryDays_29 ⟨Nat.le_of_ble_eq_true rfl, Nat.le_of_ble_eq_true rfl⟩ rfl rfl (Nat.le_of_ble_eq_true rfl) (Nat.le_of_ble_eq_true rfl) (Nat.le_of_ble_eq_true rfl) rfl (fun q29 => ?_)
  refine V_pop (pc := 32) dX11_tryDays_32 rfl ?_
  refine V_aload_n (pc := 33) dX11_tryDays_33 rfl rfl ?_
  refine V_getr (pc := 34) (t := 12) fk_X11_23 rfl dX11_tryDays_34 kc_0 rf_11_2_0 ?_
  refine V_geti (pc := 37) fk_X11_245 rfl dX11_tryDays_37 kc_12 rf_4_7_12 ?_
  refine V_aload_n (pc := 40) dX11_tryDays_40 rfl rfl ?_
  refine V_getr (pc := 41) (t := 3) fk_X11_19 rfl dX11_tryDays_41 kc_0 rf_11_1_0 ?_
  refine V_geti (pc := 44) fk_X11_245 rfl dX11_tryDays_44 kc_3 rf_4_7_3 ?_
  refine V_isub (pc := 47) dX11_tryDays_47 ?_
  exact V_ireti (pc := 48) dX11_tryDays_48 rfl (hk := fun h => h)
def J_X11_trial_36 (n : Nat) (t0 : Int32) (σ : MS) : Option (XRes) := some (.inl t0, σ)
def f_X11_trial (n : Nat) (p1 : Int32) (p2 : Int32) (σ : MS) : Option (XRes) := (thn (f_X11_needNumber p1 (0 : Int32) (60 : Int32) σ) (fun v5 s5 => ((f_X11_tryDays n p1 (s5 3 6) s5).bind (fun q17 => (if p2 = 0 then J_X11_trial_36 n q17.1 q17.2 else ((f_X4_allSuspicion n 12 q17.2).bind (fun q29 => J_X11_trial_36 n q29 q17.2)))))) (fun e s => some (.inr e, s)))
set_option maxRecDepth 20000 in
set_option maxHeartbeats 2000000 in
theorem c_X11_trial (w : TG) (n : Nat) (p1 : Int32) (p2 : Int32) (σ : MS) : MX m_X11_trial w [.ref (wB w + 0), .int p1, .int p2] σ (f_X11_trial n p1 p2 σ) := by
  refine VX_meth (by decide +kernel) (Nat.le_of_ble_eq_true rfl) (by intro v hv; simp only [List.mem_cons, List.not_mem_nil, or_false] at hv; rcases hv with rfl | rfl | rfl <;> rfl) (fun g x hno => ?_)
  show VV m_X11_trial w g 0 0 (QX m_X11_trial w g x) (fun b : XRes => b = x) 0 [some (.ref (wB w + 0)), some (.int p1), some (.int p2), none] [] σ (f_X11_trial n p1 p2 σ)
  have hJ36 : ∀ (t0 : Int32) (σ : MS), VV m_X11_trial w g 1 6 (QX m_X11_trial w g x) (fun b : XRes => b = x) 36 [none, none, none, none] [.int t0] σ (J_X11_trial_36 n t0 σ) := by
    intro t0 σ
    exact VX_ireti (pc := 36) dX11_trial_36 rfl (hk := fun h => h)
  refine V_aload_n (pc := 0) dX11_trial_0 rfl rfl ?_
  refine V_iload_n (pc := 1) dX11_trial_1 rfl rfl ?_
  refine V_iconst (pc := 2) dX11_trial_2 ic_0 ?_
  refine V_bipush (pc := 3) dX11_trial_3 bp_60 ?_
  refine VX_call (pc := 5) (As := [.int p1, .int (0 : Int32), .int (60 : Int32)]) (rest := []) hno (c_X11_needNumber w p1 (0 : Int32) (60 : Int32) σ) cw_X11_192 rfl dX11_trial_5 kc_0 ci_11 ⟨Nat.le_of_ble_eq_true rfl, Nat.le_of_ble_eq_true rfl⟩ rfl rfl (Nat.le_of_ble_eq_true rfl) (Nat.le_of_ble_eq_true rfl) (Nat.le_of_ble_eq_true rfl) (fun e s b h k => by cases h; exact k) (fun v5 s5 => ?_)
  show VV m_X11_trial w g 1 6 (QX m_X11_trial w g x) (fun b : XRes => b = x) 8 [some (.ref (wB w + 0)), some (.int p1), some (.int p2), none] [] s5 _
  refine V_aload_n (pc := 8) dX11_trial_8 rfl rfl ?_
  refine V_iload_n (pc := 9) dX11_trial_9 rfl rfl ?_
  refine V_aload_n (pc := 10) dX11_trial_10 rfl rfl ?_
  refine V_getr (pc := 11) (t := 3) fk_X11_19 rfl dX11_trial_11 kc_0 rf_11_1_0 ?_
  refine V_geti (pc := 14) fk_X11_332 rfl dX11_trial_14 kc_3 rf_4_6_3 ?_
  refine V_callVi (pc := 17) (As := [.int p1, .int (s5 3 6)]) (rest := []) (c_X11_tryDays w n p1 (s5 3 6) s5) cw_X11_335 rfl rfl dX11_trial_17 kc_0 ci_11 ⟨Nat.le_of_ble_eq_true rfl, Nat.le_of_ble_eq_true rfl⟩ rfl rfl (Nat.le_of_ble_eq_true rfl) (Nat.le_of_ble_eq_true rfl) (Nat.le_of_ble_eq_true rfl) rfl (fun q17 => ?_)
  refine V_istore_n (pc := 20) (vs' := [some (.ref (wB w + 0)), some (.int p1), some (.int p2), some (.int q17.1)]) dX11_trial_20 rfl (Nat.le_of_ble_eq_true rfl) (Nat.le_of_ble_eq_true rfl) rfl ?_
  refine V_iload_n (pc := 21) dX11_trial_21 rfl rfl ?_
  refine V_if_eq (pc := 22) (tgt := 35) dX11_trial_22 (by decide +kernel) ?_ ?_
  · refine V_iload_n (pc := 35) dX11_trial_35 rfl rfl ?_
    refine V_widen (kc' := 1) (ks' := 6) (Nat.le_of_ble_eq_true rfl) (Nat.le_of_ble_eq_true rfl) ?_
    refine V_sub (vs' := [none, none, none, none]) (show vless _ _ from trivial) rfl ?_
    exact hJ36 q17.1 q17.2
  · refine V_aload_n (pc := 25) dX11_trial_25 rfl rfl ?_
    refine V_getr (pc := 26) (t := 12) fk_X11_23 rfl dX11_trial_26 kc_0 rf_11_2_0 ?_
    refine V_callVpi (pc := 29) (As := []) (rest := []) (c_X4_allSuspicion w n 12 kc_12 q17.2) cw_X11_338 rfl rfl dX11_trial_29 kc_12 ci_4 ⟨Nat.le_of_ble_eq_true rfl, Nat.le_of_ble_eq_true rfl⟩ rfl rfl (Nat.le_of_ble_eq_true rfl) (Nat.le_of_ble_eq_true rfl) (Nat.le_of_ble_eq_true rfl) rfl (fun q29 => ?_)
    refine V_goto (pc := 32) (tgt := 36) dX11_trial_32 (by decide +kernel) ?_
    refine V_widen (kc' := 1) (ks' := 6) (Nat.le_of_ble_eq_true rfl) (Nat.le_of_ble_eq_true rfl) ?_
    refine V_sub (vs' := [none, none, none, none]) (show vless _ _ from trivial) rfl ?_
    exact hJ36 q29 q17.2
def J_X11_span_53 (n : Nat) (v1 : Int32) (v2 : Int32) (v4 : Int32) (t0 : Int32) (σ : MS) : Option ((Int32 × Int32 × MS) ⊕ (XRes)) := some (.inl (t0, (v4 + (1 : Int32)), σ))
def L_X11_span_18 (n : Nat) (v1 : Int32) (v2 : Int32) (σ : MS) (a18 : Int32 × Int32 × MS) : Option ((Int32 × Int32 × MS) ⊕ (XRes)) := (if (6 : Int32) < a18.2.1 then (some (.inl a18.1, a18.2.2)).map Sum.inr else ((f_X11_tryDays n v1 a18.2.1 a18.2.2).bind (fun q29 => (if v2 = 0 then J_X11_span_53 n v1 v2 a18.2.1 (mnI a18.1 q29.1) q29.2 else J_X11_span_53 n v1 v2 a18.2.1 (mxI a18.1 q29.1) q29.2))))
def f_X11_span (n : Nat) (p1 : Int32) (p2 : Int32) (σ : MS) : Option (XRes) := (thn (f_X11_needNumber p1 (0 : Int32) (60 : Int32) σ) (fun v5 s5 => ((f_X11_tryDays n p1 (1 : Int32) s5).bind (fun q11 => itr (L_X11_span_18 n p1 p2 σ) n (q11.1, (2 : Int32), q11.2)))) (fun e s => some (.inr e, s)))
set_option maxRecDepth 20000 in
set_option maxHeartbeats 2000000 in
theorem c_X11_span (w : TG) (n : Nat) (p1 : Int32) (p2 : Int32) (σ : MS) : MX m_X11_span w [.ref (wB w + 0), .int p1, .int p2] σ (f_X11_span n p1 p2 σ) := by
  refine VX_meth (by decide +kernel) (Nat.le_of_ble_eq_true rfl) (by intro v hv; simp only [List.mem_cons, List.not_mem_nil, or_false] at hv; rcases hv with rfl | rfl | rfl <;> rfl) (fun g x hno => ?_)
  show VV m_X11_span w g 0 0 (QX m_X11_span w g x) (fun b : XRes => b = x) 0 [some (.ref (wB w + 0)), some (.int p1), some (.int p2), none, none, none] [] σ (f_X11_span n p1 p2 σ)
  have hL18 : ∀  (n0 : Nat) (a : Int32 × Int32 × MS), VV m_X11_span w g 1 6 (QX m_X11_span w g x) (fun b : XRes => b = x) 18 [some (.ref (wB w + 0)), some (.int p1), some (.int p2), some (.int a.1), some (.int a.2.1), none] [] a.2.2 (itr (L_X11_span_18 n p1 p2 σ) n0 a) := by
    refine V_itr (vf := fun a : Int32 × Int32 × MS => [some (.ref (wB w + 0)), some (.int p1), some (.int p2), some (.int a.1), some (.int a.2.1), none]) (sf := fun a : Int32 × Int32 × MS => a.2.2) (fun κ18 b18 r18 a18 => ?_)
    obtain ⟨a18_1, a18_2, a18_3⟩ := a18
    show VV m_X11_span w g 1 6 (QX m_X11_span w g x) κ18 18 [some (.ref (wB w + 0)), some (.int p1), some (.int p2), some (.int a18_1), some (.int a18_2), none] [] a18_3 (L_X11_span_18 n p1 p2 σ (a18_1, a18_2, a18_3))
    have hJ53 : ∀ (v4 : Int32) (t0 : Int32) (σ : MS), VV m_X11_span w g 1 6 (QX m_X11_span w g x) κ18 53 [some (.ref (wB w + 0)), some (.int p1), some (.int p2), none, some (.int v4), none] [.int t0] σ (J_X11_span_53 n p1 p2 v4 t0 σ) := by
      intro v4 t0 σ
      refine V_istore_n (pc := 53) (vs' := [some (.ref (wB w + 0)), some (.int p1), some (.int p2), some (.int t0), some (.int v4), none]) dX11_span_53 rfl (Nat.le_of_ble_eq_true rfl) (Nat.le_of_ble_eq_true rfl) rfl ?_
      refine V_iincC (pc := 54) (vs' := [some (.ref (wB w + 0)), some (.int p1), some (.int p2), some (.int t0), some (.int (v4 + (1 : Int32))), none]) dX11_span_54 (Nat.le_of_ble_eq_true rfl) rfl ic_1 rfl ?_
      refine V_goto (pc := 57) (tgt := 18) dX11_span_57 (by decide +kernel) ?_
      exact V_back (b18 (t0, (v4 + (1 : Int32)), σ))
    refine V_iload (pc := 18) dX11_span_18 rfl ?_
    refine V_bipush (pc := 20) dX11_span_20 bp_6 ?_
    refine V_icmp_gt (pc := 22) (tgt := 60) dX11_span_22 (by decide +kernel) ?_ ?_
    · refine V_exit r18 ?_
      refine V_iload_n (pc := 60) dX11_span_60 rfl rfl ?_
      exact VX_ireti (pc := 61) dX11_span_61 rfl (hk := fun h => h)
    · refine V_aload_n (pc := 25) dX11_span_25 rfl rfl ?_
      refine V_iload_n (pc := 26) dX11_span_26 rfl rfl ?_
      refine V_iload (pc := 27) dX11_span_27 rfl ?_
      refine V_callVi (pc := 29) (As := [.int p1, .int a18_2]) (rest := []) (c_X11_tryDays w n p1 a18_2 a18_3) cw_X11_335 rfl rfl dX11_span_29 kc_0 ci_11 ⟨Nat.le_of_ble_eq_true rfl, Nat.le_of_ble_eq_true rfl⟩ rfl rfl (Nat.le_of_ble_eq_true rfl) (Nat.le_of_ble_eq_true rfl) (Nat.le_of_ble_eq_true rfl) rfl (fun q29 => ?_)
      refine V_istore (pc := 32) (vs' := [some (.ref (wB w + 0)), some (.int p1), some (.int p2), some (.int a18_1), some (.int a18_2), some (.int q29.1)]) dX11_span_32 (Nat.le_of_ble_eq_true rfl) (Nat.le_of_ble_eq_true rfl) rfl ?_
      refine V_iload_n (pc := 34) dX11_span_34 rfl rfl ?_
      refine V_if_eq (pc := 35) (tgt := 47) dX11_span_35 (by decide +kernel) ?_ ?_
      · refine V_iload_n (pc := 47) dX11_span_47 rfl rfl ?_
        refine V_iload (pc := 48) dX11_span_48 rfl ?_
        refine V_mmin (pc := 50) dX11_span_50 rfl mw_X11_196 (Nat.le_of_ble_eq_true rfl) (Nat.le_of_ble_eq_true rfl) (Nat.le_of_ble_eq_true rfl) (Nat.le_of_ble_eq_true rfl) ?_
        refine V_widen (kc' := 1) (ks' := 6) (Nat.le_of_ble_eq_true rfl) (Nat.le_of_ble_eq_true rfl) ?_
        refine V_sub (vs' := [some (.ref (wB w + 0)), some (.int p1), some (.int p2), none, some (.int a18_2), none]) (show vless _ _ from ⟨rfl, ⟨rfl, ⟨rfl, ⟨rfl, trivial⟩⟩⟩⟩) rfl ?_
        exact hJ53 a18_2 (mnI a18_1 q29.1) q29.2
      · refine V_iload_n (pc := 38) dX11_span_38 rfl rfl ?_
        refine V_iload (pc := 39) dX11_span_39 rfl ?_
        refine V_mmax (pc := 41) dX11_span_41 rfl mw_X11_201 (Nat.le_of_ble_eq_true rfl) (Nat.le_of_ble_eq_true rfl) (Nat.le_of_ble_eq_true rfl) (Nat.le_of_ble_eq_true rfl) ?_
        refine V_goto (pc := 44) (tgt := 53) dX11_span_44 (by decide +kernel) ?_
        refine V_widen (kc' := 1) (ks' := 6) (Nat.le_of_ble_eq_true rfl) (Nat.le_of_ble_eq_true rfl) ?_
        refine V_sub (vs' := [some (.ref (wB w + 0)), some (.int p1), some (.int p2), none, some (.int a18_2), none]) (show vless _ _ from ⟨rfl, ⟨rfl, ⟨rfl, ⟨rfl, trivial⟩⟩⟩⟩) rfl ?_
        exact hJ53 a18_2 (mxI a18_1 q29.1) q29.2
  refine V_aload_n (pc := 0) dX11_span_0 rfl rfl ?_
  refine V_iload_n (pc := 1) dX11_span_1 rfl rfl ?_
  refine V_iconst (pc := 2) dX11_span_2 ic_0 ?_
  refine V_bipush (pc := 3) dX11_span_3 bp_60 ?_
  refine VX_call (pc := 5) (As := [.int p1, .int (0 : Int32), .int (60 : Int32)]) (rest := []) hno (c_X11_needNumber w p1 (0 : Int32) (60 : Int32) σ) cw_X11_192 rfl dX11_span_5 kc_0 ci_11 ⟨Nat.le_of_ble_eq_true rfl, Nat.le_of_ble_eq_true rfl⟩ rfl rfl (Nat.le_of_ble_eq_true rfl) (Nat.le_of_ble_eq_true rfl) (Nat.le_of_ble_eq_true rfl) (fun e s b h k => by cases h; exact k) (fun v5 s5 => ?_)
  show VV m_X11_span w g 1 6 (QX m_X11_span w g x) (fun b : XRes => b = x) 8 [some (.ref (wB w + 0)), some (.int p1), some (.int p2), none, none, none] [] s5 _
  refine V_aload_n (pc := 8) dX11_span_8 rfl rfl ?_
  refine V_iload_n (pc := 9) dX11_span_9 rfl rfl ?_
  refine V_iconst (pc := 10) dX11_span_10 ic_1 ?_
  refine V_callVi (pc := 11) (As := [.int p1, .int (1 : Int32)]) (rest := []) (c_X11_tryDays w n p1 (1 : Int32) s5) cw_X11_335 rfl rfl dX11_span_11 kc_0 ci_11 ⟨Nat.le_of_ble_eq_true rfl, Nat.le_of_ble_eq_true rfl⟩ rfl rfl (Nat.le_of_ble_eq_true rfl) (Nat.le_of_ble_eq_true rfl) (Nat.le_of_ble_eq_true rfl) rfl (fun q11 => ?_)
  refine V_istore_n (pc := 14) (vs' := [some (.ref (wB w + 0)), some (.int p1), some (.int p2), some (.int q11.1), none, none]) dX11_span_14 rfl (Nat.le_of_ble_eq_true rfl) (Nat.le_of_ble_eq_true rfl) rfl ?_
  refine V_iconst (pc := 15) dX11_span_15 ic_2 ?_
  refine V_istore (pc := 16) (vs' := [some (.ref (wB w + 0)), some (.int p1), some (.int p2), some (.int q11.1), some (.int (2 : Int32)), none]) dX11_span_16 (Nat.le_of_ble_eq_true rfl) (Nat.le_of_ble_eq_true rfl) rfl ?_
  refine V_widen (kc' := 1) (ks' := 6) (Nat.le_of_ble_eq_true rfl) (Nat.le_of_ble_eq_true rfl) ?_
  exact hL18 n (q11.1, (2 : Int32), q11.2)
def J_X11_led_73 (n : Nat) (t0 : Int32) (σ : MS) : Option (XRes) := some (.inl t0, σ)
def J_X11_led_57 (n : Nat) (v1 : Int32) (v2 : Int32) (v3 : Int32) (v4 : Int32) (v5 : Int32) (σ : MS) : Option ((Int32 × Int32 × Int32) ⊕ (XRes)) := some (.inl (v3, v4, (v5 + (-1 : Int32))))
def L_X11_led_21 (n : Nat) (v1 : Int32) (v2 : Int32) (σ : MS) (a21 : Int32 × Int32 × Int32) : Option ((Int32 × Int32 × Int32) ⊕ (XRes)) := (if a21.2.2 < 0 then ((if v2 = 0 then J_X11_led_73 n a21.1 σ else J_X11_led_73 n a21.2.1 σ)).map Sum.inr else ((f_X4_rowOf 3 a21.2.2 σ).bind (fun q32 => ((f_X4_rowHas q32 v1 σ).bind (fun q40 => (if q40 = 0 then J_X11_led_57 n v1 v2 a21.1 a21.2.1 a21.2.2 σ else ((f_X4_rowPart q32 (3 : Int32) σ).bind (fun q52 => J_X11_led_57 n v1 v2 (a21.1 + (1 : Int32)) q52 a21.2.2 σ))))))))
def f_X11_led (n : Nat) (p1 : Int32) (p2 : Int32) (σ : MS) : Option (XRes) := (thn (f_X11_needPerson p1 σ) (fun v2 s2 => ((f_X4_rows 3 s2).bind (fun q14 => itr (L_X11_led_21 n p1 p2 s2) n ((0 : Int32), (-1 : Int32), (q14 - (1 : Int32)))))) (fun e s => some (.inr e, s)))
set_option maxRecDepth 20000 in
set_option maxHeartbeats 2000000 in
theorem c_X11_led (w : TG) (n : Nat) (p1 : Int32) (p2 : Int32) (σ : MS) : MX m_X11_led w [.ref (wB w + 0), .int p1, .int p2] σ (f_X11_led n p1 p2 σ) := by
  refine VX_meth (by decide +kernel) (Nat.le_of_ble_eq_true rfl) (by intro v hv; simp only [List.mem_cons, List.not_mem_nil, or_false] at hv; rcases hv with rfl | rfl | rfl <;> rfl) (fun g x hno => ?_)
  show VV m_X11_led w g 0 0 (QX m_X11_led w g x) (fun b : XRes => b = x) 0 [some (.ref (wB w + 0)), some (.int p1), some (.int p2), none, none, none, none] [] σ (f_X11_led n p1 p2 σ)
  have hJ73 : ∀ (t0 : Int32) (σ : MS), VV m_X11_led w g 1 6 (QX m_X11_led w g x) (fun b : XRes => b = x) 73 [none, none, none, none, none, none, none] [.int t0] σ (J_X11_led_73 n t0 σ) := by
    intro t0 σ
    exact VX_ireti (pc := 73) dX11_led_73 rfl (hk := fun h => h)
  have hL21 : ∀ (σ : MS) (n0 : Nat) (a : Int32 × Int32 × Int32), VV m_X11_led w g 1 6 (QX m_X11_led w g x) (fun b : XRes => b = x) 21 [some (.ref (wB w + 0)), some (.int p1), some (.int p2), some (.int a.1), some (.int a.2.1), some (.int a.2.2), none] [] σ (itr (L_X11_led_21 n p1 p2 σ) n0 a) := by
    intro σ
    refine V_itr (vf := fun a : Int32 × Int32 × Int32 => [some (.ref (wB w + 0)), some (.int p1), some (.int p2), some (.int a.1), some (.int a.2.1), some (.int a.2.2), none]) (sf := fun a : Int32 × Int32 × Int32 => σ) (fun κ21 b21 r21 a21 => ?_)
    obtain ⟨a21_1, a21_2, a21_3⟩ := a21
    show VV m_X11_led w g 1 6 (QX m_X11_led w g x) κ21 21 [some (.ref (wB w + 0)), some (.int p1), some (.int p2), some (.int a21_1), some (.int a21_2), some (.int a21_3), none] [] σ (L_X11_led_21 n p1 p2 σ (a21_1, a21_2, a21_3))
    have hJ57 : ∀ (v3 : Int32) (v4 : Int32) (v5 : Int32), VV m_X11_led w g 1 6 (QX m_X11_led w g x) κ21 57 [some (.ref (wB w + 0)), some (.int p1), some (.int p2), some (.int v3), some (.int v4), some (.int v5), none] [] σ (J_X11_led_57 n p1 p2 v3 v4 v5 σ) := by
      intro v3 v4 v5
      refine V_iincC (pc := 57) (vs' := [some (.ref (wB w + 0)), some (.int p1), some (.int p2), some (.int v3), some (.int v4), some (.int (v5 + (-1 : Int32))), none]) dX11_led_57 (Nat.le_of_ble_eq_true rfl) rfl ic_m1 rfl ?_
      refine V_goto (pc := 60) (tgt := 21) dX11_led_60 (by decide +kernel) ?_
      exact V_back (b21 (v3, v4, (v5 + (-1 : Int32))))
    refine V_iload (pc := 21) dX11_led_21 rfl ?_
    refine V_if_lt (pc := 23) (tgt := 63) dX11_led_23 (by decide +kernel) ?_ ?_
    · refine V_exit r21 ?_
      refine V_iload_n (pc := 63) dX11_led_63 rfl rfl ?_
      refine V_if_eq (pc := 64) (tgt := 72) dX11_led_64 (by decide +kernel) ?_ ?_
      · refine V_iload_n (pc := 72) dX11_led_72 rfl rfl ?_
        refine V_widen (kc' := 1) (ks' := 6) (Nat.le_of_ble_eq_true rfl) (Nat.le_of_ble_eq_true rfl) ?_
        refine V_sub (vs' := [none, none, none, none, none, none, none]) (show vless _ _ from trivial) rfl ?_
        exact hJ73 a21_1 σ
      · refine V_iload (pc := 67) dX11_led_67 rfl ?_
        refine V_goto (pc := 69) (tgt := 73) dX11_led_69 (by decide +kernel) ?_
        refine V_widen (kc' := 1) (ks' := 6) (Nat.le_of_ble_eq_true rfl) (Nat.le_of_ble_eq_true rfl) ?_
        refine V_sub (vs' := [none, none, none, none, none, none, none]) (show vless _ _ from trivial) rfl ?_
        exact hJ73 a21_2 σ
    · refine V_aload_n (pc := 26) dX11_led_26 rfl rfl ?_
      refine V_getr (pc := 27) (t := 3) fk_X11_19 rfl dX11_led_27 kc_0 rf_11_1_0 ?_
      refine V_iload (pc := 30) dX11_led_30 rfl ?_
      refine V_callVpi (pc := 32) (As := [.int a21_3]) (rest := []) (c_X4_rowOf w 3 a21_3 kc_3 σ) cw_X11_344 rfl rfl dX11_led_32 kc_3 ci_4 ⟨Nat.le_of_ble_eq_true rfl, Nat.le_of_ble_eq_true rfl⟩ rfl rfl (Nat.le_of_ble_eq_true rfl) (Nat.le_of_ble_eq_true rfl) (Nat.le_of_ble_eq_true rfl) rfl (fun q32 => ?_)
      refine V_istore (pc := 35) (vs' := [some (.ref (wB w + 0)), some (.int p1), some (.int p2), some (.int a21_1), some (.int a21_2), some (.int a21_3), some (.int q32)]) dX11_led_35 (Nat.le_of_ble_eq_true rfl) (Nat.le_of_ble_eq_true rfl) rfl ?_
      refine V_iload (pc := 37) dX11_led_37 rfl ?_
      refine V_iload_n (pc := 39) dX11_led_39 rfl rfl ?_
      refine V_callSpi (pc := 40) (As := [.int q32, .int p1]) (rest := []) (c_X4_rowHas w q32 p1 σ) cs_X11_347 rfl rfl dX11_led_40 ⟨Nat.le_of_ble_eq_true rfl, Nat.le_of_ble_eq_true rfl⟩ rfl rfl (Nat.le_of_ble_eq_true rfl) (Nat.le_of_ble_eq_true rfl) (Nat.le_of_ble_eq_true rfl) rfl (fun q40 => ?_)
      refine V_if_eq (pc := 43) (tgt := 57) dX11_led_43 (by decide +kernel) ?_ ?_
      · refine V_widen (kc' := 1) (ks' := 6) (Nat.le_of_ble_eq_true rfl) (Nat.le_of_ble_eq_true rfl) ?_
        refine V_sub (vs' := [some (.ref (wB w + 0)), some (.int p1), some (.int p2), some (.int a21_1), some (.int a21_2), some (.int a21_3), none]) (show vless _ _ from ⟨rfl, ⟨rfl, ⟨rfl, ⟨rfl, ⟨rfl, ⟨rfl, trivial⟩⟩⟩⟩⟩⟩) rfl ?_
        exact hJ57 a21_1 a21_2 a21_3
      · refine V_iincC (pc := 46) (vs' := [some (.ref (wB w + 0)), some (.int p1), some (.int p2), some (.int (a21_1 + (1 : Int32))), some (.int a21_2), some (.int a21_3), some (.int q32)]) dX11_led_46 (Nat.le_of_ble_eq_true rfl) rfl ic_1 rfl ?_
        refine V_iload (pc := 49) dX11_led_49 rfl ?_
        refine V_iconst (pc := 51) dX11_led_51 ic_3 ?_
        refine V_callSpi (pc := 52) (As := [.int q32, .int (3 : Int32)]) (rest := []) (c_X4_rowPart w q32 (3 : Int32) σ) cs_X11_351 rfl rfl dX11_led_52 ⟨Nat.le_of_ble_eq_true rfl, Nat.le_of_ble_eq_true rfl⟩ rfl rfl (Nat.le_of_ble_eq_true rfl) (Nat.le_of_ble_eq_true rfl) (Nat.le_of_ble_eq_true rfl) rfl (fun q52 => ?_)
        refine V_istore (pc := 55) (vs' := [some (.ref (wB w + 0)), some (.int p1), some (.int p2), some (.int (a21_1 + (1 : Int32))), some (.int q52), some (.int a21_3), some (.int q32)]) dX11_led_55 (Nat.le_of_ble_eq_true rfl) (Nat.le_of_ble_eq_true rfl) rfl ?_
        refine V_widen (kc' := 1) (ks' := 6) (Nat.le_of_ble_eq_true rfl) (Nat.le_of_ble_eq_true rfl) ?_
        refine V_sub (vs' := [some (.ref (wB w + 0)), some (.int p1), some (.int p2), some (.int (a21_1 + (1 : Int32))), some (.int q52), some (.int a21_3), none]) (show vless _ _ from ⟨rfl, ⟨rfl, ⟨rfl, ⟨rfl, ⟨rfl, ⟨rfl, trivial⟩⟩⟩⟩⟩⟩) rfl ?_
        exact hJ57 (a21_1 + (1 : Int32)) q52 a21_3
  refine V_aload_n (pc := 0) dX11_led_0 rfl rfl ?_
  refine V_iload_n (pc := 1) dX11_led_1 rfl rfl ?_
  refine VX_call (pc := 2) (As := [.int p1]) (rest := []) hno (c_X11_needPerson w p1 σ) cw_X11_146 rfl dX11_led_2 kc_0 ci_11 ⟨Nat.le_of_ble_eq_true rfl, Nat.le_of_ble_eq_true rfl⟩ rfl rfl (Nat.le_of_ble_eq_true rfl) (Nat.le_of_ble_eq_true rfl) (Nat.le_of_ble_eq_true rfl) (fun e s b h k => by cases h; exact k) (fun v2 s2 => ?_)
  show VV m_X11_led w g 1 6 (QX m_X11_led w g x) (fun b : XRes => b = x) 5 [some (.ref (wB w + 0)), some (.int p1), some (.int p2), none, none, none, none] [] s2 _
  refine V_iconst (pc := 5) dX11_led_5 ic_0 ?_
  refine V_istore_n (pc := 6) (vs' := [some (.ref (wB w + 0)), some (.int p1), some (.int p2), some (.int (0 : Int32)), none, none, none]) dX11_led_6 rfl (Nat.le_of_ble_eq_true rfl) (Nat.le_of_ble_eq_true rfl) rfl ?_
  refine V_iconst (pc := 7) dX11_led_7 ic_m1 ?_
  refine V_istore (pc := 8) (vs' := [some (.ref (wB w + 0)), some (.int p1), some (.int p2), some (.int (0 : Int32)), some (.int (-1 : Int32)), none, none]) dX11_led_8 (Nat.le_of_ble_eq_true rfl) (Nat.le_of_ble_eq_true rfl) rfl ?_
  refine V_aload_n (pc := 10) dX11_led_10 rfl rfl ?_
  refine V_getr (pc := 11) (t := 3) fk_X11_19 rfl dX11_led_11 kc_0 rf_11_1_0 ?_
  refine V_callVpi (pc := 14) (As := []) (rest := []) (c_X4_rows w 3 kc_3 s2) cw_X11_341 rfl rfl dX11_led_14 kc_3 ci_4 ⟨Nat.le_of_ble_eq_true rfl, Nat.le_of_ble_eq_true rfl⟩ rfl rfl (Nat.le_of_ble_eq_true rfl) (Nat.le_of_ble_eq_true rfl) (Nat.le_of_ble_eq_true rfl) rfl (fun q14 => ?_)
  refine V_iconst (pc := 17) dX11_led_17 ic_1 ?_
  refine V_isub (pc := 18) dX11_led_18 ?_
  refine V_istore (pc := 19) (vs' := [some (.ref (wB w + 0)), some (.int p1), some (.int p2), some (.int (0 : Int32)), some (.int (-1 : Int32)), some (.int (q14 - (1 : Int32))), none]) dX11_led_19 (Nat.le_of_ble_eq_true rfl) (Nat.le_of_ble_eq_true rfl) rfl ?_
  refine V_widen (kc' := 1) (ks' := 6) (Nat.le_of_ble_eq_true rfl) (Nat.le_of_ble_eq_true rfl) ?_
  exact hL21 s2 n ((0 : Int32), (-1 : Int32), (q14 - (1 : Int32)))
def J_X11_log_32  (σ : MS) : Option (XRes) := some (.inl (-1 : Int32), σ)
def J_X11_log_9  (σ : MS) : Option (XRes) := some (.inr 2, σ)
def f_X11_log (p1 : Int32) (p2 : Int32) (σ : MS) : Option (XRes) := (if p2 < 0 then J_X11_log_9  σ else (if p2 ≤ (3 : Int32) then (if p1 < 0 then J_X11_log_32  σ else ((f_X4_rows 3 σ).bind (fun q26 => (if p1 < q26 then ((f_X4_rowOf 3 p1 σ).bind (fun q39 => ((f_X4_rowPart q39 p2 σ).bind (fun q43 => some (.inl q43, σ))))) else J_X11_log_32  σ)))) else J_X11_log_9  σ))
set_option maxRecDepth 20000 in
set_option maxHeartbeats 2000000 in
theorem c_X11_log (w : TG) (p1 : Int32) (p2 : Int32) (σ : MS) : MX m_X11_log w [.ref (wB w + 0), .int p1, .int p2] σ (f_X11_log p1 p2 σ) := by
  refine VX_meth (by decide +kernel) (Nat.le_of_ble_eq_true rfl) (by intro v hv; simp only [List.mem_cons, List.not_mem_nil, or_false] at hv; rcases hv with rfl | rfl | rfl <;> rfl) (fun g x hno => ?_)
  show VV m_X11_log w g 0 0 (QX m_X11_log w g x) (fun b : XRes => b = x) 0 [some (.ref (wB w + 0)), some (.int p1), some (.int p2)] [] σ (f_X11_log p1 p2 σ)
  have hJ32 : ∀ (σ : MS), VV m_X11_log w g 0 0 (QX m_X11_log w g x) (fun b : XRes => b = x) 32 [none, none, none] [] σ (J_X11_log_32  σ) := by
    intro σ
    refine V_iconst (pc := 32) dX11_log_32 ic_m1 ?_
    exact VX_ireti (pc := 33) dX11_log_33 rfl (hk := fun h => h)
  have hJ9 : ∀ (σ : MS), VV m_X11_log w g 0 0 (QX m_X11_log w g x) (fun b : XRes => b = x) 9 [none, none, none] [] σ (J_X11_log_9  σ) := by
    intro σ
    exact VX_throw (pc := 9) (e := 2) (names := ["java/lang/RuntimeException", "java/lang/Exception"]) hno rfl (by decide +kernel) (by decide +kernel) (by decide) tw_X11_175_177.1 tw_X11_175_177.2 dX11_log_9 dX11_log_12 dX11_log_13 dX11_log_16 (Nat.le_of_ble_eq_true rfl) (Nat.le_of_ble_eq_true rfl) (Nat.le_of_ble_eq_true rfl) (Nat.le_of_ble_eq_true rfl) (fun h => h)
  refine V_iload_n (pc := 0) dX11_log_0 rfl rfl ?_
  refine V_if_lt (pc := 1) (tgt := 9) dX11_log_1 (by decide +kernel) ?_ ?_
  · refine V_widen (kc' := 0) (ks' := 0) (Nat.le_of_ble_eq_true rfl) (Nat.le_of_ble_eq_true rfl) ?_
    refine V_sub (vs' := [none, none, none]) (show vless _ _ from trivial) rfl ?_
    exact hJ9 σ
  · refine V_iload_n (pc := 4) dX11_log_4 rfl rfl ?_
    refine V_iconst (pc := 5) dX11_log_5 ic_3 ?_
    refine V_icmp_le (pc := 6) (tgt := 17) dX11_log_6 (by decide +kernel) ?_ ?_
    · refine V_iload_n (pc := 17) dX11_log_17 rfl rfl ?_
      refine V_if_lt (pc := 18) (tgt := 32) dX11_log_18 (by decide +kernel) ?_ ?_
      · refine V_widen (kc' := 0) (ks' := 0) (Nat.le_of_ble_eq_true rfl) (Nat.le_of_ble_eq_true rfl) ?_
        refine V_sub (vs' := [none, none, none]) (show vless _ _ from trivial) rfl ?_
        exact hJ32 σ
      · refine V_iload_n (pc := 21) dX11_log_21 rfl rfl ?_
        refine V_aload_n (pc := 22) dX11_log_22 rfl rfl ?_
        refine V_getr (pc := 23) (t := 3) fk_X11_19 rfl dX11_log_23 kc_0 rf_11_1_0 ?_
        refine V_callVpi (pc := 26) (As := []) (rest := [.int p1]) (c_X4_rows w 3 kc_3 σ) cw_X11_341 rfl rfl dX11_log_26 kc_3 ci_4 ⟨Nat.le_of_ble_eq_true rfl, Nat.le_of_ble_eq_true rfl⟩ rfl rfl (Nat.le_of_ble_eq_true rfl) (Nat.le_of_ble_eq_true rfl) (Nat.le_of_ble_eq_true rfl) rfl (fun q26 => ?_)
        refine V_icmp_lt (pc := 29) (tgt := 34) dX11_log_29 (by decide +kernel) ?_ ?_
        · refine V_aload_n (pc := 34) dX11_log_34 rfl rfl ?_
          refine V_getr (pc := 35) (t := 3) fk_X11_19 rfl dX11_log_35 kc_0 rf_11_1_0 ?_
          refine V_iload_n (pc := 38) dX11_log_38 rfl rfl ?_
          refine V_callVpi (pc := 39) (As := [.int p1]) (rest := []) (c_X4_rowOf w 3 p1 kc_3 σ) cw_X11_344 rfl rfl dX11_log_39 kc_3 ci_4 ⟨Nat.le_of_ble_eq_true rfl, Nat.le_of_ble_eq_true rfl⟩ rfl rfl (Nat.le_of_ble_eq_true rfl) (Nat.le_of_ble_eq_true rfl) (Nat.le_of_ble_eq_true rfl) rfl (fun q39 => ?_)
          refine V_iload_n (pc := 42) dX11_log_42 rfl rfl ?_
          refine V_callSpi (pc := 43) (As := [.int q39, .int p2]) (rest := []) (c_X4_rowPart w q39 p2 σ) cs_X11_351 rfl rfl dX11_log_43 ⟨Nat.le_of_ble_eq_true rfl, Nat.le_of_ble_eq_true rfl⟩ rfl rfl (Nat.le_of_ble_eq_true rfl) (Nat.le_of_ble_eq_true rfl) (Nat.le_of_ble_eq_true rfl) rfl (fun q43 => ?_)
          exact VX_ireti (pc := 46) dX11_log_46 rfl (hk := fun h => h)
        · refine V_widen (kc' := 0) (ks' := 0) (Nat.le_of_ble_eq_true rfl) (Nat.le_of_ble_eq_true rfl) ?_
          refine V_sub (vs' := [none, none, none]) (show vless _ _ from trivial) rfl ?_
          exact hJ32 σ
    · refine V_widen (kc' := 0) (ks' := 0) (Nat.le_of_ble_eq_true rfl) (Nat.le_of_ble_eq_true rfl) ?_
      refine V_sub (vs' := [none, none, none]) (show vless _ _ from trivial) rfl ?_
      exact hJ9 σ
