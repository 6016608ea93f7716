def m_L_law_ : MD := (yL_law_, code, 7, some .boolean, 2048, 84000, 601024, 7293034)
theorem wm_X11_feed : wmp m_X11_feed 5 := ⟨gx 479 (by decide +kernel) (by decide +kernel), gx 480 (by decide +kernel) (by decide +kernel), gx 127 (by decide +kernel) (by decide +kernel), gx 481 (by decide +kernel) (by decide +kernel), by decide +kernel, by decide +kernel, by decide +kernel⟩
theorem cw_L_135 : cwp RL 135 m_X11_feed 5 := cwp_of wm_X11_feed (gx 478 (by decide +kernel) (by decide +kernel))
theorem wm_X12_feed : wmp m_X12_feed 5 := ⟨gx 1584 (by decide +kernel) (by decide +kernel), gx 1585 (by decide +kernel) (by decide +kernel), gx 138 (by decide +kernel) (by decide +kernel), gx 1586 (by decide +kernel) (by decide +kernel), by decide +kernel, by decide +kernel, by decide +kernel⟩
theorem cw_L_138 : cwp RL 138 m_X12_feed 5 := cwp_of wm_X12_feed (gx 1583 (by decide +kernel) (by decide +kernel))
def step_0 (n : Nat) (x1 x2 x3 x4 x5 : Int32) (σ : MS) : Option MS := ((f_X11_feed n x1 x2 x3 x4 x5 σ).bind (fun q283 => ((f_X12_feed n x1 x2 x3 x4 x5 q283.2).bind (fun q317 => (if q283.1 = q317.1 then some q317.2 else none)))))
set_option maxRecDepth 20000 in
set_option maxHeartbeats 2000000 in
theorem v_case_0 (w : TG) (g : VG) (kc ks : Nat) (Q : State → Prop) (n b0 L : Nat) (xs : Nat → Int32) (i x1 x2 x3 x4 x5 : Int32) (hkc : kc + 40 ≤ 601024) (hks : ks + 240 ≤ 7293034) (hX : va_X b0 L xs (gS g) (gS g).heap) (hb0 : b0 < (gS g).heap.size) (hbA : ¬ wA w b0) (hi1 : inb (i + (1 : Int32)) L = true) (hx1 : xs (ix (i + (1 : Int32))) = x1) (hi2 : inb (i + (2 : Int32)) L = true) (hx2 : xs (ix (i + (2 : Int32))) = x2) (hi3 : inb (i + (3 : Int32)) L = true) (hx3 : xs (ix (i + (3 : Int32))) = x3) (hi4 : inb (i + (4 : Int32)) L = true) (hx4 : xs (ix (i + (4 : Int32))) = x4) (hi5 : inb (i + (5 : Int32)) L = true) (hx5 : xs (ix (i + (5 : Int32))) = x5) (σ : MS) : VV m_L_law_ w g kc ks Q (fun s => VH m_L_law_ w g (kc + 20) (ks + 120) Q 2895 [some (.ref b0), some (.ref (wB w + 0)), some (.ref (wB w + 171)), some (.ref (wB w + 183)), some (.int i), none, none] [] s) 252 [some (.ref b0), some (.ref (wB w + 0)), some (.ref (wB w + 171)), some (.ref (wB w + 183)), some (.int i), none, none] [] σ (step_0 n x1 x2 x3 x4 x5 σ) := by
  unfold step_0
  refine V_aload_n (pc := 252) dL_law__252 rfl rfl ?_
  refine V_aload_n (pc := 253) dL_law__253 rfl rfl ?_
  refine V_iload (pc := 254) dL_law__254 rfl ?_
  refine V_iconst (pc := 256) dL_law__256 ic_1 ?_
  refine V_iadd (pc := 257) dL_law__257 ?_
  refine V_sld (pc := 258) hX hb0 hbA hi1 hx1 dL_law__258 ?_
  refine V_aload_n (pc := 259) dL_law__259 rfl rfl ?_
  refine V_iload (pc := 260) dL_law__260 rfl ?_
  refine V_iconst (pc := 262) dL_law__262 ic_2 ?_
  refine V_iadd (pc := 263) dL_law__263 ?_
  refine V_sld (pc := 264) hX hb0 hbA hi2 hx2 dL_law__264 ?_
  refine V_aload_n (pc := 265) dL_law__265 rfl rfl ?_
  refine V_iload (pc := 266) dL_law__266 rfl ?_
  refine V_iconst (pc := 268) dL_law__268 ic_3 ?_
  refine V_iadd (pc := 269) dL_law__269 ?_
  refine V_sld (pc := 270) hX hb0 hbA hi3 hx3 dL_law__270 ?_
  refine V_aload_n (pc := 271) dL_law__271 rfl rfl ?_
  refine V_iload (pc := 272) dL_law__272 rfl ?_
  refine V_iconst (pc := 274) dL_law__274 ic_4 ?_
  refine V_iadd (pc := 275) dL_law__275 ?_
  refine V_sld (pc := 276) hX hb0 hbA hi4 hx4 dL_law__276 ?_
  refine V_aload_n (pc := 277) dL_law__277 rfl rfl ?_
  refine V_iload (pc := 278) dL_law__278 rfl ?_
  refine V_iconst (pc := 280) dL_law__280 ic_5 ?_
  refine V_iadd (pc := 281) dL_law__281 ?_
  refine V_sld (pc := 282) hX hb0 hbA hi5 hx5 dL_law__282 ?_
  refine V_callVi (pc := 283) (As := [.int x1, .int x2, .int x3, .int x4, .int x5]) (rest := []) (c_X11_feed w n x1 x2 x3 x4 x5 σ) cw_L_135 rfl rfl dL_law__283 kc_0 ci_11 ⟨by simp only [m_L_law_, m_X11_feed]; omega, by simp only [m_L_law_, m_X11_feed]; omega⟩ rfl rfl (Nat.le_of_ble_eq_true rfl) (by simp only [m_L_law_]; omega) (by simp only [m_L_law_]; omega) rfl (fun q283 => ?_)
  refine V_aload_n (pc := 286) dL_law__286 rfl rfl ?_
  refine V_aload_n (pc := 287) dL_law__287 rfl rfl ?_
  refine V_iload (pc := 288) dL_law__288 rfl ?_
  refine V_iconst (pc := 290) dL_law__290 ic_1 ?_
  refine V_iadd (pc := 291) dL_law__291 ?_
  refine V_sld (pc := 292) hX hb0 hbA hi1 hx1 dL_law__292 ?_
  refine V_aload_n (pc := 293) dL_law__293 rfl rfl ?_
  refine V_iload (pc := 294) dL_law__294 rfl ?_
  refine V_iconst (pc := 296) dL_law__296 ic_2 ?_
  refine V_iadd (pc := 297) dL_law__297 ?_
  refine V_sld (pc := 298) hX hb0 hbA hi2 hx2 dL_law__298 ?_
  refine V_aload_n (pc := 299) dL_law__299 rfl rfl ?_
  refine V_iload (pc := 300) dL_law__300 rfl ?_
  refine V_iconst (pc := 302) dL_law__302 ic_3 ?_
  refine V_iadd (pc := 303) dL_law__303 ?_
  refine V_sld (pc := 304) hX hb0 hbA hi3 hx3 dL_law__304 ?_
  refine V_aload_n (pc := 305) dL_law__305 rfl rfl ?_
  refine V_iload (pc := 306) dL_law__306 rfl ?_
  refine V_iconst (pc := 308) dL_law__308 ic_4 ?_
  refine V_iadd (pc := 309) dL_law__309 ?_
  refine V_sld (pc := 310) hX hb0 hbA hi4 hx4 dL_law__310 ?_
  refine V_aload_n (pc := 311) dL_law__311 rfl rfl ?_
  refine V_iload (pc := 312) dL_law__312 rfl ?_
  refine V_iconst (pc := 314) dL_law__314 ic_5 ?_
  refine V_iadd (pc := 315) dL_law__315 ?_
  refine V_sld (pc := 316) hX hb0 hbA hi5 hx5 dL_law__316 ?_
  refine V_callVi (pc := 317) (As := [.int x1, .int x2, .int x3, .int x4, .int x5]) (rest := [.int q283.1]) (c_X12_feed w n x1 x2 x3 x4 x5 q283.2) cw_L_138 rfl rfl dL_law__317 kc_171 ci_12 ⟨by simp only [m_L_law_, m_X12_feed]; omega, by simp only [m_L_law_, m_X12_feed]; omega⟩ rfl rfl (Nat.le_of_ble_eq_true rfl) (by simp only [m_L_law_]; omega) (by simp only [m_L_law_]; omega) rfl (fun q317 => ?_)
  refine V_icmp_eq (pc := 320) (tgt := 2895) dL_law__320 (by decide +kernel) ?_ ?_
  · refine V_widen (kc' := kc + 20) (ks' := ks + 120) (by omega) (by omega) ?_
    exact V_back (fun h => h)
  · refine V_iconst (pc := 323) dL_law__323 ic_0 ?_
    exact V_none
theorem wm_X11_end : wmp m_X11_end 1 := ⟨gx 487 (by decide +kernel) (by decide +kernel), gx 488 (by decide +kernel) (by decide +kernel), gx 127 (by decide +kernel) (by decide +kernel), gx 489 (by decide +kernel) (by decide +kernel), by decide +kernel, by decide +kernel, by decide +kernel⟩
theorem cw_L_139 : cwp RL 139 m_X11_end 1 := cwp_of wm_X11_end (gx 486 (by decide +kernel) (by decide +kernel))
theorem wm_X12_end : wmp m_X12_end 1 := ⟨gx 1588 (by decide +kernel) (by decide +kernel), gx 1589 (by decide +kernel) (by decide +kernel), gx 138 (by decide +kernel) (by decide +kernel), gx 1590 (by decide +kernel) (by decide +kernel), by decide +kernel, by decide +kernel, by decide +kernel⟩
theorem cw_L_143 : cwp RL 143 m_X12_end 1 := cwp_of wm_X12_end (gx 1587 (by decide +kernel) (by decide +kernel))
def step_1 (n : Nat) (x1 x2 x3 x4 x5 : Int32) (σ : MS) : Option MS := ((f_X11_end x1 σ).bind (fun q332 => ((f_X12_end x1 q332.2).bind (fun q342 => (if q332.1 = q342.1 then some q342.2 else none)))))
set_option maxRecDepth 20000 in
set_option maxHeartbeats 2000000 in
theorem v_case_1 (w : TG) (g : VG) (kc ks : Nat) (Q : State → Prop) (n b0 L : Nat) (xs : Nat → Int32) (i x1 x2 x3 x4 x5 : Int32) (hkc : kc + 40 ≤ 601024) (hks : ks + 240 ≤ 7293034) (hX : va_X b0 L xs (gS g) (gS g).heap) (hb0 : b0 < (gS g).heap.size) (hbA : ¬ wA w b0) (hi1 : inb (i + (1 : Int32)) L = true) (hx1 : xs (ix (i + (1 : Int32))) = x1) (hi2 : inb (i + (2 : Int32)) L = true) (hx2 : xs (ix (i + (2 : Int32))) = x2) (hi3 : inb (i + (3 : Int32)) L = true) (hx3 : xs (ix (i + (3 : Int32))) = x3) (hi4 : inb (i + (4 : Int32)) L = true) (hx4 : xs (ix (i + (4 : Int32))) = x4) (hi5 : inb (i + (5 : Int32)) L = true) (hx5 : xs (ix (i + (5 : Int32))) = x5) (σ : MS) : VV m_L_law_ w g kc ks Q (fun s => VH m_L_law_ w g (kc + 20) (ks + 120) Q 2895 [some (.ref b0), some (.ref (wB w + 0)), some (.ref (wB w + 171)), some (.ref (wB w + 183)), some (.int i), none, none] [] s) 325 [some (.ref b0), some (.ref (wB w + 0)), some (.ref (wB w + 171)), some (.ref (wB w + 183)), some (.int i), none, none] [] σ (step_1 n x1 x2 x3 x4 x5 σ) := by
  unfold step_1
  refine V_aload_n (pc := 325) dL_law__325 rfl rfl ?_
  refine V_aload_n (pc := 326) dL_law__326 rfl rfl ?_
  refine V_iload (pc := 327) dL_law__327 rfl ?_
  refine V_iconst (pc := 329) dL_law__329 ic_1 ?_
  refine V_iadd (pc := 330) dL_law__330 ?_
  refine V_sld (pc := 331) hX hb0 hbA hi1 hx1 dL_law__331 ?_
  refine V_callVi (pc := 332) (As := [.int x1]) (rest := []) (c_X11_end w x1 σ) cw_L_139 rfl rfl dL_law__332 kc_0 ci_11 ⟨by simp only [m_L_law_, m_X11_end]; omega, by simp only [m_L_law_, m_X11_end]; omega⟩ rfl rfl (Nat.le_of_ble_eq_true rfl) (by simp only [m_L_law_]; omega) (by simp only [m_L_law_]; omega) rfl (fun q332 => ?_)
  refine V_aload_n (pc := 335) dL_law__335 rfl rfl ?_
  refine V_aload_n (pc := 336) dL_law__336 rfl rfl ?_
  refine V_iload (pc := 337) dL_law__337 rfl ?_
  refine V_iconst (pc := 339) dL_law__339 ic_1 ?_
  refine V_iadd (pc := 340) dL_law__340 ?_
  refine V_sld (pc := 341) hX hb0 hbA hi1 hx1 dL_law__341 ?_
  refine V_callVi (pc := 342) (As := [.int x1]) (rest := [.int q332.1]) (c_X12_end w x1 q332.2) cw_L_143 rfl rfl dL_law__342 kc_171 ci_12 ⟨by simp only [m_L_law_, m_X12_end]; omega, by simp only [m_L_law_, m_X12_end]; omega⟩ rfl rfl (Nat.le_of_ble_eq_true rfl) (by simp only [m_L_law_]; omega) (by simp only [m_L_law_]; omega) rfl (fun q342 => ?_)
  refine V_icmp_eq (pc := 345) (tgt := 2895) dL_law__345 (by decide +kernel) ?_ ?_
  · refine V_widen (kc' := kc + 20) (ks' := ks + 120) (by omega) (by omega) ?_
    exact V_back (fun h => h)
  · refine V_iconst (pc := 348) dL_law__348 ic_0 ?_
    exact V_none
theorem cl_144 : csw RL 144 m_L_house [(0, 8, 11, 13), (0, 8, 14, 15)] 2 := ⟨goodIn_of _ (by decide +kernel), by decide +kernel, by decide +kernel, by decide +kernel⟩
theorem wm_X12_house : wmp m_X12_house 0 := ⟨gx 1596 (by decide +kernel) (by decide +kernel), gx 1597 (by decide +kernel) (by decide +kernel), gx 138 (by decide +kernel) (by decide +kernel), gx 1598 (by decide +kernel) (by decide +kernel), by decide +kernel, by decide +kernel, by decide +kernel⟩
theorem cw_L_149 : cwp RL 149 m_X12_house 0 := cwp_of wm_X12_house (gx 1595 (by decide +kernel) (by decide +kernel))
theorem wm_X12_thrown : wmp m_X12_thrown 0 := ⟨gx 1486 (by decide +kernel) (by decide +kernel), gx 1487 (by decide +kernel) (by decide +kernel), gx 138 (by decide +kernel) (by decide +kernel), gx 1488 (by decide +kernel) (by decide +kernel), by decide +kernel, by decide +kernel, by decide +kernel⟩
theorem cw_L_150 : cwp RL 150 m_X12_thrown 0 := cwp_of wm_X12_thrown (gx 1485 (by decide +kernel) (by decide +kernel))
def J_L_law__391 (n : Nat) (x1 x2 x3 x4 x5 : Int32) (σ : MS) : Option (MS) := some σ
def step_2 (n : Nat) (x1 x2 x3 x4 x5 : Int32) (σ : MS) : Option MS := ((f_L_house n  σ).bind (fun q352 => ((f_X12_house n  q352.2).bind (fun q358 => ((f_X12_thrown  q358.2).bind (fun q364 => (if q364 = q352.1 then (if q352.1 = 0 then (if (q358.2 183 0) = q358.1 then J_L_law__391 n x1 x2 x3 x4 x5 q358.2 else none) else J_L_law__391 n x1 x2 x3 x4 x5 q358.2) else none)))))))
set_option maxRecDepth 20000 in
set_option maxHeartbeats 2000000 in
theorem v_case_2 (w : TG) (g : VG) (kc ks : Nat) (Q : State → Prop) (n b0 L : Nat) (xs : Nat → Int32) (i x1 x2 x3 x4 x5 : Int32) (hkc : kc + 40 ≤ 601024) (hks : ks + 240 ≤ 7293034) (hX : va_X b0 L xs (gS g) (gS g).heap) (hb0 : b0 < (gS g).heap.size) (hbA : ¬ wA w b0) (hi1 : inb (i + (1 : Int32)) L = true) (hx1 : xs (ix (i + (1 : Int32))) = x1) (hi2 : inb (i + (2 : Int32)) L = true) (hx2 : xs (ix (i + (2 : Int32))) = x2) (hi3 : inb (i + (3 : Int32)) L = true) (hx3 : xs (ix (i + (3 : Int32))) = x3) (hi4 : inb (i + (4 : Int32)) L = true) (hx4 : xs (ix (i + (4 : Int32))) = x4) (hi5 : inb (i + (5 : Int32)) L = true) (hx5 : xs (ix (i + (5 : Int32))) = x5) (σ : MS) : VV m_L_law_ w g kc ks Q (fun s => VH m_L_law_ w g (kc + 20) (ks + 120) Q 2895 [some (.ref b0), some (.ref (wB w + 0)), some (.ref (wB w + 171)), some (.ref (wB w + 183)), some (.int i), none, none] [] s) 350 [some (.ref b0), some (.ref (wB w + 0)), some (.ref (wB w + 171)), some (.ref (wB w + 183)), some (.int i), none, none] [] σ (step_2 n x1 x2 x3 x4 x5 σ) := by
  unfold step_2
  have hJ391 : ∀ (σ : MS), VV m_L_law_ w g (kc + 1) (ks + 6) Q (fun s => VH m_L_law_ w g (kc + 20) (ks + 120) Q 2895 [some (.ref b0), some (.ref (wB w + 0)), some (.ref (wB w + 171)), some (.ref (wB w + 183)), some (.int i), none, none] [] s) 391 [some (.ref b0), some (.ref (wB w + 0)), some (.ref (wB w + 171)), some (.ref (wB w + 183)), some (.int i), none, none] [] σ (J_L_law__391 n x1 x2 x3 x4 x5 σ) := by
    intro σ
    refine V_goto (pc := 391) (tgt := 2895) dL_law__391 (by decide +kernel) ?_
    refine V_widen (kc' := kc + 20) (ks' := ks + 120) (by omega) (by omega) ?_
    exact V_back (fun h => h)
  refine V_aload_n (pc := 350) dL_law__350 rfl rfl ?_
  refine V_aload_n (pc := 351) dL_law__351 rfl rfl ?_
  refine V_callW (pc := 352) (As := [.ref (wB w + 0), .ref (wB w + 183)]) (rest := []) (c_L_house w n  σ) cl_144 rfl rfl dL_law__352 ⟨by simp only [m_L_law_, m_L_house]; omega, by simp only [m_L_law_, m_L_house]; omega⟩ rfl rfl (Nat.le_of_ble_eq_true rfl) (by simp only [m_L_law_, m_L_house]; omega) (by simp only [m_L_law_, m_L_house]; omega) (fun q352 => ?_)
  show VV m_L_law_ w g (kc + 1) (ks + 6) Q (fun s => VH m_L_law_ w g (kc + 20) (ks + 120) Q 2895 [some (.ref b0), some (.ref (wB w + 0)), some (.ref (wB w + 171)), some (.ref (wB w + 183)), some (.int i), none, none] [] s) 355 [some (.ref b0), some (.ref (wB w + 0)), some (.ref (wB w + 171)), some (.ref (wB w + 183)), some (.int i), none, none] [.int q352.1] q352.2 _
  refine V_istore (pc := 355) (vs' := [some (.ref b0), some (.ref (wB w + 0)), some (.ref (wB w + 171)), some (.ref (wB w + 183)), some (.int i), some (.int q352.1), none]) dL_law__355 (Nat.le_of_ble_eq_true rfl) (Nat.le_of_ble_eq_true rfl) rfl ?_
  refine V_aload_n (pc := 357) dL_law__357 rfl rfl ?_
  refine V_callVi (pc := 358) (As := []) (rest := []) (c_X12_house w n  q352.2) cw_L_149 rfl rfl dL_law__358 kc_171 ci_12 ⟨by simp only [m_L_law_, m_X12_house]; omega, by simp only [m_L_law_, m_X12_house]; omega⟩ rfl rfl (Nat.le_of_ble_eq_true rfl) (by simp only [m_L_law_]; omega) (by simp only [m_L_law_]; omega) rfl (fun q358 => ?_)
  refine V_istore (pc := 361) (vs' := [some (.ref b0), some (.ref (wB w + 0)), some (.ref (wB w + 171)), some (.ref (wB w + 183)), some (.int i), some (.int q352.1), some (.int q358.1)]) dL_law__361 (Nat.le_of_ble_eq_true rfl) (Nat.le_of_ble_eq_true rfl) rfl ?_
  refine V_aload_n (pc := 363) dL_law__363 rfl rfl ?_
  refine V_callVpi (pc := 364) (As := []) (rest := []) (c_X12_thrown w  q358.2) cw_L_150 rfl rfl dL_law__364 kc_171 ci_12 ⟨by simp only [m_L_law_, m_X12_thrown]; omega, by simp only [m_L_law_, m_X12_thrown]; omega⟩ rfl rfl (Nat.le_of_ble_eq_true rfl) (by simp only [m_L_law_]; omega) (by simp only [m_L_law_]; omega) rfl (fun q364 => ?_)
  refine V_iload (pc := 367) dL_law__367 rfl ?_
  refine V_icmp_eq (pc := 369) (tgt := 374) dL_law__369 (by decide +kernel) ?_ ?_
  · refine V_iload (pc := 374) dL_law__374 rfl ?_
    refine V_if_ne (pc := 376) (tgt := 391) dL_law__376 (by decide +kernel) ?_ ?_
    · refine V_sub (vs' := [some (.ref b0), some (.ref (wB w + 0)), some (.ref (wB w + 171)), some (.ref (wB w + 183)), some (.int i), none, none]) (show vless _ _ from ⟨rfl, ⟨rfl, ⟨rfl, ⟨rfl, ⟨rfl, trivial⟩⟩⟩⟩⟩) rfl ?_
      exact hJ391 q358.2
    · refine V_aload_n (pc := 379) dL_law__379 rfl rfl ?_
      refine V_iconst (pc := 380) dL_law__380 ic_0 ?_
      refine V_lald (pc := 381) dL_law__381 ?_
      refine V_iload (pc := 382) dL_law__382 rfl ?_
      refine V_i2l (pc := 384) dL_law__384 ?_
      refine V_lcmpeq (pc := 385) (tgt := 391) dL_law__385 dL_law__386 (by decide) ?_ ?_
      · refine V_sub (vs' := [some (.ref b0), some (.ref (wB w + 0)), some (.ref (wB w + 171)), some (.ref (wB w + 183)), some (.int i), none, none]) (show vless _ _ from ⟨rfl, ⟨rfl, ⟨rfl, ⟨rfl, ⟨rfl, trivial⟩⟩⟩⟩⟩) rfl ?_
        exact hJ391 q358.2
      · refine V_iconst (pc := 389) dL_law__389 ic_0 ?_
        exact V_none
  · refine V_iconst (pc := 372) dL_law__372 ic_0 ?_
    exact V_none
theorem cl_153 : csw RL 153 m_L_law [(0, 8, 11, 13)] 2 := ⟨goodIn_of _ (by decide +kernel), by decide +kernel, by decide +kernel, by decide +kernel⟩
theorem wm_X12_law : wmp m_X12_law 0 := ⟨gx 1772 (by decide +kernel) (by decide +kernel), gx 1773 (by decide +kernel) (by decide +kernel), gx 138 (by decide +kernel) (by decide +kernel), gx 1774 (by decide +kernel) (by decide +kernel), by decide +kernel, by decide +kernel, by decide +kernel⟩
theorem cw_L_155 : cwp RL 155 m_X12_law 0 := cwp_of wm_X12_law (gx 1771 (by decide +kernel) (by decide +kernel))
def J_L_law__435 (n : Nat) (x1 x2 x3 x4 x5 : Int32) (σ : MS) : Option (MS) := some σ
def step_3 (n : Nat) (x1 x2 x3 x4 x5 : Int32) (σ : MS) : Option MS := ((f_L_law n  σ).bind (fun q396 => ((f_X12_law n  q396.2).bind (fun q402 => ((f_X12_thrown  q402.2).bind (fun q408 => (if q408 = q396.1 then (if q396.1 = 0 then (if (q402.2 183 0) = q402.1 then J_L_law__435 n x1 x2 x3 x4 x5 q402.2 else none) else J_L_law__435 n x1 x2 x3 x4 x5 q402.2) else none)))))))
set_option maxRecDepth 20000 in
set_option maxHeartbeats 2000000 in
theorem v_case_3 (w : TG) (g : VG) (kc ks : Nat) (Q : State → Prop) (n b0 L : Nat) (xs : Nat → Int32) (i x1 x2 x3 x4 x5 : Int32) (hkc : kc + 40 ≤ 601024) (hks : ks + 240 ≤ 7293034) (hX : va_X b0 L xs (gS g) (gS g).heap) (hb0 : b0 < (gS g).heap.size) (hbA : ¬ wA w b0) (hi1 : inb (i + (1 : Int32)) L = true) (hx1 : xs (ix (i + (1 : Int32))) = x1) (hi2 : inb (i + (2 : Int32)) L = true) (hx2 : xs (ix (i + (2 : Int32))) = x2) (hi3 : inb (i + (3 : Int32)) L = true) (hx3 : xs (ix (i + (3 : Int32))) = x3) (hi4 : inb (i + (4 : Int32)) L = true) (hx4 : xs (ix (i + (4 : Int32))) = x4) (hi5 : inb (i + (5 : Int32)) L = true) (hx5 : xs (ix (i + (5 : Int32))) = x5) (σ : MS) : VV m_L_law_ w g kc ks Q (fun s => VH m_L_law_ w g (kc + 20) (ks + 120) Q 2895 [some (.ref b0), some (.ref (wB w + 0)), some (.ref (wB w + 171)), some (.ref (wB w + 183)), some (.int i), none, none] [] s) 394 [some (.ref b0), some (.ref (wB w + 0)), some (.ref (wB w + 171)), some (.ref (wB w + 183)), some (.int i), none, none] [] σ (step_3 n x1 x2 x3 x4 x5 σ) := by
  unfold step_3
  have hJ435 : ∀ (σ : MS), VV m_L_law_ w g (kc + 1) (ks + 6) Q (fun s => VH m_L_law_ w g (kc + 20) (ks + 120) Q 2895 [some (.ref b0), some (.ref (wB w + 0)), some (.ref (wB w + 171)), some (.ref (wB w + 183)), some (.int i), none, none] [] s) 435 [some (.ref b0), some (.ref (wB w + 0)), some (.ref (wB w + 171)), some (.ref (wB w + 183)), some (.int i), none, none] [] σ (J_L_law__435 n x1 x2 x3 x4 x5 σ) := by
    intro σ
    refine V_goto (pc := 435) (tgt := 2895) dL_law__435 (by decide +kernel) ?_
    refine V_widen (kc' := kc + 20) (ks' := ks + 120) (by omega) (by omega) ?_
    exact V_back (fun h => h)
  refine V_aload_n (pc := 394) dL_law__394 rfl rfl ?_
  refine V_aload_n (pc := 395) dL_law__395 rfl rfl ?_
  refine V_callW (pc := 396) (As := [.ref (wB w + 0), .ref (wB w + 183)]) (rest := []) (c_L_law w n  σ) cl_153 rfl rfl dL_law__396 ⟨by simp only [m_L_law_, m_L_law]; omega, by simp only [m_L_law_, m_L_law]; omega⟩ rfl rfl (Nat.le_of_ble_eq_true rfl) (by simp only [m_L_law_, m_L_law]; omega) (by simp only [m_L_law_, m_L_law]; omega) (fun q396 => ?_)
  show VV m_L_law_ w g (kc + 1) (ks + 6) Q (fun s => VH m_L_law_ w g (kc + 20) (ks + 120) Q 2895 [some (.ref b0), some (.ref (wB w + 0)), some (.ref (wB w + 171)), some (.ref (wB w + 183)), some (.int i), none, none] [] s) 399 [some (.ref b0), some (.ref (wB w + 0)), some (.ref (wB w + 171)), some (.ref (wB w + 183)), some (.int i), none, none] [.int q396.1] q396.2 _
  refine V_istore (pc := 399) (vs' := [some (.ref b0), some (.ref (wB w + 0)), some (.ref (wB w + 171)), some (.ref (wB w + 183)), some (.int i), some (.int q396.1), none]) dL_law__399 (Nat.le_of_ble_eq_true rfl) (Nat.le_of_ble_eq_true rfl) rfl ?_
  refine V_aload_n (pc := 401) dL_law__401 rfl rfl ?_
  refine V_callVi (pc := 402) (As := []) (rest := []) (c_X12_law w n  q396.2) cw_L_155 rfl rfl dL_law__402 kc_171 ci_12 ⟨by simp only [m_L_law_, m_X12_law]; omega, by simp only [m_L_law_, m_X12_law]; omega⟩ rfl rfl (Nat.le_of_ble_eq_true rfl) (by simp only [m_L_law_]; omega) (by simp only [m_L_law_]; omega) rfl (fun q402 => ?_)
  refine V_istore (pc := 405) (vs' := [some (.ref b0), some (.ref (wB w + 0)), some (.ref (wB w + 171)), some (.ref (wB w + 183)), some (.int i), some (.int q396.1), some (.int q402.1)]) dL_law__405 (Nat.le_of_ble_eq_true rfl) (Nat.le_of_ble_eq_true rfl) rfl ?_
  refine V_aload_n (pc := 407) dL_law__407 rfl rfl ?_
  refine V_callVpi (pc := 408) (As := []) (rest := []) (c_X12_thrown w  q402.2) cw_L_150 rfl rfl dL_law__408 kc_171 ci_12 ⟨by simp only [m_L_law_, m_X12_thrown]; omega, by simp only [m_L_law_, m_X12_thrown]; omega⟩ rfl rfl (Nat.le_of_ble_eq_true rfl) (by simp only [m_L_law_]; omega) (by simp only [m_L_law_]; omega) rfl (fun q408 => ?_)
  refine V_iload (pc := 411) dL_law__411 rfl ?_
  refine V_icmp_eq (pc := 413) (tgt := 418) dL_law__413 (by decide +kernel) ?_ ?_
  · refine V_iload (pc := 418) dL_law__418 rfl ?_
    refine V_if_ne (pc := 420) (tgt := 435) dL_law__420 (by decide +kernel) ?_ ?_
    · refine V_sub (vs' := [some (.ref b0), some (.ref (wB w + 0)), some (.ref (wB w + 171)), some (.ref (wB w + 183)), some (.int i), none, none]) (show vless _ _ from ⟨rfl, ⟨rfl, ⟨rfl, ⟨rfl, ⟨rfl, trivial⟩⟩⟩⟩⟩) rfl ?_
      exact hJ435 q402.2
    · refine V_aload_n (pc := 423) dL_law__423 rfl rfl ?_
      refine V_iconst (pc := 424) dL_law__424 ic_0 ?_
      refine V_lald (pc := 425) dL_law__425 ?_
      refine V_iload (pc := 426) dL_law__426 rfl ?_
      refine V_i2l (pc := 428) dL_law__428 ?_
      refine V_lcmpeq (pc := 429) (tgt := 435) dL_law__429 dL_law__430 (by decide) ?_ ?_
      · refine V_sub (vs' := [some (.ref b0), some (.ref (wB w + 0)), some (.ref (wB w + 171)), some (.ref (wB w + 183)), some (.int i), none, none]) (show vless _ _ from ⟨rfl, ⟨rfl, ⟨rfl, ⟨rfl, ⟨rfl, trivial⟩⟩⟩⟩⟩) rfl ?_
        exact hJ435 q402.2
      · refine V_iconst (pc := 433) dL_law__433 ic_0 ?_
        exact V_none
  · refine V_iconst (pc := 416) dL_law__416 ic_0 ?_
    exact V_none
theorem wm_X11_fault : wmp m_X11_fault 0 := ⟨gx 491 (by decide +kernel) (by decide +kernel), gx 492 (by decide +kernel) (by decide +kernel), gx 127 (by decide +kernel) (by decide +kernel), gx 493 (by decide +kernel) (by decide +kernel), by decide +kernel, by decide +kernel, by decide +kernel⟩
theorem cw_L_156 : cwp RL 156 m_X11_fault 0 := cwp_of wm_X11_fault (gx 490 (by decide +kernel) (by decide +kernel))
theorem wm_X12_fault : wmp m_X12_fault 0 := ⟨gx 1592 (by decide +kernel) (by decide +kernel), gx 1593 (by decide +kernel) (by decide +kernel), gx 138 (by decide +kernel) (by decide +kernel), gx 1594 (by decide +kernel) (by decide +kernel), by decide +kernel, by decide +kernel, by decide +kernel⟩
theorem cw_L_159 : cwp RL 159 m_X12_fault 0 := cwp_of wm_X12_fault (gx 1591 (by decide +kernel) (by decide +kernel))
def step_4 (n : Nat) (x1 x2 x3 x4 x5 : Int32) (σ : MS) : Option MS := ((f_X11_fault  σ).bind (fun q439 => ((f_X12_fault  σ).bind (fun q443 => (if q439 = q443.1 then some q443.2 else none)))))
set_option maxRecDepth 20000 in
set_option maxHeartbeats 2000000 in
theorem v_case_4 (w : TG) (g : VG) (kc ks : Nat) (Q : State → Prop) (n b0 L : Nat) (xs : Nat → Int32) (i x1 x2 x3 x4 x5 : Int32) (hkc : kc + 40 ≤ 601024) (hks : ks + 240 ≤ 7293034) (hX : va_X b0 L xs (gS g) (gS g).heap) (hb0 : b0 < (gS g).heap.size) (hbA : ¬ wA w b0) (hi1 : inb (i + (1 : Int32)) L = true) (hx1 : xs (ix (i + (1 : Int32))) = x1) (hi2 : inb (i + (2 : Int32)) L = true) (hx2 : xs (ix (i + (2 : Int32))) = x2) (hi3 : inb (i + (3 : Int32)) L = true) (hx3 : xs (ix (i + (3 : Int32))) = x3) (hi4 : inb (i + (4 : Int32)) L = true) (hx4 : xs (ix (i + (4 : Int32))) = x4) (hi5 : inb (i + (5 : Int32)) L = true) (hx5 : xs (ix (i + (5 : Int32))) = x5) (σ : MS) : VV m_L_law_ w g kc ks Q (fun s => VH m_L_law_ w g (kc + 20) (ks + 120) Q 2895 [some (.ref b0), some (.ref (wB w + 0)), some (.ref (wB w + 171)), some (.ref (wB w + 183)), some (.int i), none, none] [] s) 438 [some (.ref b0), some (.ref (wB w + 0)), some (.ref (wB w + 171)), some (.ref (wB w + 183)), some (.int i), none, none] [] σ (step_4 n x1 x2 x3 x4 x5 σ) := by
  unfold step_4
  refine V_aload_n (pc := 438) dL_law__438 rfl rfl ?_
  refine V_callVpi (pc := 439) (As := []) (rest := []) (c_X11_fault w  σ) cw_L_156 rfl rfl dL_law__439 kc_0 ci_11 ⟨by simp only [m_L_law_, m_X11_fault]; omega, by simp only [m_L_law_, m_X11_fault]; omega⟩ rfl rfl (Nat.le_of_ble_eq_true rfl) (by simp only [m_L_law_]; omega) (by simp only [m_L_law_]; omega) rfl (fun q439 => ?_)
  refine V_aload_n (pc := 442) dL_law__442 rfl rfl ?_
  refine V_callVi (pc := 443) (As := []) (rest := [.int q439]) (c_X12_fault w  σ) cw_L_159 rfl rfl dL_law__443 kc_171 ci_12 ⟨by simp only [m_L_law_, m_X12_fault]; omega, by simp only [m_L_law_, m_X12_fault]; omega⟩ rfl rfl (Nat.le_of_ble_eq_true rfl) (by simp only [m_L_law_]; omega) (by simp only [m_L_law_]; omega) rfl (fun q443 => ?_)
  refine V_icmp_eq (pc := 446) (tgt := 2895) dL_law__446 (by decide +kernel) ?_ ?_
  · refine V_widen (kc' := kc + 20) (ks' := ks + 120) (by omega) (by omega) ?_
    exact V_back (fun h => h)
  · refine V_iconst (pc := 449) dL_law__449 ic_0 ?_
    exact V_none
theorem cl_160 : csw RL 160 m_L_person [(0, 10, 13, 24), (0, 10, 17, 26)] 4 := ⟨goodIn_of _ (by decide +kernel), by decide +kernel, by decide +kernel, by decide +kernel⟩
theorem wm_X12_person : wmp m_X12_person 2 := ⟨gx 1883 (by decide +kernel) (by decide +kernel), gx 1884 (by decide +kernel) (by decide +kernel), gx 138 (by decide +kernel) (by decide +kernel), gx 1885 (by decide +kernel) (by decide +kernel), by decide +kernel, by decide +kernel, by decide +kernel⟩
theorem cw_L_163 : cwp RL 163 m_X12_person 2 := cwp_of wm_X12_person (gx 1882 (by decide +kernel) (by decide +kernel))
def J_L_law__516 (n : Nat) (x1 x2 x3 x4 x5 : Int32) (σ : MS) : Option (MS) := some σ
def step_5 (n : Nat) (x1 x2 x3 x4 x5 : Int32) (σ : MS) : Option MS := ((f_L_person n x1 x2 σ).bind (fun q465 => ((f_X12_person n x1 x2 q465.2).bind (fun q483 => ((f_X12_thrown  q483.2).bind (fun q489 => (if q489 = q465.1 then (if q465.1 = 0 then (if (q483.2 183 0) = q483.1 then J_L_law__516 n x1 x2 x3 x4 x5 q483.2 else none) else J_L_law__516 n x1 x2 x3 x4 x5 q483.2) else none)))))))
set_option maxRecDepth 20000 in
set_option maxHeartbeats 2000000 in
theorem v_case_5 (w : TG) (g : VG) (kc ks : Nat) (Q : State → Prop) (n b0 L : Nat) (xs : Nat → Int32) (i x1 x2 x3 x4 x5 : Int32) (hkc : kc + 40 ≤ 601024) (hks : ks + 240 ≤ 7293034) (hX : va_X b0 L xs (gS g) (gS g).heap) (hb0 : b0 < (gS g).heap.size) (hbA : ¬ wA w b0) (hi1 : inb (i + (1 : Int32)) L = true) (hx1 : xs (ix (i + (1 : Int32))) = x1) (hi2 : inb (i + (2 : Int32)) L = true) (hx2 : xs (ix (i + (2 : Int32))) = x2) (hi3 : inb (i + (3 : Int32)) L = true) (hx3 : xs (ix (i + (3 : Int32))) = x3) (hi4 : inb (i + (4 : Int32)) L = true) (hx4 : xs (ix (i + (4 : Int32))) = x4) (hi5 : inb (i + (5 : Int32)) L = true) (hx5 : xs (ix (i + (5 : Int32))) = x5) (σ : MS) : VV m_L_law_ w g kc ks Q (fun s => VH m_L_law_ w g (kc + 20) (ks + 120) Q 2895 [some (.ref b0), some (.ref (wB w + 0)), some (.ref (wB w + 171)), some (.ref (wB w + 183)), some (.int i), none, none] [] s) 451 [some (.ref b0), some (.ref (wB w + 0)), some (.ref (wB w + 171)), some (.ref (wB w + 183)), some (.int i), none, none] [] σ (step_5 n x1 x2 x3 x4 x5 σ) := by
  unfold step_5
  have hJ516 : ∀ (σ : MS), VV m_L_law_ w g (kc + 2) (ks + 12) Q (fun s => VH m_L_law_ w g (kc + 20) (ks + 120) Q 2895 [some (.ref b0), some (.ref (wB w + 0)), some (.ref (wB w + 171)), some (.ref (wB w + 183)), some (.int i), none, none] [] s) 516 [some (.ref b0), some (.ref (wB w + 0)), some (.ref (wB w + 171)), some (.ref (wB w + 183)), some (.int i), none, none] [] σ (J_L_law__516 n x1 x2 x3 x4 x5 σ) := by
    intro σ
    refine V_goto (pc := 516) (tgt := 2895) dL_law__516 (by decide +kernel) ?_
    refine V_widen (kc' := kc + 20) (ks' := ks + 120) (by omega) (by omega) ?_
    exact V_back (fun h => h)
  refine V_aload_n (pc := 451) dL_law__451 rfl rfl ?_
  refine V_aload_n (pc := 452) dL_law__452 rfl rfl ?_
  refine V_iload (pc := 453) dL_law__453 rfl ?_
  refine V_iconst (pc := 455) dL_law__455 ic_1 ?_
  refine V_iadd (pc := 456) dL_law__456 ?_
  refine V_sld (pc := 457) hX hb0 hbA hi1 hx1 dL_law__457 ?_
  refine V_aload_n (pc := 458) dL_law__458 rfl rfl ?_
  refine V_iload (pc := 459) dL_law__459 rfl ?_
  refine V_iconst (pc := 461) dL_law__461 ic_2 ?_
  refine V_iadd (pc := 462) dL_law__462 ?_
  refine V_sld (pc := 463) hX hb0 hbA hi2 hx2 dL_law__463 ?_
  refine V_aload_n (pc := 464) dL_law__464 rfl rfl ?_
  refine V_callW (pc := 465) (As := [.ref (wB w + 0), .int x1, .int x2, .ref (wB w + 183)]) (rest := []) (c_L_person w n x1 x2 σ) cl_160 rfl rfl dL_law__465 ⟨by simp only [m_L_law_, m_L_person]; omega, by simp only [m_L_law_, m_L_person]; omega⟩ rfl rfl (Nat.le_of_ble_eq_true rfl) (by simp only [m_L_law_, m_L_person]; omega) (by simp only [m_L_law_, m_L_person]; omega) (fun q465 => ?_)
  show VV m_L_law_ w g (kc + 2) (ks + 12) Q (fun s => VH m_L_law_ w g (kc + 20) (ks + 120) Q 2895 [some (.ref b0), some (.ref (wB w + 0)), some (.ref (wB w + 171)), some (.ref (wB w + 183)), some (.int i), none, none] [] s) 468 [some (.ref b0), some (.ref (wB w + 0)), some (.ref (wB w + 171)), some (.ref (wB w + 183)), some (.int i), none, none] [.int q465.1] q465.2 _
  refine V_istore (pc := 468) (vs' := [some (.ref b0), some (.ref (wB w + 0)), some (.ref (wB w + 171)), some (.ref (wB w + 183)), some (.int i), some (.int q465.1), none]) dL_law__468 (Nat.le_of_ble_eq_true rfl) (Nat.le_of_ble_eq_true rfl) rfl ?_
  refine V_aload_n (pc := 470) dL_law__470 rfl rfl ?_
  refine V_aload_n (pc := 471) dL_law__471 rfl rfl ?_
  refine V_iload (pc := 472) dL_law__472 rfl ?_
  refine V_iconst (pc := 474) dL_law__474 ic_1 ?_
  refine V_iadd (pc := 475) dL_law__475 ?_
  refine V_sld (pc := 476) hX hb0 hbA hi1 hx1 dL_law__476 ?_
  refine V_aload_n (pc := 477) dL_law__477 rfl rfl ?_
  refine V_iload (pc := 478) dL_law__478 rfl ?_
  refine V_iconst (pc := 480) dL_law__480 ic_2 ?_
  refine V_iadd (pc := 481) dL_law__481 ?_
  refine V_sld (pc := 482) hX hb0 hbA hi2 hx2 dL_law__482 ?_
  refine V_callVi (pc := 483) (As := [.int x1, .int x2]) (rest := []) (c_X12_person w n x1 x2 q465.2) cw_L_163 rfl rfl dL_law__483 kc_171 ci_12 ⟨by simp only [m_L_law_, m_X12_person]; omega, by simp only [m_L_law_, m_X12_person]; omega⟩ rfl rfl (Nat.le_of_ble_eq_true rfl) (by simp only [m_L_law_]; omega) (by simp only [m_L_law_]; omega) rfl (fun q483 => ?_)
  refine V_istore (pc := 486) (vs' := [some (.ref b0), some (.ref (wB w + 0)), some (.ref (wB w + 171)), some (.ref (wB w + 183)), some (.int i), some (.int q465.1), some (.int q483.1)]) dL_law__486 (Nat.le_of_ble_eq_true rfl) (Nat.le_of_ble_eq_true rfl) rfl ?_
  refine V_aload_n (pc := 488) dL_law__488 rfl rfl ?_
  refine V_callVpi (pc := 489) (As := []) (rest := []) (c_X12_thrown w  q483.2) cw_L_150 rfl rfl dL_law__489 kc_171 ci_12 ⟨by simp only [m_L_law_, m_X12_thrown]; omega, by simp only [m_L_law_, m_X12_thrown]; omega⟩ rfl rfl (Nat.le_of_ble_eq_true rfl) (by simp only [m_L_law_]; omega) (by simp only [m_L_law_]; omega) rfl (fun q489 => ?_)
  refine V_iload (pc := 492) dL_law__492 rfl ?_
  refine V_icmp_eq (pc := 494) (tgt := 499) dL_law__494 (by decide +kernel) ?_ ?_
  · refine V_iload (pc := 499) dL_law__499 rfl ?_
    refine V_if_ne (pc := 501) (tgt := 516) dL_law__501 (by decide +kernel) ?_ ?_
    · refine V_sub (vs' := [some (.ref b0), some (.ref (wB w + 0)), some (.ref (wB w + 171)), some (.ref (wB w + 183)), some (.int i), none, none]) (show vless _ _ from ⟨rfl, ⟨rfl, ⟨rfl, ⟨rfl, ⟨rfl, trivial⟩⟩⟩⟩⟩) rfl ?_
      exact hJ516 q483.2
    · refine V_aload_n (pc := 504) dL_law__504 rfl rfl ?_
      refine V_iconst (pc := 505) dL_law__505 ic_0 ?_
      refine V_lald (pc := 506) dL_law__506 ?_
      refine V_iload (pc := 507) dL_law__507 rfl ?_
      refine V_i2l (pc := 509) dL_law__509 ?_
      refine V_lcmpeq (pc := 510) (tgt := 516) dL_law__510 dL_law__511 (by decide) ?_ ?_
      · refine V_sub (vs' := [some (.ref b0), some (.ref (wB w + 0)), some (.ref (wB w + 171)), some (.ref (wB w + 183)), some (.int i), none, none]) (show vless _ _ from ⟨rfl, ⟨rfl, ⟨rfl, ⟨rfl, ⟨rfl, trivial⟩⟩⟩⟩⟩) rfl ?_
        exact hJ516 q483.2
      · refine V_iconst (pc := 514) dL_law__514 ic_0 ?_
        exact V_none
  · refine V_iconst (pc := 497) dL_law__497 ic_0 ?_
    exact V_none
theorem cl_164 : csw RL 164 m_L_liking [(0, 10, 13, 24), (0, 10, 17, 13)] 4 := ⟨goodIn_of _ (by decide +kernel), by decide +kernel, by decide +kernel, by decide +kernel⟩
theorem wm_X12_liking : wmp m_X12_liking 2 := ⟨gx 1915 (by decide +kernel) (by decide +kernel), gx 1916 (by decide +kernel) (by decide +kernel), gx 138 (by decide +kernel) (by decide +kernel), gx 1917 (by decide +kernel) (by decide +kernel), by decide +kernel, by decide +kernel, by decide +kernel⟩
theorem cw_L_166 : cwp RL 166 m_X12_liking 2 := cwp_of wm_X12_liking (gx 1914 (by decide +kernel) (by decide +kernel))
def J_L_law__584 (n : Nat) (x1 x2 x3 x4 x5 : Int32) (σ : MS) : Option (MS) := some σ
def step_6 (n : Nat) (x1 x2 x3 x4 x5 : Int32) (σ : MS) : Option MS := ((f_L_liking x1 x2 σ).bind (fun q533 => ((f_X12_liking x1 x2 q533.2).bind (fun q551 => ((f_X12_thrown  q551.2).bind (fun q557 => (if q557 = q533.1 then (if q533.1 = 0 then (if (q551.2 183 0) = q551.1 then J_L_law__584 n x1 x2 x3 x4 x5 q551.2 else none) else J_L_law__584 n x1 x2 x3 x4 x5 q551.2) else none)))))))
set_option maxRecDepth 20000 in
set_option maxHeartbeats 2000000 in
theorem v_case_6 (w : TG) (g : VG) (kc ks : Nat) (Q : State → Prop) (n b0 L : Nat) (xs : Nat → Int32) (i x1 x2 x3 x4 x5 : Int32) (hkc : kc + 40 ≤ 601024) (hks : ks + 240 ≤ 7293034) (hX : va_X b0 L xs (gS g) (gS g).heap) (hb0 : b0 < (gS g).heap.size) (hbA : ¬ wA w b0) (hi1 : inb (i + (1 : Int32)) L = true) (hx1 : xs (ix (i + (1 : Int32))) = x1) (hi2 : inb (i + (2 : Int32)) L = true) (hx2 : xs (ix (i + (2 : Int32))) = x2) (hi3 : inb (i + (3 : Int32)) L = true) (hx3 : xs (ix (i + (3 : Int32))) = x3) (hi4 : inb (i + (4 : Int32)) L = true) (hx4 : xs (ix (i + (4 : Int32))) = x4) (hi5 : inb (i + (5 : Int32)) L = true) (hx5 : xs (ix (i + (5 : Int32))) = x5) (σ : MS) : VV m_L_law_ w g kc ks Q (fun s => VH m_L_law_ w g (kc + 20) (ks + 120) Q 2895 [some (.ref b0), some (.ref (wB w + 0)), some (.ref (wB w + 171)), some (.ref (wB w + 183)), some (.int i), none, none] [] s) 519 [some (.ref b0), some (.ref (wB w + 0)), some (.ref (wB w + 171)), some (.ref (wB w + 183)), some (.int i), none, none] [] σ (step_6 n x1 x2 x3 x4 x5 σ) := by
  unfold step_6
  have hJ584 : ∀ (σ : MS), VV m_L_law_ w g (kc + 3) (ks + 18) Q (fun s => VH m_L_law_ w g (kc + 20) (ks + 120) Q 2895 [some (.ref b0), some (.ref (wB w + 0)), some (.ref (wB w + 171)), some (.ref (wB w + 183)), some (.int i), none, none] [] s) 584 [some (.ref b0), some (.ref (wB w + 0)), some (.ref (wB w + 171)), some (.ref (wB w + 183)), some (.int i), none, none] [] σ (J_L_law__584 n x1 x2 x3 x4 x5 σ) := by
    intro σ
    refine V_goto (pc := 584) (tgt := 2895) dL_law__584 (by decide +kernel) ?_
    refine V_widen (kc' := kc + 20) (ks' := ks + 120) (by omega) (by omega) ?_
    exact V_back (fun h => h)
  refine V_aload_n (pc := 519) dL_law__519 rfl rfl ?_
  refine V_aload_n (pc := 520) dL_law__520 rfl rfl ?_
  refine V_iload (pc := 521) dL_law__521 rfl ?_
  refine V_iconst (pc := 523) dL_law__523 ic_1 ?_
  refine V_iadd (pc := 524) dL_law__524 ?_
  refine V_sld (pc := 525) hX hb0 hbA hi1 hx1 dL_law__525 ?_
  refine V_aload_n (pc := 526) dL_law__526 rfl rfl ?_
  refine V_iload (pc := 527) dL_law__527 rfl ?_
  refine V_iconst (pc := 529) dL_law__529 ic_2 ?_
  refine V_iadd (pc := 530) dL_law__530 ?_
  refine V_sld (pc := 531) hX hb0 hbA hi2 hx2 dL_law__531 ?_
  refine V_aload_n (pc := 532) dL_law__532 rfl rfl ?_
  refine V_callW (pc := 533) (As := [.ref (wB w + 0), .int x1, .int x2, .ref (wB w + 183)]) (rest := []) (c_L_liking w x1 x2 σ) cl_164 rfl rfl dL_law__533 ⟨by simp only [m_L_law_, m_L_liking]; omega, by simp only [m_L_law_, m_L_liking]; omega⟩ rfl rfl (Nat.le_of_ble_eq_true rfl) (by simp only [m_L_law_, m_L_liking]; omega) (by simp only [m_L_law_, m_L_liking]; omega) (fun q533 => ?_)
  show VV m_L_law_ w g (kc + 3) (ks + 18) Q (fun s => VH m_L_law_ w g (kc + 20) (ks + 120) Q 2895 [some (.ref b0), some (.ref (wB w + 0)), some (.ref (wB w + 171)), some (.ref (wB w + 183)), some (.int i), none, none] [] s) 536 [some (.ref b0), some (.ref (wB w + 0)), some (.ref (wB w + 171)), some (.ref (wB w + 183)), some (.int i), none, none] [.int q533.1] q533.2 _
  refine V_istore (pc := 536) (vs' := [some (.ref b0), some (.ref (wB w + 0)), some (.ref (wB w + 171)), some (.ref (wB w + 183)), some (.int i), some (.int q533.1), none]) dL_law__536 (Nat.le_of_ble_eq_true rfl) (Nat.le_of_ble_eq_true rfl) rfl ?_
  refine V_aload_n (pc := 538) dL_law__538 rfl rfl ?_
  refine V_aload_n (pc := 539) dL_law__539 rfl rfl ?_
  refine V_iload (pc := 540) dL_law__540 rfl ?_
  refine V_iconst (pc := 542) dL_law__542 ic_1 ?_
  refine V_iadd (pc := 543) dL_law__543 ?_
  refine V_sld (pc := 544) hX hb0 hbA hi1 hx1 dL_law__544 ?_
  refine V_aload_n (pc := 545) dL_law__545 rfl rfl ?_
  refine V_iload (pc := 546) dL_law__546 rfl ?_
  refine V_iconst (pc := 548) dL_law__548 ic_2 ?_
  refine V_iadd (pc := 549) dL_law__549 ?_
  refine V_sld (pc := 550) hX hb0 hbA hi2 hx2 dL_law__550 ?_
  refine V_callVi (pc := 551) (As := [.int x1, .int x2]) (rest := []) (c_X12_liking w x1 x2 q533.2) cw_L_166 rfl rfl dL_law__551 kc_171 ci_12 ⟨by simp only [m_L_law_, m_X12_liking]; omega, by simp only [m_L_law_, m_X12_liking]; omega⟩ rfl rfl (Nat.le_of_ble_eq_true rfl) (by simp only [m_L_law_]; omega) (by simp only [m_L_law_]; omega) rfl (fun q551 => ?_)
  refine V_istore (pc := 554) (vs' := [some (.ref b0), some (.ref (wB w + 0)), some (.ref (wB w + 171)), some (.ref (wB w + 183)), some (.int i), some (.int q533.1), some (.int q551.1)]) dL_law__554 (Nat.le_of_ble_eq_true rfl) (Nat.le_of_ble_eq_true rfl) rfl ?_
  refine V_aload_n (pc := 556) dL_law__556 rfl rfl ?_
  refine V_callVpi (pc := 557) (As := []) (rest := []) (c_X12_thrown w  q551.2) cw_L_150 rfl rfl dL_law__557 kc_171 ci_12 ⟨by simp only [m_L_law_, m_X12_thrown]; omega, by simp only [m_L_law_, m_X12_thrown]; omega⟩ rfl rfl (Nat.le_of_ble_eq_true rfl) (by simp only [m_L_law_]; omega) (by simp only [m_L_law_]; omega) rfl (fun q557 => ?_)
  refine V_iload (pc := 560) dL_law__560 rfl ?_
  refine V_icmp_eq (pc := 562) (tgt := 567) dL_law__562 (by decide +kernel) ?_ ?_
  · refine V_iload (pc := 567) dL_law__567 rfl ?_
    refine V_if_ne (pc := 569) (tgt := 584) dL_law__569 (by decide +kernel) ?_ ?_
    · refine V_sub (vs' := [some (.ref b0), some (.ref (wB w + 0)), some (.ref (wB w + 171)), some (.ref (wB w + 183)), some (.int i), none, none]) (show vless _ _ from ⟨rfl, ⟨rfl, ⟨rfl, ⟨rfl, ⟨rfl, trivial⟩⟩⟩⟩⟩) rfl ?_
      exact hJ584 q551.2
    · refine V_aload_n (pc := 572) dL_law__572 rfl rfl ?_
      refine V_iconst (pc := 573) dL_law__573 ic_0 ?_
      refine V_lald (pc := 574) dL_law__574 ?_
      refine V_iload (pc := 575) dL_law__575 rfl ?_
      refine V_i2l (pc := 577) dL_law__577 ?_
      refine V_lcmpeq (pc := 578) (tgt := 584) dL_law__578 dL_law__579 (by decide) ?_ ?_
      · refine V_sub (vs' := [some (.ref b0), some (.ref (wB w + 0)), some (.ref (wB w + 171)), some (.ref (wB w + 183)), some (.int i), none, none]) (show vless _ _ from ⟨rfl, ⟨rfl, ⟨rfl, ⟨rfl, ⟨rfl, trivial⟩⟩⟩⟩⟩) rfl ?_
        exact hJ584 q551.2
      · refine V_iconst (pc := 582) dL_law__582 ic_0 ?_
        exact V_none
  · refine V_iconst (pc := 565) dL_law__565 ic_0 ?_
    exact V_none
theorem wm_X12_bond : wmp m_X12_bond 3 := ⟨gx 1919 (by decide +kernel) (by decide +kernel), gx 1920 (by decide +kernel) (by decide +kernel), gx 138 (by decide +kernel) (by decide +kernel), gx 1921 (by decide +kernel) (by decide +kernel), by decide +kernel, by decide +kernel, by decide +kernel⟩
theorem cw_L_170 : cwp RL 170 m_X12_bond 3 := cwp_of wm_X12_bond (gx 1918 (by decide +kernel) (by decide +kernel))
theorem cl_167 : csw RL 167 m_L_bond [(0, 12, 15, 24), (0, 12, 19, 13)] 5 := ⟨goodIn_of _ (by decide +kernel), by decide +kernel, by decide +kernel, by decide +kernel⟩
def J_L_law__680 (n : Nat) (x1 x2 x3 x4 x5 : Int32) (σ : MS) : Option (MS) := some σ
def J_L_law__647 (n : Nat) (v5 : Int32) (x1 x2 x3 x4 x5 : Int32) (t0 : Int32) (t1 : Int32) (t2 : Int32) (σ : MS) : Option (MS) := ((f_X12_bond t2 t1 t0 σ).bind (fun q647 => ((f_X12_thrown  q647.2).bind (fun q653 => (if q653 = v5 then (if v5 = 0 then (if (q647.2 183 0) = q647.1 then J_L_law__680 n x1 x2 x3 x4 x5 q647.2 else none) else J_L_law__680 n x1 x2 x3 x4 x5 q647.2) else none)))))
def J_L_law__614 (n : Nat) (x1 x2 x3 x4 x5 : Int32) (t0 : Int32) (t1 : Int32) (t2 : Int32) (σ : MS) : Option (MS) := ((f_L_bond t2 t1 t0 σ).bind (fun q615 => (if x3 = 0 then J_L_law__647 n q615.1 x1 x2 x3 x4 x5 (0 : Int32) x2 x1 q615.2 else J_L_law__647 n q615.1 x1 x2 x3 x4 x5 (1 : Int32) x2 x1 q615.2)))
def step_7 (n : Nat) (x1 x2 x3 x4 x5 : Int32) (σ : MS) : Option MS := (if x3 = 0 then J_L_law__614 n x1 x2 x3 x4 x5 (0 : Int32) x2 x1 σ else J_L_law__614 n x1 x2 x3 x4 x5 (1 : Int32) x2 x1 σ)
set_option maxRecDepth 20000 in
set_option maxHeartbeats 2000000 in
theorem v_case_7 (w : TG) (g : VG) (kc ks : Nat) (Q : State → Prop) (n b0 L : Nat) (xs : Nat → Int32) (i x1 x2 x3 x4 x5 : Int32) (hkc : kc + 40 ≤ 601024) (hks : ks + 240 ≤ 7293034) (hX : va_X b0 L xs (gS g) (gS g).heap) (hb0 : b0 < (gS g).heap.size) (hbA : ¬ wA w b0) (hi1 : inb (i + (1 : Int32)) L = true) (hx1 : xs (ix (i + (1 : Int32))) = x1) (hi2 : inb (i + (2 : Int32)) L = true) (hx2 : xs (ix (i + (2 : Int32))) = x2) (hi3 : inb (i + (3 : Int32)) L = true) (hx3 : xs (ix (i + (3 : Int32))) = x3) (hi4 : inb (i + (4 : Int32)) L = true) (hx4 : xs (ix (i + (4 : Int32))) = x4) (hi5 : inb (i + (5 : Int32)) L = true) (hx5 : xs (ix (i + (5 : Int32))) = x5) (σ : MS) : VV m_L_law_ w g kc ks Q (fun s => VH m_L_law_ w g (kc + 20) (ks + 120) Q 2895 [some (.ref b0), some (.ref (wB w + 0)), some (.ref (wB w + 171)), some (.ref (wB w + 183)), some (.int i), none, none] [] s) 587 [some (.ref b0), some (.ref (wB w + 0)), some (.ref (wB w + 171)), some (.ref (wB w + 183)), some (.int i), none, none] [] σ (step_7 n x1 x2 x3 x4 x5 σ) := by
  unfold step_7
  have hJ680 : ∀ (σ : MS), VV m_L_law_ w g (kc + 3) (ks + 18) Q (fun s => VH m_L_law_ w g (kc + 20) (ks + 120) Q 2895 [some (.ref b0), some (.ref (wB w + 0)), some (.ref (wB w + 171)), some (.ref (wB w + 183)), some (.int i), none, none] [] s) 680 [some (.ref b0), some (.ref (wB w + 0)), some (.ref (wB w + 171)), some (.ref (wB w + 183)), some (.int i), none, none] [] σ (J_L_law__680 n x1 x2 x3 x4 x5 σ) := by
    intro σ
    refine V_goto (pc := 680) (tgt := 2895) dL_law__680 (by decide +kernel) ?_
    refine V_widen (kc' := kc + 20) (ks' := ks + 120) (by omega) (by omega) ?_
    exact V_back (fun h => h)
  have hJ647 : ∀ (v5 : Int32) (t0 : Int32) (t1 : Int32) (t2 : Int32) (σ : MS), VV m_L_law_ w g (kc + 3) (ks + 18) Q (fun s => VH m_L_law_ w g (kc + 20) (ks + 120) Q 2895 [some (.ref b0), some (.ref (wB w + 0)), some (.ref (wB w + 171)), some (.ref (wB w + 183)), some (.int i), none, none] [] s) 647 [some (.ref b0), some (.ref (wB w + 0)), some (.ref (wB w + 171)), some (.ref (wB w + 183)), some (.int i), some (.int v5), none] [.int t0, .int t1, .int t2, .ref (wB w + 171)] σ (J_L_law__647 n v5 x1 x2 x3 x4 x5 t0 t1 t2 σ) := by
    intro v5 t0 t1 t2 σ
    refine V_callVi (pc := 647) (As := [.int t2, .int t1, .int t0]) (rest := []) (c_X12_bond w t2 t1 t0 σ) cw_L_170 rfl rfl dL_law__647 kc_171 ci_12 ⟨by simp only [m_L_law_, m_X12_bond]; omega, by simp only [m_L_law_, m_X12_bond]; omega⟩ rfl rfl (Nat.le_of_ble_eq_true rfl) (by simp only [m_L_law_]; omega) (by simp only [m_L_law_]; omega) rfl (fun q647 => ?_)
    refine V_istore (pc := 650) (vs' := [some (.ref b0), some (.ref (wB w + 0)), some (.ref (wB w + 171)), some (.ref (wB w + 183)), some (.int i), some (.int v5), some (.int q647.1)]) dL_law__650 (Nat.le_of_ble_eq_true rfl) (Nat.le_of_ble_eq_true rfl) rfl ?_
    refine V_aload_n (pc := 652) dL_law__652 rfl rfl ?_
    refine V_callVpi (pc := 653) (As := []) (rest := []) (c_X12_thrown w  q647.2) cw_L_150 rfl rfl dL_law__653 kc_171 ci_12 ⟨by simp only [m_L_law_, m_X12_thrown]; omega, by simp only [m_L_law_, m_X12_thrown]; omega⟩ rfl rfl (Nat.le_of_ble_eq_true rfl) (by simp only [m_L_law_]; omega) (by simp only [m_L_law_]; omega) rfl (fun q653 => ?_)
    refine V_iload (pc := 656) dL_law__656 rfl ?_
    refine V_icmp_eq (pc := 658) (tgt := 663) dL_law__658 (by decide +kernel) ?_ ?_
    · refine V_iload (pc := 663) dL_law__663 rfl ?_
      refine V_if_ne (pc := 665) (tgt := 680) dL_law__665 (by decide +kernel) ?_ ?_
      · refine V_sub (vs' := [some (.ref b0), some (.ref (wB w + 0)), some (.ref (wB w + 171)), some (.ref (wB w + 183)), some (.int i), none, none]) (show vless _ _ from ⟨rfl, ⟨rfl, ⟨rfl, ⟨rfl, ⟨rfl, trivial⟩⟩⟩⟩⟩) rfl ?_
        exact hJ680 q647.2
      · refine V_aload_n (pc := 668) dL_law__668 rfl rfl ?_
        refine V_iconst (pc := 669) dL_law__669 ic_0 ?_
        refine V_lald (pc := 670) dL_law__670 ?_
        refine V_iload (pc := 671) dL_law__671 rfl ?_
        refine V_i2l (pc := 673) dL_law__673 ?_
        refine V_lcmpeq (pc := 674) (tgt := 680) dL_law__674 dL_law__675 (by decide) ?_ ?_
        · refine V_sub (vs' := [some (.ref b0), some (.ref (wB w + 0)), some (.ref (wB w + 171)), some (.ref (wB w + 183)), some (.int i), none, none]) (show vless _ _ from ⟨rfl, ⟨rfl, ⟨rfl, ⟨rfl, ⟨rfl, trivial⟩⟩⟩⟩⟩) rfl ?_
          exact hJ680 q647.2
        · refine V_iconst (pc := 678) dL_law__678 ic_0 ?_
          exact V_none
    · refine V_iconst (pc := 661) dL_law__661 ic_0 ?_
      exact V_none
  have hJ614 : ∀ (t0 : Int32) (t1 : Int32) (t2 : Int32) (σ : MS), VV m_L_law_ w g kc ks Q (fun s => VH m_L_law_ w g (kc + 20) (ks + 120) Q 2895 [some (.ref b0), some (.ref (wB w + 0)), some (.ref (wB w + 171)), some (.ref (wB w + 183)), some (.int i), none, none] [] s) 614 [some (.ref b0), some (.ref (wB w + 0)), some (.ref (wB w + 171)), some (.ref (wB w + 183)), some (.int i), none, none] [.int t0, .int t1, .int t2, .ref (wB w + 0)] σ (J_L_law__614 n x1 x2 x3 x4 x5 t0 t1 t2 σ) := by
    intro t0 t1 t2 σ
    refine V_aload_n (pc := 614) dL_law__614 rfl rfl ?_
    refine V_callW (pc := 615) (As := [.ref (wB w + 0), .int t2, .int t1, .int t0, .ref (wB w + 183)]) (rest := []) (c_L_bond w t2 t1 t0 σ) cl_167 rfl rfl dL_law__615 ⟨by simp only [m_L_law_, m_L_bond]; omega, by simp only [m_L_law_, m_L_bond]; omega⟩ rfl rfl (Nat.le_of_ble_eq_true rfl) (by simp only [m_L_law_, m_L_bond]; omega) (by simp only [m_L_law_, m_L_bond]; omega) (fun q615 => ?_)
    show VV m_L_law_ w g (kc + 3) (ks + 18) Q (fun s => VH m_L_law_ w g (kc + 20) (ks + 120) Q 2895 [some (.ref b0), some (.ref (wB w + 0)), some (.ref (wB w + 171)), some (.ref (wB w + 183)), some (.int i), none, none] [] s) 618 [some (.ref b0), some (.ref (wB w + 0)), some (.ref (wB w + 171)), some (.ref (wB w + 183)), some (.int i), none, none] [.int q615.1] q615.2 _
    refine V_istore (pc := 618) (vs' := [some (.ref b0), some (.ref (wB w + 0)), some (.ref (wB w + 171)), some (.ref (wB w + 183)), some (.int i), some (.int q615.1), none]) dL_law__618 (Nat.le_of_ble_eq_true rfl) (Nat.le_of_ble_eq_true rfl) rfl ?_
    refine V_aload_n (pc := 620) dL_law__620 rfl rfl ?_
    refine V_aload_n (pc := 621) dL_law__621 rfl rfl ?_
    refine V_iload (pc := 622) dL_law__622 rfl ?_
    refine V_iconst (pc := 624) dL_law__624 ic_1 ?_
    refine V_iadd (pc := 625) dL_law__625 ?_
    refine V_sld (pc := 626) hX hb0 hbA hi1 hx1 dL_law__626 ?_
    refine V_aload_n (pc := 627) dL_law__627 rfl rfl ?_
    refine V_iload (pc := 628) dL_law__628 rfl ?_
    refine V_iconst (pc := 630) dL_law__630 ic_2 ?_
    refine V_iadd (pc := 631) dL_law__631 ?_
    refine V_sld (pc := 632) hX hb0 hbA hi2 hx2 dL_law__632 ?_
    refine V_aload_n (pc := 633) dL_law__633 rfl rfl ?_
    refine V_iload (pc := 634) dL_law__634 rfl ?_
    refine V_iconst (pc := 636) dL_law__636 ic_3 ?_
    refine V_iadd (pc := 637) dL_law__637 ?_
    refine V_sld (pc := 638) hX hb0 hbA hi3 hx3 dL_law__638 ?_
    refine V_if_eq (pc := 639) (tgt := 646) dL_law__639 (by decide +kernel) ?_ ?_
    · refine V_iconst (pc := 646) dL_law__646 ic_0 ?_
      exact hJ647 q615.1 (0 : Int32) x2 x1 q615.2
    · refine V_iconst (pc := 642) dL_law__642 ic_1 ?_
      refine V_goto (pc := 643) (tgt := 647) dL_law__643 (by decide +kernel) ?_
      exact hJ647 q615.1 (1 : Int32) x2 x1 q615.2
  refine V_aload_n (pc := 587) dL_law__587 rfl rfl ?_
  refine V_aload_n (pc := 588) dL_law__588 rfl rfl ?_
  refine V_iload (pc := 589) dL_law__589 rfl ?_
  refine V_iconst (pc := 591) dL_law__591 ic_1 ?_
  refine V_iadd (pc := 592) dL_law__592 ?_
  refine V_sld (pc := 593) hX hb0 hbA hi1 hx1 dL_law__593 ?_
  refine V_aload_n (pc := 594) dL_law__594 rfl rfl ?_
  refine V_iload (pc := 595) dL_law__595 rfl ?_
  refine V_iconst (pc := 597) dL_law__597 ic_2 ?_
  refine V_iadd (pc := 598) dL_law__598 ?_
  refine V_sld (pc := 599) hX hb0 hbA hi2 hx2 dL_law__599 ?_
  refine V_aload_n (pc := 600) dL_law__600 rfl rfl ?_
  refine V_iload (pc := 601) dL_law__601 rfl ?_
  refine V_iconst (pc := 603) dL_law__603 ic_3 ?_
  refine V_iadd (pc := 604) dL_law__604 ?_
  refine V_sld (pc := 605) hX hb0 hbA hi3 hx3 dL_law__605 ?_
  refine V_if_eq (pc := 606) (tgt := 613) dL_law__606 (by decide +kernel) ?_ ?_
  · refine V_iconst (pc := 613) dL_law__613 ic_0 ?_
    exact hJ614 (0 : Int32) x2 x1 σ
  · refine V_iconst (pc := 609) dL_law__609 ic_1 ?_
    refine V_goto (pc := 610) (tgt := 614) dL_law__610 (by decide +kernel) ?_
    exact hJ614 (1 : Int32) x2 x1 σ
theorem cl_171 : csw RL 171 m_L_told [(0, 16, 19, 24), (0, 16, 23, 13), (0, 16, 27, 26)] 7 := ⟨goodIn_of _ (by decide +kernel), by decide +kernel, by decide +kernel, by decide +kernel⟩
theorem wm_X12_told : wmp m_X12_told 5 := ⟨gx 1776 (by decide +kernel) (by decide +kernel), gx 1777 (by decide +kernel) (by decide +kernel), gx 138 (by decide +kernel) (by decide +kernel), gx 1778 (by decide +kernel) (by decide +kernel), by decide +kernel, by decide +kernel, by decide +kernel⟩
theorem cw_L_174 : cwp RL 174 m_X12_told 5 := cwp_of wm_X12_told (gx 1775 (by decide +kernel) (by decide +kernel))
def J_L_law__784 (n : Nat) (x1 x2 x3 x4 x5 : Int32) (σ : MS) : Option (MS) := some σ
def step_8 (n : Nat) (x1 x2 x3 x4 x5 : Int32) (σ : MS) : Option MS := ((f_L_told n x1 x2 x3 x4 x5 σ).bind (fun q715 => ((f_X12_told n x1 x2 x3 x4 x5 q715.2).bind (fun q751 => ((f_X12_thrown  q751.2).bind (fun q757 => (if q757 = q715.1 then (if q715.1 = 0 then (if (q751.2 183 0) = q751.1 then J_L_law__784 n x1 x2 x3 x4 x5 q751.2 else none) else J_L_law__784 n x1 x2 x3 x4 x5 q751.2) else none)))))))
set_option maxRecDepth 20000 in
set_option maxHeartbeats 2000000 in
theorem v_case_8 (w : TG) (g : VG) (kc ks : Nat) (Q : State → Prop) (n b0 L : Nat) (xs : Nat → Int32) (i x1 x2 x3 x4 x5 : Int32) (hkc : kc + 40 ≤ 601024) (hks : ks + 240 ≤ 7293034) (hX : va_X b0 L xs (gS g) (gS g).heap) (hb0 : b0 < (gS g).heap.size) (hbA : ¬ wA w b0) (hi1 : inb (i + (1 : Int32)) L = true) (hx1 : xs (ix (i + (1 : Int32))) = x1) (hi2 : inb (i + (2 : Int32)) L = true) (hx2 : xs (ix (i + (2 : Int32))) = x2) (hi3 : inb (i + (3 : Int32)) L = true) (hx3 : xs (ix (i + (3 : Int32))) = x3) (hi4 : inb (i + (4 : Int32)) L = true) (hx4 : xs (ix (i + (4 : Int32))) = x4) (hi5 : inb (i + (5 : Int32)) L = true) (hx5 : xs (ix (i + (5 : Int32))) = x5) (σ : MS) : VV m_L_law_ w g kc ks Q (fun s => VH m_L_law_ w g (kc + 20) (ks + 120) Q 2895 [some (.ref b0), some (.ref (wB w + 0)), some (.ref (wB w + 171)), some (.ref (wB w + 183)), some (.int i), none, none] [] s) 683 [some (.ref b0), some (.ref (wB w + 0)), some (.ref (wB w + 171)), some (.ref (wB w + 183)), some (.int i), none, none] [] σ (step_8 n x1 x2 x3 x4 x5 σ) := by
  unfold step_8
  have hJ784 : ∀ (σ : MS), VV m_L_law_ w g (kc + 6) (ks + 36) Q (fun s => VH m_L_law_ w g (kc + 20) (ks + 120) Q 2895 [some (.ref b0), some (.ref (wB w + 0)), some (.ref (wB w + 171)), some (.ref (wB w + 183)), some (.int i), none, none] [] s) 784 [some (.ref b0), some (.ref (wB w + 0)), some (.ref (wB w + 171)), some (.ref (wB w + 183)), some (.int i), none, none] [] σ (J_L_law__784 n x1 x2 x3 x4 x5 σ) := by
    intro σ
    refine V_goto (pc := 784) (tgt := 2895) dL_law__784 (by decide +kernel) ?_
    refine V_widen (kc' := kc + 20) (ks' := ks + 120) (by omega) (by omega) ?_
    exact V_back (fun h => h)
  refine V_aload_n (pc := 683) dL_law__683 rfl rfl ?_
  refine V_aload_n (pc := 684) dL_law__684 rfl rfl ?_
  refine V_iload (pc := 685) dL_law__685 rfl ?_
  refine V_iconst (pc := 687) dL_law__687 ic_1 ?_
  refine V_iadd (pc := 688) dL_law__688 ?_
  refine V_sld (pc := 689) hX hb0 hbA hi1 hx1 dL_law__689 ?_
  refine V_aload_n (pc := 690) dL_law__690 rfl rfl ?_
  refine V_iload (pc := 691) dL_law__691 rfl ?_
  refine V_iconst (pc := 693) dL_law__693 ic_2 ?_
  refine V_iadd (pc := 694) dL_law__694 ?_
  refine V_sld (pc := 695) hX hb0 hbA hi2 hx2 dL_law__695 ?_
  refine V_aload_n (pc := 696) dL_law__696 rfl rfl ?_
  refine V_iload (pc := 697) dL_law__697 rfl ?_
  refine V_iconst (pc := 699) dL_law__699 ic_3 ?_
  refine V_iadd (pc := 700) dL_law__700 ?_
  refine V_sld (pc := 701) hX hb0 hbA hi3 hx3 dL_law__701 ?_
  refine V_aload_n (pc := 702) dL_law__702 rfl rfl ?_
  refine V_iload (pc := 703) dL_law__703 rfl ?_
  refine V_iconst (pc := 705) dL_law__705 ic_4 ?_
  refine V_iadd (pc := 706) dL_law__706 ?_
  refine V_sld (pc := 707) hX hb0 hbA hi4 hx4 dL_law__707 ?_
  refine V_aload_n (pc := 708) dL_law__708 rfl rfl ?_
  refine V_iload (pc := 709) dL_law__709 rfl ?_
  refine V_iconst (pc := 711) dL_law__711 ic_5 ?_
  refine V_iadd (pc := 712) dL_law__712 ?_
  refine V_sld (pc := 713) hX hb0 hbA hi5 hx5 dL_law__713 ?_
  refine V_aload_n (pc := 714) dL_law__714 rfl rfl ?_
  refine V_callW (pc := 715) (As := [.ref (wB w + 0), .int x1, .int x2, .int x3, .int x4, .int x5, .ref (wB w + 183)]) (rest := []) (c_L_told w n x1 x2 x3 x4 x5 σ) cl_171 rfl rfl dL_law__715 ⟨by simp only [m_L_law_, m_L_told]; omega, by simp only [m_L_law_, m_L_told]; omega⟩ rfl rfl (Nat.le_of_ble_eq_true rfl) (by simp only [m_L_law_, m_L_told]; omega) (by simp only [m_L_law_, m_L_told]; omega) (fun q715 => ?_)
  show VV m_L_law_ w g (kc + 6) (ks + 36) Q (fun s => VH m_L_law_ w g (kc + 20) (ks + 120) Q 2895 [some (.ref b0), some (.ref (wB w + 0)), some (.ref (wB w + 171)), some (.ref (wB w + 183)), some (.int i), none, none] [] s) 718 [some (.ref b0), some (.ref (wB w + 0)), some (.ref (wB w + 171)), some (.ref (wB w + 183)), some (.int i), none, none] [.int q715.1] q715.2 _
  refine V_istore (pc := 718) (vs' := [some (.ref b0), some (.ref (wB w + 0)), some (.ref (wB w + 171)), some (.ref (wB w + 183)), some (.int i), some (.int q715.1), none]) dL_law__718 (Nat.le_of_ble_eq_true rfl) (Nat.le_of_ble_eq_true rfl) rfl ?_
  refine V_aload_n (pc := 720) dL_law__720 rfl rfl ?_
  refine V_aload_n (pc := 721) dL_law__721 rfl rfl ?_
  refine V_iload (pc := 722) dL_law__722 rfl ?_
  refine V_iconst (pc := 724) dL_law__724 ic_1 ?_
  refine V_iadd (pc := 725) dL_law__725 ?_
  refine V_sld (pc := 726) hX hb0 hbA hi1 hx1 dL_law__726 ?_
  refine V_aload_n (pc := 727) dL_law__727 rfl rfl ?_
  refine V_iload (pc := 728) dL_law__728 rfl ?_
  refine V_iconst (pc := 730) dL_law__730 ic_2 ?_
  refine V_iadd (pc := 731) dL_law__731 ?_
  refine V_sld (pc := 732) hX hb0 hbA hi2 hx2 dL_law__732 ?_
  refine V_aload_n (pc := 733) dL_law__733 rfl rfl ?_
  refine V_iload (pc := 734) dL_law__734 rfl ?_
  refine V_iconst (pc := 736) dL_law__736 ic_3 ?_
  refine V_iadd (pc := 737) dL_law__737 ?_
  refine V_sld (pc := 738) hX hb0 hbA hi3 hx3 dL_law__738 ?_
  refine V_aload_n (pc := 739) dL_law__739 rfl rfl ?_
  refine V_iload (pc := 740) dL_law__740 rfl ?_
  refine V_iconst (pc := 742) dL_law__742 ic_4 ?_
  refine V_iadd (pc := 743) dL_law__743 ?_
  refine V_sld (pc := 744) hX hb0 hbA hi4 hx4 dL_law__744 ?_
  refine V_aload_n (pc := 745) dL_law__745 rfl rfl ?_
  refine V_iload (pc := 746) dL_law__746 rfl ?_
  refine V_iconst (pc := 748) dL_law__748 ic_5 ?_
  refine V_iadd (pc := 749) dL_law__749 ?_
  refine V_sld (pc := 750) hX hb0 hbA hi5 hx5 dL_law__750 ?_
  refine V_callVi (pc := 751) (As := [.int x1, .int x2, .int x3, .int x4, .int x5]) (rest := []) (c_X12_told w n x1 x2 x3 x4 x5 q715.2) cw_L_174 rfl rfl dL_law__751 kc_171 ci_12 ⟨by simp only [m_L_law_, m_X12_told]; omega, by simp only [m_L_law_, m_X12_told]; omega⟩ rfl rfl (Nat.le_of_ble_eq_true rfl) (by simp only [m_L_law_]; omega) (by simp only [m_L_law_]; omega) rfl (fun q751 => ?_)
  refine V_istore (pc := 754) (vs' := [some (.ref b0), some (.ref (wB w + 0)), some (.ref (wB w + 171)), some (.ref (wB w + 183)), some (.int i), some (.int q715.1), some (.int q751.1)]) dL_law__754 (Nat.le_of_ble_eq_true rfl) (Nat.le_of_ble_eq_true rfl) rfl ?_
  refine V_aload_n (pc := 756) dL_law__756 rfl rfl ?_
  refine V_callVpi (pc := 757) (As := []) (rest := []) (c_X12_thrown w  q751.2) cw_L_150 rfl rfl dL_law__757 kc_171 ci_12 ⟨by simp only [m_L_law_, m_X12_thrown]; omega, by simp only [m_L_law_, m_X12_thrown]; omega⟩ rfl rfl (Nat.le_of_ble_eq_true rfl) (by simp only [m_L_law_]; omega) (by simp only [m_L_law_]; omega) rfl (fun q757 => ?_)
  refine V_iload (pc := 760) dL_law__760 rfl ?_
  refine V_icmp_eq (pc := 762) (tgt := 767) dL_law__762 (by decide +kernel) ?_ ?_
  · refine V_iload (pc := 767) dL_law__767 rfl ?_
    refine V_if_ne (pc := 769) (tgt := 784) dL_law__769 (by decide +kernel) ?_ ?_
    · refine V_sub (vs' := [some (.ref b0), some (.ref (wB w + 0)), some (.ref (wB w + 171)), some (.ref (wB w + 183)), some (.int i), none, none]) (show vless _ _ from ⟨rfl, ⟨rfl, ⟨rfl, ⟨rfl, ⟨rfl, trivial⟩⟩⟩⟩⟩) rfl ?_
      exact hJ784 q751.2
    · refine V_aload_n (pc := 772) dL_law__772 rfl rfl ?_
      refine V_iconst (pc := 773) dL_law__773 ic_0 ?_
      refine V_lald (pc := 774) dL_law__774 ?_
      refine V_iload (pc := 775) dL_law__775 rfl ?_
      refine V_i2l (pc := 777) dL_law__777 ?_
      refine V_lcmpeq (pc := 778) (tgt := 784) dL_law__778 dL_law__779 (by decide) ?_ ?_
      · refine V_sub (vs' := [some (.ref b0), some (.ref (wB w + 0)), some (.ref (wB w + 171)), some (.ref (wB w + 183)), some (.int i), none, none]) (show vless _ _ from ⟨rfl, ⟨rfl, ⟨rfl, ⟨rfl, ⟨rfl, trivial⟩⟩⟩⟩⟩) rfl ?_
        exact hJ784 q751.2
      · refine V_iconst (pc := 782) dL_law__782 ic_0 ?_
        exact V_none
  · refine V_iconst (pc := 765) dL_law__765 ic_0 ?_
    exact V_none
theorem cl_175 : csw RL 175 m_L_share [(0, 10, 13, 13)] 4 := ⟨goodIn_of _ (by decide +kernel), by decide +kernel, by decide +kernel, by decide +kernel⟩
theorem wm_X12_share : wmp m_X12_share 2 := ⟨gx 1830 (by decide +kernel) (by decide +kernel), gx 1831 (by decide +kernel) (by decide +kernel), gx 138 (by decide +kernel) (by decide +kernel), gx 1832 (by decide +kernel) (by decide +kernel), by decide +kernel, by decide +kernel, by decide +kernel⟩
theorem cw_L_177 : cwp RL 177 m_X12_share 2 := cwp_of wm_X12_share (gx 1829 (by decide +kernel) (by decide +kernel))
def J_L_law__852 (n : Nat) (x1 x2 x3 x4 x5 : Int32) (σ : MS) : Option (MS) := some σ
def step_9 (n : Nat) (x1 x2 x3 x4 x5 : Int32) (σ : MS) : Option MS := ((f_L_share n x1 x2 σ).bind (fun q801 => ((f_X12_share n x1 x2 q801.2).bind (fun q819 => ((f_X12_thrown  q819.2).bind (fun q825 => (if q825 = q801.1 then (if q801.1 = 0 then (if (q819.2 183 0) = q819.1 then J_L_law__852 n x1 x2 x3 x4 x5 q819.2 else none) else J_L_law__852 n x1 x2 x3 x4 x5 q819.2) else none)))))))
set_option maxRecDepth 20000 in
set_option maxHeartbeats 2000000 in
theorem v_case_9 (w : TG) (g : VG) (kc ks : Nat) (Q : State → Prop) (n b0 L : Nat) (xs : Nat → Int32) (i x1 x2 x3 x4 x5 : Int32) (hkc : kc + 40 ≤ 601024) (hks : ks + 240 ≤ 7293034) (hX : va_X b0 L xs (gS g) (gS g).heap) (hb0 : b0 < (gS g).heap.size) (hbA : ¬ wA w b0) (hi1 : inb (i + (1 : Int32)) L = true) (hx1 : xs (ix (i + (1 : Int32))) = x1) (hi2 : inb (i + (2 : Int32)) L = true) (hx2 : xs (ix (i + (2 : Int32))) = x2) (hi3 : inb (i + (3 : Int32)) L = true) (hx3 : xs (ix (i + (3 : Int32))) = x3) (hi4 : inb (i + (4 : Int32)) L = true) (hx4 : xs (ix (i + (4 : Int32))) = x4) (hi5 : inb (i + (5 : Int32)) L = true) (hx5 : xs (ix (i + (5 : Int32))) = x5) (σ : MS) : VV m_L_law_ w g kc ks Q (fun s => VH m_L_law_ w g (kc + 20) (ks + 120) Q 2895 [some (.ref b0), some (.ref (wB w + 0)), some (.ref (wB w + 171)), some (.ref (wB w + 183)), some (.int i), none, none] [] s) 787 [some (.ref b0), some (.ref (wB w + 0)), some (.ref (wB w + 171)), some (.ref (wB w + 183)), some (.int i), none, none] [] σ (step_9 n x1 x2 x3 x4 x5 σ) := by
  unfold step_9
  have hJ852 : ∀ (σ : MS), VV m_L_law_ w g (kc + 2) (ks + 12) Q (fun s => VH m_L_law_ w g (kc + 20) (ks + 120) Q 2895 [some (.ref b0), some (.ref (wB w + 0)), some (.ref (wB w + 171)), some (.ref (wB w + 183)), some (.int i), none, none] [] s) 852 [some (.ref b0), some (.ref (wB w + 0)), some (.ref (wB w + 171)), some (.ref (wB w + 183)), some (.int i), none, none] [] σ (J_L_law__852 n x1 x2 x3 x4 x5 σ) := by
    intro σ
    refine V_goto (pc := 852) (tgt := 2895) dL_law__852 (by decide +kernel) ?_
    refine V_widen (kc' := kc + 20) (ks' := ks + 120) (by omega) (by omega) ?_
    exact V_back (fun h => h)
  refine V_aload_n (pc := 787) dL_law__787 rfl rfl ?_
  refine V_aload_n (pc := 788) dL_law__788 rfl rfl ?_
  refine V_iload (pc := 789) dL_law__789 rfl ?_
  refine V_iconst (pc := 791) dL_law__791 ic_1 ?_
  refine V_iadd (pc := 792) dL_law__792 ?_
  refine V_sld (pc := 793) hX hb0 hbA hi1 hx1 dL_law__793 ?_
  refine V_aload_n (pc := 794) dL_law__794 rfl rfl ?_
  refine V_iload (pc := 795) dL_law__795 rfl ?_
  refine V_iconst (pc := 797) dL_law__797 ic_2 ?_
  refine V_iadd (pc := 798) dL_law__798 ?_
  refine V_sld (pc := 799) hX hb0 hbA hi2 hx2 dL_law__799 ?_
  refine V_aload_n (pc := 800) dL_law__800 rfl rfl ?_
  refine V_callW (pc := 801) (As := [.ref (wB w + 0), .int x1, .int x2, .ref (wB w + 183)]) (rest := []) (c_L_share w n x1 x2 σ) cl_175 rfl rfl dL_law__801 ⟨by simp only [m_L_law_, m_L_share]; omega, by simp only [m_L_law_, m_L_share]; omega⟩ rfl rfl (Nat.le_of_ble_eq_true rfl) (by simp only [m_L_law_, m_L_share]; omega) (by simp only [m_L_law_, m_L_share]; omega) (fun q801 => ?_)
  show VV m_L_law_ w g (kc + 2) (ks + 12) Q (fun s => VH m_L_law_ w g (kc + 20) (ks + 120) Q 2895 [some (.ref b0), some (.ref (wB w + 0)), some (.ref (wB w + 171)), some (.ref (wB w + 183)), some (.int i), none, none] [] s) 804 [some (.ref b0), some (.ref (wB w + 0)), some (.ref (wB w + 171)), some (.ref (wB w + 183)), some (.int i), none, none] [.int q801.1] q801.2 _
  refine V_istore (pc := 804) (vs' := [some (.ref b0), some (.ref (wB w + 0)), some (.ref (wB w + 171)), some (.ref (wB w + 183)), some (.int i), some (.int q801.1), none]) dL_law__804 (Nat.le_of_ble_eq_true rfl) (Nat.le_of_ble_eq_true rfl) rfl ?_
  refine V_aload_n (pc := 806) dL_law__806 rfl rfl ?_
  refine V_aload_n (pc := 807) dL_law__807 rfl rfl ?_
  refine V_iload (pc := 808) dL_law__808 rfl ?_
  refine V_iconst (pc := 810) dL_law__810 ic_1 ?_
  refine V_iadd (pc := 811) dL_law__811 ?_
  refine V_sld (pc := 812) hX hb0 hbA hi1 hx1 dL_law__812 ?_
  refine V_aload_n (pc := 813) dL_law__813 rfl rfl ?_
  refine V_iload (pc := 814) dL_law__814 rfl ?_
  refine V_iconst (pc := 816) dL_law__816 ic_2 ?_
  refine V_iadd (pc := 817) dL_law__817 ?_
  refine V_sld (pc := 818) hX hb0 hbA hi2 hx2 dL_law__818 ?_
  refine V_callVi (pc := 819) (As := [.int x1, .int x2]) (rest := []) (c_X12_share w n x1 x2 q801.2) cw_L_177 rfl rfl dL_law__819 kc_171 ci_12 ⟨by simp only [m_L_law_, m_X12_share]; omega, by simp only [m_L_law_, m_X12_share]; omega⟩ rfl rfl (Nat.le_of_ble_eq_true rfl) (by simp only [m_L_law_]; omega) (by simp only [m_L_law_]; omega) rfl (fun q819 => ?_)
  refine V_istore (pc := 822) (vs' := [some (.ref b0), some (.ref (wB w + 0)), some (.ref (wB w + 171)), some (.ref (wB w + 183)), some (.int i), some (.int q801.1), some (.int q819.1)]) dL_law__822 (Nat.le_of_ble_eq_true rfl) (Nat.le_of_ble_eq_true rfl) rfl ?_
  refine V_aload_n (pc := 824) dL_law__824 rfl rfl ?_
  refine V_callVpi (pc := 825) (As := []) (rest := []) (c_X12_thrown w  q819.2) cw_L_150 rfl rfl dL_law__825 kc_171 ci_12 ⟨by simp only [m_L_law_, m_X12_thrown]; omega, by simp only [m_L_law_, m_X12_thrown]; omega⟩ rfl rfl (Nat.le_of_ble_eq_true rfl) (by simp only [m_L_law_]; omega) (by simp only [m_L_law_]; omega) rfl (fun q825 => ?_)
  refine V_iload (pc := 828) dL_law__828 rfl ?_
  refine V_icmp_eq (pc := 830) (tgt := 835) dL_law__830 (by decide +kernel) ?_ ?_
  · refine V_iload (pc := 835) dL_law__835 rfl ?_
    refine V_if_ne (pc := 837) (tgt := 852) dL_law__837 (by decide +kernel) ?_ ?_
    · refine V_sub (vs' := [some (.ref b0), some (.ref (wB w + 0)), some (.ref (wB w + 171)), some (.ref (wB w + 183)), some (.int i), none, none]) (show vless _ _ from ⟨rfl, ⟨rfl, ⟨rfl, ⟨rfl, ⟨rfl, trivial⟩⟩⟩⟩⟩) rfl ?_
      exact hJ852 q819.2
    · refine V_aload_n (pc := 840) dL_law__840 rfl rfl ?_
      refine V_iconst (pc := 841) dL_law__841 ic_0 ?_
      refine V_lald (pc := 842) dL_law__842 ?_
      refine V_iload (pc := 843) dL_law__843 rfl ?_
      refine V_i2l (pc := 845) dL_law__845 ?_
      refine V_lcmpeq (pc := 846) (tgt := 852) dL_law__846 dL_law__847 (by decide) ?_ ?_
      · refine V_sub (vs' := [some (.ref b0), some (.ref (wB w + 0)), some (.ref (wB w + 171)), some (.ref (wB w + 183)), some (.int i), none, none]) (show vless _ _ from ⟨rfl, ⟨rfl, ⟨rfl, ⟨rfl, ⟨rfl, trivial⟩⟩⟩⟩⟩) rfl ?_
        exact hJ852 q819.2
      · refine V_iconst (pc := 850) dL_law__850 ic_0 ?_
        exact V_none
  · refine V_iconst (pc := 833) dL_law__833 ic_0 ?_
    exact V_none
theorem cl_178 : csw RL 178 m_L_wash [(0, 10, 13, 24), (0, 10, 17, 13)] 4 := ⟨goodIn_of _ (by decide +kernel), by decide +kernel, by decide +kernel, by decide +kernel⟩
theorem wm_X12_wash : wmp m_X12_wash 2 := ⟨gx 2003 (by decide +kernel) (by decide +kernel), gx 2004 (by decide +kernel) (by decide +kernel), gx 138 (by decide +kernel) (by decide +kernel), gx 2005 (by decide +kernel) (by decide +kernel), by decide +kernel, by decide +kernel, by decide +kernel⟩
theorem cw_L_180 : cwp RL 180 m_X12_wash 2 := cwp_of wm_X12_wash (gx 2002 (by decide +kernel) (by decide +kernel))
def J_L_law__920 (n : Nat) (x1 x2 x3 x4 x5 : Int32) (σ : MS) : Option (MS) := some σ
def step_10 (n : Nat) (x1 x2 x3 x4 x5 : Int32) (σ : MS) : Option MS := ((f_L_wash x1 x2 σ).bind (fun q869 => ((f_X12_wash n x1 x2 q869.2).bind (fun q887 => ((f_X12_thrown  q887.2).bind (fun q893 => (if q893 = q869.1 then (if q869.1 = 0 then (if (q887.2 183 0) = q887.1 then J_L_law__920 n x1 x2 x3 x4 x5 q887.2 else none) else J_L_law__920 n x1 x2 x3 x4 x5 q887.2) else none)))))))
set_option maxRecDepth 20000 in
set_option maxHeartbeats 2000000 in
theorem v_case_10 (w : TG) (g : VG) (kc ks : Nat) (Q : State → Prop) (n b0 L : Nat) (xs : Nat → Int32) (i x1 x2 x3 x4 x5 : Int32) (hkc : kc + 40 ≤ 601024) (hks : ks + 240 ≤ 7293034) (hX : va_X b0 L xs (gS g) (gS g).heap) (hb0 : b0 < (gS g).heap.size) (hbA : ¬ wA w b0) (hi1 : inb (i + (1 : Int32)) L = true) (hx1 : xs (ix (i + (1 : Int32))) = x1) (hi2 : inb (i + (2 : Int32)) L = true) (hx2 : xs (ix (i + (2 : Int32))) = x2) (hi3 : inb (i + (3 : Int32)) L = true) (hx3 : xs (ix (i + (3 : Int32))) = x3) (hi4 : inb (i + (4 : Int32)) L = true) (hx4 : xs (ix (i + (4 : Int32))) = x4) (hi5 : inb (i + (5 : Int32)) L = true) (hx5 : xs (ix (i + (5 : Int32))) = x5) (σ : MS) : VV m_L_law_ w g kc ks Q (fun s => VH m_L_law_ w g (kc + 20) (ks + 120) Q 2895 [some (.ref b0), some (.ref (wB w + 0)), some (.ref (wB w + 171)), some (.ref (wB w + 183)), some (.int i), none, none] [] s) 855 [some (.ref b0), some (.ref (wB w + 0)), some (.ref (wB w + 171)), some (.ref (wB w + 183)), some (.int i), none, none] [] σ (step_10 n x1 x2 x3 x4 x5 σ) := by
  unfold step_10
  have hJ920 : ∀ (σ : MS), VV m_L_law_ w g (kc + 3) (ks + 18) Q (fun s => VH m_L_law_ w g (kc + 20) (ks + 120) Q 2895 [some (.ref b0), some (.ref (wB w + 0)), some (.ref (wB w + 171)), some (.ref (wB w + 183)), some (.int i), none, none] [] s) 920 [some (.ref b0), some (.ref (wB w + 0)), some (.ref (wB w + 171)), some (.ref (wB w + 183)), some (.int i), none, none] [] σ (J_L_law__920 n x1 x2 x3 x4 x5 σ) := by
    intro σ
    refine V_goto (pc := 920) (tgt := 2895) dL_law__920 (by decide +kernel) ?_
    refine V_widen (kc' := kc + 20) (ks' := ks + 120) (by omega) (by omega) ?_
    exact V_back (fun h => h)
  refine V_aload_n (pc := 855) dL_law__855 rfl rfl ?_
  refine V_aload_n (pc := 856) dL_law__856 rfl rfl ?_
  refine V_iload (pc := 857) dL_law__857 rfl ?_
  refine V_iconst (pc := 859) dL_law__859 ic_1 ?_
  refine V_iadd (pc := 860) dL_law__860 ?_
  refine V_sld (pc := 861) hX hb0 hbA hi1 hx1 dL_law__861 ?_
  refine V_aload_n (pc := 862) dL_law__862 rfl rfl ?_
  refine V_iload (pc := 863) dL_law__863 rfl ?_
  refine V_iconst (pc := 865) dL_law__865 ic_2 ?_
  refine V_iadd (pc := 866) dL_law__866 ?_
  refine V_sld (pc := 867) hX hb0 hbA hi2 hx2 dL_law__867 ?_
  refine V_aload_n (pc := 868) dL_law__868 rfl rfl ?_
  refine V_callW (pc := 869) (As := [.ref (wB w + 0), .int x1, .int x2, .ref (wB w + 183)]) (rest := []) (c_L_wash w x1 x2 σ) cl_178 rfl rfl dL_law__869 ⟨by simp only [m_L_law_, m_L_wash]; omega, by simp only [m_L_law_, m_L_wash]; omega⟩ rfl rfl (Nat.le_of_ble_eq_true rfl) (by simp only [m_L_law_, m_L_wash]; omega) (by simp only [m_L_law_, m_L_wash]; omega) (fun q869 => ?_)
  show VV m_L_law_ w g (kc + 3) (ks + 18) Q (fun s => VH m_L_law_ w g (kc + 20) (ks + 120) Q 2895 [some (.ref b0), some (.ref (wB w + 0)), some (.ref (wB w + 171)), some (.ref (wB w + 183)), some (.int i), none, none] [] s) 872 [some (.ref b0), some (.ref (wB w + 0)), some (.ref (wB w + 171)), some (.ref (wB w + 183)), some (.int i), none, none] [.int q869.1] q869.2 _
  refine V_istore (pc := 872) (vs' := [some (.ref b0), some (.ref (wB w + 0)), some (.ref (wB w + 171)), some (.ref (wB w + 183)), some (.int i), some (.int q869.1), none]) dL_law__872 (Nat.le_of_ble_eq_true rfl) (Nat.le_of_ble_eq_true rfl) rfl ?_
  refine V_aload_n (pc := 874) dL_law__874 rfl rfl ?_
  refine V_aload_n (pc := 875) dL_law__875 rfl rfl ?_
  refine V_iload (pc := 876) dL_law__876 rfl ?_
  refine V_iconst (pc := 878) dL_law__878 ic_1 ?_
  refine V_iadd (pc := 879) dL_law__879 ?_
  refine V_sld (pc := 880) hX hb0 hbA hi1 hx1 dL_law__880 ?_
  refine V_aload_n (pc := 881) dL_law__881 rfl rfl ?_
  refine V_iload (pc := 882) dL_law__882 rfl ?_
  refine V_iconst (pc := 884) dL_law__884 ic_2 ?_
  refine V_iadd (pc := 885) dL_law__885 ?_
  refine V_sld (pc := 886) hX hb0 hbA hi2 hx2 dL_law__886 ?_
  refine V_callVi (pc := 887) (As := [.int x1, .int x2]) (rest := []) (c_X12_wash w n x1 x2 q869.2) cw_L_180 rfl rfl dL_law__887 kc_171 ci_12 ⟨by simp only [m_L_law_, m_X12_wash]; omega, by simp only [m_L_law_, m_X12_wash]; omega⟩ rfl rfl (Nat.le_of_ble_eq_true rfl) (by simp only [m_L_law_]; omega) (by simp only [m_L_law_]; omega) rfl (fun q887 => ?_)
  refine V_istore (pc := 890) (vs' := [some (.ref b0), some (.ref (wB w + 0)), some (.ref (wB w + 171)), some (.ref (wB w + 183)), some (.int i), some (.int q869.1), some (.int q887.1)]) dL_law__890 (Nat.le_of_ble_eq_true rfl) (Nat.le_of_ble_eq_true rfl) rfl ?_
  refine V_aload_n (pc := 892) dL_law__892 rfl rfl ?_
  refine V_callVpi (pc := 893) (As := []) (rest := []) (c_X12_thrown w  q887.2) cw_L_150 rfl rfl dL_law__893 kc_171 ci_12 ⟨by simp only [m_L_law_, m_X12_thrown]; omega, by simp only [m_L_law_, m_X12_thrown]; omega⟩ rfl rfl (Nat.le_of_ble_eq_true rfl) (by simp only [m_L_law_]; omega) (by simp only [m_L_law_]; omega) rfl (fun q893 => ?_)
  refine V_iload (pc := 896) dL_law__896 rfl ?_
  refine V_icmp_eq (pc := 898) (tgt := 903) dL_law__898 (by decide +kernel) ?_ ?_
  · refine V_iload (pc := 903) dL_law__903 rfl ?_
    refine V_if_ne (pc := 905) (tgt := 920) dL_law__905 (by decide +kernel) ?_ ?_
    · refine V_sub (vs' := [some (.ref b0), some (.ref (wB w + 0)), some (.ref (wB w + 171)), some (.ref (wB w + 183)), some (.int i), none, none]) (show vless _ _ from ⟨rfl, ⟨rfl, ⟨rfl, ⟨rfl, ⟨rfl, trivial⟩⟩⟩⟩⟩) rfl ?_
      exact hJ920 q887.2
    · refine V_aload_n (pc := 908) dL_law__908 rfl rfl ?_
      refine V_iconst (pc := 909) dL_law__909 ic_0 ?_
      refine V_lald (pc := 910) dL_law__910 ?_
      refine V_iload (pc := 911) dL_law__911 rfl ?_
      refine V_i2l (pc := 913) dL_law__913 ?_
      refine V_lcmpeq (pc := 914) (tgt := 920) dL_law__914 dL_law__915 (by decide) ?_ ?_
      · refine V_sub (vs' := [some (.ref b0), some (.ref (wB w + 0)), some (.ref (wB w + 171)), some (.ref (wB w + 183)), some (.int i), none, none]) (show vless _ _ from ⟨rfl, ⟨rfl, ⟨rfl, ⟨rfl, ⟨rfl, trivial⟩⟩⟩⟩⟩) rfl ?_
        exact hJ920 q887.2
      · refine V_iconst (pc := 918) dL_law__918 ic_0 ?_
        exact V_none
  · refine V_iconst (pc := 901) dL_law__901 ic_0 ?_
    exact V_none
theorem cl_181 : csw RL 181 m_L_go [(0, 10, 13, 24)] 4 := ⟨goodIn_of _ (by decide +kernel), by decide +kernel, by decide +kernel, by decide +kernel⟩
theorem wm_X12_go : wmp m_X12_go 2 := ⟨gx 2007 (by decide +kernel) (by decide +kernel), gx 2008 (by decide +kernel) (by decide +kernel), gx 138 (by decide +kernel) (by decide +kernel), gx 2009 (by decide +kernel) (by decide +kernel), by decide +kernel, by decide +kernel, by decide +kernel⟩
theorem cw_L_183 : cwp RL 183 m_X12_go 2 := cwp_of wm_X12_go (gx 2006 (by decide +kernel) (by decide +kernel))
def J_L_law__988 (n : Nat) (x1 x2 x3 x4 x5 : Int32) (σ : MS) : Option (MS) := some σ
def step_11 (n : Nat) (x1 x2 x3 x4 x5 : Int32) (σ : MS) : Option MS := ((f_L_go x1 x2 σ).bind (fun q937 => ((f_X12_go n x1 x2 q937.2).bind (fun q955 => ((f_X12_thrown  q955.2).bind (fun q961 => (if q961 = q937.1 then (if q937.1 = 0 then (if (q955.2 183 0) = q955.1 then J_L_law__988 n x1 x2 x3 x4 x5 q955.2 else none) else J_L_law__988 n x1 x2 x3 x4 x5 q955.2) else none)))))))
set_option maxRecDepth 20000 in
set_option maxHeartbeats 2000000 in
theorem v_case_11 (w : TG) (g : VG) (kc ks : Nat) (Q : State → Prop) (n b0 L : Nat) (xs : Nat → Int32) (i x1 x2 x3 x4 x5 : Int32) (hkc : kc + 40 ≤ 601024) (hks : ks + 240 ≤ 7293034) (hX : va_X b0 L xs (gS g) (gS g).heap) (hb0 : b0 < (gS g).heap.size) (hbA : ¬ wA w b0) (hi1 : inb (i + (1 : Int32)) L = true) (hx1 : xs (ix (i + (1 : Int32))) = x1) (hi2 : inb (i + (2 : Int32)) L = true) (hx2 : xs (ix (i + (2 : Int32))) = x2) (hi3 : inb (i + (3 : Int32)) L = true) (hx3 : xs (ix (i + (3 : Int32))) = x3) (hi4 : inb (i + (4 : Int32)) L = true) (hx4 : xs (ix (i + (4 : Int32))) = x4) (hi5 : inb (i + (5 : Int32)) L = true) (hx5 : xs (ix (i + (5 : Int32))) = x5) (σ : MS) : VV m_L_law_ w g kc ks Q (fun s => VH m_L_law_ w g (kc + 20) (ks + 120) Q 2895 [some (.ref b0), some (.ref (wB w + 0)), some (.ref (wB w + 171)), some (.ref (wB w + 183)), some (.int i), none, none] [] s) 923 [some (.ref b0), some (.ref (wB w + 0)), some (.ref (wB w + 171)), some (.ref (wB w + 183)), some (.int i), none, none] [] σ (step_11 n x1 x2 x3 x4 x5 σ) := by
  unfold step_11
  have hJ988 : ∀ (σ : MS), VV m_L_law_ w g (kc + 2) (ks + 12) Q (fun s => VH m_L_law_ w g (kc + 20) (ks + 120) Q 2895 [some (.ref b0), some (.ref (wB w + 0)), some (.ref (wB w + 171)), some (.ref (wB w + 183)), some (.int i), none, none] [] s) 988 [some (.ref b0), some (.ref (wB w + 0)), some (.ref (wB w + 171)), some (.ref (wB w + 183)), some (.int i), none, none] [] σ (J_L_law__988 n x1 x2 x3 x4 x5 σ) := by
    intro σ
    refine V_goto (pc := 988) (tgt := 2895) dL_law__988 (by decide +kernel) ?_
    refine V_widen (kc' := kc + 20) (ks' := ks + 120) (by omega) (by omega) ?_
    exact V_back (fun h => h)
  refine V_aload_n (pc := 923) dL_law__923 rfl rfl ?_
  refine V_aload_n (pc := 924) dL_law__924 rfl rfl ?_
  refine V_iload (pc := 925) dL_law__925 rfl ?_
  refine V_iconst (pc := 927) dL_law__927 ic_1 ?_
  refine V_iadd (pc := 928) dL_law__928 ?_
  refine V_sld (pc := 929) hX hb0 hbA hi1 hx1 dL_law__929 ?_
  refine V_aload_n (pc := 930) dL_law__930 rfl rfl ?_
  refine V_iload (pc := 931) dL_law__931 rfl ?_
  refine V_iconst (pc := 933) dL_law__933 ic_2 ?_
  refine V_iadd (pc := 934) dL_law__934 ?_
  refine V_sld (pc := 935) hX hb0 hbA hi2 hx2 dL_law__935 ?_
  refine V_aload_n (pc := 936) dL_law__936 rfl rfl ?_
  refine V_callW (pc := 937) (As := [.ref (wB w + 0), .int x1, .int x2, .ref (wB w + 183)]) (rest := []) (c_L_go w x1 x2 σ) cl_181 rfl rfl dL_law__937 ⟨by simp only [m_L_law_, m_L_go]; omega, by simp only [m_L_law_, m_L_go]; omega⟩ rfl rfl (Nat.le_of_ble_eq_true rfl) (by simp only [m_L_law_, m_L_go]; omega) (by simp only [m_L_law_, m_L_go]; omega) (fun q937 => ?_)
  show VV m_L_law_ w g (kc + 2) (ks + 12) Q (fun s => VH m_L_law_ w g (kc + 20) (ks + 120) Q 2895 [some (.ref b0), some (.ref (wB w + 0)), some (.ref (wB w + 171)), some (.ref (wB w + 183)), some (.int i), none, none] [] s) 940 [some (.ref b0), some (.ref (wB w + 0)), some (.ref (wB w + 171)), some (.ref (wB w + 183)), some (.int i), none, none] [.int q937.1] q937.2 _
  refine V_istore (pc := 940) (vs' := [some (.ref b0), some (.ref (wB w + 0)), some (.ref (wB w + 171)), some (.ref (wB w + 183)), some (.int i), some (.int q937.1), none]) dL_law__940 (Nat.le_of_ble_eq_true rfl) (Nat.le_of_ble_eq_true rfl) rfl ?_
  refine V_aload_n (pc := 942) dL_law__942 rfl rfl ?_
  refine V_aload_n (pc := 943) dL_law__943 rfl rfl ?_
  refine V_iload (pc := 944) dL_law__944 rfl ?_
  refine V_iconst (pc := 946) dL_law__946 ic_1 ?_
  refine V_iadd (pc := 947) dL_law__947 ?_
  refine V_sld (pc := 948) hX hb0 hbA hi1 hx1 dL_law__948 ?_
  refine V_aload_n (pc := 949) dL_law__949 rfl rfl ?_
  refine V_iload (pc := 950) dL_law__950 rfl ?_
  refine V_iconst (pc := 952) dL_law__952 ic_2 ?_
  refine V_iadd (pc := 953) dL_law__953 ?_
  refine V_sld (pc := 954) hX hb0 hbA hi2 hx2 dL_law__954 ?_
  refine V_callVi (pc := 955) (As := [.int x1, .int x2]) (rest := []) (c_X12_go w n x1 x2 q937.2) cw_L_183 rfl rfl dL_law__955 kc_171 ci_12 ⟨by simp only [m_L_law_, m_X12_go]; omega, by simp only [m_L_law_, m_X12_go]; omega⟩ rfl rfl (Nat.le_of_ble_eq_true rfl) (by simp only [m_L_law_]; omega) (by simp only [m_L_law_]; omega) rfl (fun q955 => ?_)
  refine V_istore (pc := 958) (vs' := [some (.ref b0), some (.ref (wB w + 0)), some (.ref (wB w + 171)), some (.ref (wB w + 183)), some (.int i), some (.int q937.1), some (.int q955.1)]) dL_law__958 (Nat.le_of_ble_eq_true rfl) (Nat.le_of_ble_eq_true rfl) rfl ?_
  refine V_aload_n (pc := 960) dL_law__960 rfl rfl ?_
  refine V_callVpi (pc := 961) (As := []) (rest := []) (c_X12_thrown w  q955.2) cw_L_150 rfl rfl dL_law__961 kc_171 ci_12 ⟨by simp only [m_L_law_, m_X12_thrown]; omega, by simp only [m_L_law_, m_X12_thrown]; omega⟩ rfl rfl (Nat.le_of_ble_eq_true rfl) (by simp only [m_L_law_]; omega) (by simp only [m_L_law_]; omega) rfl (fun q961 => ?_)
  refine V_iload (pc := 964) dL_law__964 rfl ?_
  refine V_icmp_eq (pc := 966) (tgt := 971) dL_law__966 (by decide +kernel) ?_ ?_
  · refine V_iload (pc := 971) dL_law__971 rfl ?_
    refine V_if_ne (pc := 973) (tgt := 988) dL_law__973 (by decide +kernel) ?_ ?_
    · refine V_sub (vs' := [some (.ref b0), some (.ref (wB w + 0)), some (.ref (wB w + 171)), some (.ref (wB w + 183)), some (.int i), none, none]) (show vless _ _ from ⟨rfl, ⟨rfl, ⟨rfl, ⟨rfl, ⟨rfl, trivial⟩⟩⟩⟩⟩) rfl ?_
      exact hJ988 q955.2
    · refine V_aload_n (pc := 976) dL_law__976 rfl rfl ?_
      refine V_iconst (pc := 977) dL_law__977 ic_0 ?_
      refine V_lald (pc := 978) dL_law__978 ?_
      refine V_iload (pc := 979) dL_law__979 rfl ?_
      refine V_i2l (pc := 981) dL_law__981 ?_
      refine V_lcmpeq (pc := 982) (tgt := 988) dL_law__982 dL_law__983 (by decide) ?_ ?_
      · refine V_sub (vs' := [some (.ref b0), some (.ref (wB w + 0)), some (.ref (wB w + 171)), some (.ref (wB w + 183)), some (.int i), none, none]) (show vless _ _ from ⟨rfl, ⟨rfl, ⟨rfl, ⟨rfl, ⟨rfl, trivial⟩⟩⟩⟩⟩) rfl ?_
        exact hJ988 q955.2
      · refine V_iconst (pc := 986) dL_law__986 ic_0 ?_
        exact V_none
  · refine V_iconst (pc := 969) dL_law__969 ic_0 ?_
    exact V_none
theorem wm_X12_strew : wmp m_X12_strew 2 := ⟨gx 2011 (by decide +kernel) (by decide +kernel), gx 2012 (by decide +kernel) (by decide +kernel), gx 138 (by decide +kernel) (by decide +kernel), gx 2013 (by decide +kernel) (by decide +kernel), by decide +kernel, by decide +kernel, by decide +kernel⟩
theorem cw_L_187 : cwp RL 187 m_X12_strew 2 := cwp_of wm_X12_strew (gx 2010 (by decide +kernel) (by decide +kernel))
theorem cl_184 : csw RL 184 m_L_strew [(0, 17, 20, 24)] 4 := ⟨goodIn_of _ (by decide +kernel), by decide +kernel, by decide +kernel, by decide +kernel⟩
def J_L_law__1079 (n : Nat) (x1 x2 x3 x4 x5 : Int32) (σ : MS) : Option (MS) := some σ
def J_L_law__1073 (n : Nat) (x1 x2 x3 x4 x5 : Int32) (t0 : Int32) (t1 : Int32) (σ : MS) : Option (MS) := (if t1 = t0 then J_L_law__1079 n x1 x2 x3 x4 x5 σ else none)
def J_L_law__1039 (n : Nat) (v5 : Int32) (x1 x2 x3 x4 x5 : Int32) (t0 : Int32) (t1 : Int32) (σ : MS) : Option (MS) := ((f_X12_strew n t1 t0 σ).bind (fun q1039 => ((f_X12_thrown  q1039.2).bind (fun q1045 => (if q1045 = v5 then (if v5 = 0 then (if q1039.1 = 0 then J_L_law__1073 n x1 x2 x3 x4 x5 (0 : Int32) (q1039.2 183 0) q1039.2 else J_L_law__1073 n x1 x2 x3 x4 x5 (1 : Int32) (q1039.2 183 0) q1039.2) else J_L_law__1079 n x1 x2 x3 x4 x5 q1039.2) else none)))))
def J_L_law__1012 (n : Nat) (x1 x2 x3 x4 x5 : Int32) (t0 : Int32) (t1 : Int32) (σ : MS) : Option (MS) := ((f_L_strew t1 t0 σ).bind (fun q1013 => (if x2 = 0 then J_L_law__1039 n q1013.1 x1 x2 x3 x4 x5 (0 : Int32) x1 q1013.2 else J_L_law__1039 n q1013.1 x1 x2 x3 x4 x5 (1 : Int32) x1 q1013.2)))
def step_12 (n : Nat) (x1 x2 x3 x4 x5 : Int32) (σ : MS) : Option MS := (if x2 = 0 then J_L_law__1012 n x1 x2 x3 x4 x5 (0 : Int32) x1 σ else J_L_law__1012 n x1 x2 x3 x4 x5 (1 : Int32) x1 σ)
set_option maxRecDepth 20000 in
set_option maxHeartbeats 2000000 in
theorem v_case_12 (w : TG) (g : VG) (kc ks : Nat) (Q : State → Prop) (n b0 L : Nat) (xs : Nat → Int32) (i x1 x2 x3 x4 x5 : Int32) (hkc : kc + 40 ≤ 601024) (hks : ks + 240 ≤ 7293034) (hX : va_X b0 L xs (gS g) (gS g).heap) (hb0 : b0 < (gS g).heap.size) (hbA : ¬ wA w b0) (hi1 : inb (i + (1 : Int32)) L = true) (hx1 : xs (ix (i + (1 : Int32))) = x1) (hi2 : inb (i + (2 : Int32)) L = true) (hx2 : xs (ix (i + (2 : Int32))) = x2) (hi3 : inb (i + (3 : Int32)) L = true) (hx3 : xs (ix (i + (3 : Int32))) = x3) (hi4 : inb (i + (4 : Int32)) L = true) (hx4 : xs (ix (i + (4 : Int32))) = x4) (hi5 : inb (i + (5 : Int32)) L = true) (hx5 : xs (ix (i + (5 : Int32))) = x5) (σ : MS) : VV m_L_law_ w g kc ks Q (fun s => VH m_L_law_ w g (kc + 20) (ks + 120) Q 2895 [some (.ref b0), some (.ref (wB w + 0)), some (.ref (wB w + 171)), some (.ref (wB w + 183)), some (.int i), none, none] [] s) 991 [some (.ref b0), some (.ref (wB w + 0)), some (.ref (wB w + 171)), some (.ref (wB w + 183)), some (.int i), none, none] [] σ (step_12 n x1 x2 x3 x4 x5 σ) := by
  unfold step_12
  have hJ1079 : ∀ (σ : MS), VV m_L_law_ w g (kc + 1) (ks + 6) Q (fun s => VH m_L_law_ w g (kc + 20) (ks + 120) Q 2895 [some (.ref b0), some (.ref (wB w + 0)), some (.ref (wB w + 171)), some (.ref (wB w + 183)), some (.int i), none, none] [] s) 1079 [some (.ref b0), some (.ref (wB w + 0)), some (.ref (wB w + 171)), some (.ref (wB w + 183)), some (.int i), none, none] [] σ (J_L_law__1079 n x1 x2 x3 x4 x5 σ) := by
    intro σ
    refine V_goto (pc := 1079) (tgt := 2895) dL_law__1079 (by decide +kernel) ?_
    refine V_widen (kc' := kc + 20) (ks' := ks + 120) (by omega) (by omega) ?_
    exact V_back (fun h => h)
  have hJ1073 : ∀ (t0 : Int32) (t1 : Int32) (σ : MS), VV m_L_law_ w g (kc + 1) (ks + 6) Q (fun s => VH m_L_law_ w g (kc + 20) (ks + 120) Q 2895 [some (.ref b0), some (.ref (wB w + 0)), some (.ref (wB w + 171)), some (.ref (wB w + 183)), some (.int i), none, none] [] s) 1073 [some (.ref b0), some (.ref (wB w + 0)), some (.ref (wB w + 171)), some (.ref (wB w + 183)), some (.int i), none, none] [.long (t0).toInt64, .long (t1).toInt64] σ (J_L_law__1073 n x1 x2 x3 x4 x5 t0 t1 σ) := by
    intro t0 t1 σ
    refine V_lcmpeq (pc := 1073) (tgt := 1079) dL_law__1073 dL_law__1074 (by decide) ?_ ?_
    · exact hJ1079 σ
    · refine V_iconst (pc := 1077) dL_law__1077 ic_0 ?_
      exact V_none
  have hJ1039 : ∀ (v5 : Int32) (t0 : Int32) (t1 : Int32) (σ : MS), VV m_L_law_ w g (kc + 1) (ks + 6) Q (fun s => VH m_L_law_ w g (kc + 20) (ks + 120) Q 2895 [some (.ref b0), some (.ref (wB w + 0)), some (.ref (wB w + 171)), some (.ref (wB w + 183)), some (.int i), none, none] [] s) 1039 [some (.ref b0), some (.ref (wB w + 0)), some (.ref (wB w + 171)), some (.ref (wB w + 183)), some (.int i), some (.int v5), none] [.int t0, .int t1, .ref (wB w + 171)] σ (J_L_law__1039 n v5 x1 x2 x3 x4 x5 t0 t1 σ) := by
    intro v5 t0 t1 σ
    refine V_callVi (pc := 1039) (As := [.int t1, .int t0]) (rest := []) (c_X12_strew w n t1 t0 σ) cw_L_187 rfl rfl dL_law__1039 kc_171 ci_12 ⟨by simp only [m_L_law_, m_X12_strew]; omega, by simp only [m_L_law_, m_X12_strew]; omega⟩ rfl rfl (Nat.le_of_ble_eq_true rfl) (by simp only [m_L_law_]; omega) (by simp only [m_L_law_]; omega) rfl (fun q1039 => ?_)
    refine V_istore (pc := 1042) (vs' := [some (.ref b0), some (.ref (wB w + 0)), some (.ref (wB w + 171)), some (.ref (wB w + 183)), some (.int i), some (.int v5), some (.int q1039.1)]) dL_law__1042 (Nat.le_of_ble_eq_true rfl) (Nat.le_of_ble_eq_true rfl) rfl ?_
    refine V_aload_n (pc := 1044) dL_law__1044 rfl rfl ?_
    refine V_callVpi (pc := 1045) (As := []) (rest := []) (c_X12_thrown w  q1039.2) cw_L_150 rfl rfl dL_law__1045 kc_171 ci_12 ⟨by simp only [m_L_law_, m_X12_thrown]; omega, by simp only [m_L_law_, m_X12_thrown]; omega⟩ rfl rfl (Nat.le_of_ble_eq_true rfl) (by simp only [m_L_law_]; omega) (by simp only [m_L_law_]; omega) rfl (fun q1045 => ?_)
    refine V_iload (pc := 1048) dL_law__1048 rfl ?_
    refine V_icmp_eq (pc := 1050) (tgt := 1055) dL_law__1050 (by decide +kernel) ?_ ?_
    · refine V_iload (pc := 1055) dL_law__1055 rfl ?_
      refine V_if_ne (pc := 1057) (tgt := 1079) dL_law__1057 (by decide +kernel) ?_ ?_
      · refine V_sub (vs' := [some (.ref b0), some (.ref (wB w + 0)), some (.ref (wB w + 171)), some (.ref (wB w + 183)), some (.int i), none, none]) (show vless _ _ from ⟨rfl, ⟨rfl, ⟨rfl, ⟨rfl, ⟨rfl, trivial⟩⟩⟩⟩⟩) rfl ?_
        exact hJ1079 q1039.2
      · refine V_aload_n (pc := 1060) dL_law__1060 rfl rfl ?_
        refine V_iconst (pc := 1061) dL_law__1061 ic_0 ?_
        refine V_lald (pc := 1062) dL_law__1062 ?_
        refine V_iload (pc := 1063) dL_law__1063 rfl ?_
        refine V_if_eq (pc := 1065) (tgt := 1072) dL_law__1065 (by decide +kernel) ?_ ?_
        · refine V_lconst (pc := 1072) (v := ((0 : Int32)).toInt64) dL_law__1072 rfl ?_
          refine V_sub (vs' := [some (.ref b0), some (.ref (wB w + 0)), some (.ref (wB w + 171)), some (.ref (wB w + 183)), some (.int i), none, none]) (show vless _ _ from ⟨rfl, ⟨rfl, ⟨rfl, ⟨rfl, ⟨rfl, trivial⟩⟩⟩⟩⟩) rfl ?_
          exact hJ1073 (0 : Int32) (q1039.2 183 0) q1039.2
        · refine V_lconst (pc := 1068) (v := ((1 : Int32)).toInt64) dL_law__1068 rfl ?_
          refine V_goto (pc := 1069) (tgt := 1073) dL_law__1069 (by decide +kernel) ?_
          refine V_sub (vs' := [some (.ref b0), some (.ref (wB w + 0)), some (.ref (wB w + 171)), some (.ref (wB w + 183)), some (.int i), none, none]) (show vless _ _ from ⟨rfl, ⟨rfl, ⟨rfl, ⟨rfl, ⟨rfl, trivial⟩⟩⟩⟩⟩) rfl ?_
          exact hJ1073 (1 : Int32) (q1039.2 183 0) q1039.2
    · refine V_iconst (pc := 1053) dL_law__1053 ic_0 ?_
      exact V_none
  have hJ1012 : ∀ (t0 : Int32) (t1 : Int32) (σ : MS), VV m_L_law_ w g kc ks Q (fun s => VH m_L_law_ w g (kc + 20) (ks + 120) Q 2895 [some (.ref b0), some (.ref (wB w + 0)), some (.ref (wB w + 171)), some (.ref (wB w + 183)), some (.int i), none, none] [] s) 1012 [some (.ref b0), some (.ref (wB w + 0)), some (.ref (wB w + 171)), some (.ref (wB w + 183)), some (.int i), none, none] [.int t0, .int t1, .ref (wB w + 0)] σ (J_L_law__1012 n x1 x2 x3 x4 x5 t0 t1 σ) := by
    intro t0 t1 σ
    refine V_aload_n (pc := 1012) dL_law__1012 rfl rfl ?_
    refine V_callW (pc := 1013) (As := [.ref (wB w + 0), .int t1, .int t0, .ref (wB w + 183)]) (rest := []) (c_L_strew w t1 t0 σ) cl_184 rfl rfl dL_law__1013 ⟨by simp only [m_L_law_, m_L_strew]; omega, by simp only [m_L_law_, m_L_strew]; omega⟩ rfl rfl (Nat.le_of_ble_eq_true rfl) (by simp only [m_L_law_, m_L_strew]; omega) (by simp only [m_L_law_, m_L_strew]; omega) (fun q1013 => ?_)
    show VV m_L_law_ w g (kc + 1) (ks + 6) Q (fun s => VH m_L_law_ w g (kc + 20) (ks + 120) Q 2895 [some (.ref b0), some (.ref (wB w + 0)), some (.ref (wB w + 171)), some (.ref (wB w + 183)), some (.int i), none, none] [] s) 1016 [some (.ref b0), some (.ref (wB w + 0)), some (.ref (wB w + 171)), some (.ref (wB w + 183)), some (.int i), none, none] [.int q1013.1] q1013.2 _
    refine V_istore (pc := 1016) (vs' := [some (.ref b0), some (.ref (wB w + 0)), some (.ref (wB w + 171)), some (.ref (wB w + 183)), some (.int i), some (.int q1013.1), none]) dL_law__1016 (Nat.le_of_ble_eq_true rfl) (Nat.le_of_ble_eq_true rfl) rfl ?_
    refine V_aload_n (pc := 1018) dL_law__1018 rfl rfl ?_
    refine V_aload_n (pc := 1019) dL_law__1019 rfl rfl ?_
    refine V_iload (pc := 1020) dL_law__1020 rfl ?_
    refine V_iconst (pc := 1022) dL_law__1022 ic_1 ?_
    refine V_iadd (pc := 1023) dL_law__1023 ?_
    refine V_sld (pc := 1024) hX hb0 hbA hi1 hx1 dL_law__1024 ?_
    refine V_aload_n (pc := 1025) dL_law__1025 rfl rfl ?_
    refine V_iload (pc := 1026) dL_law__1026 rfl ?_
    refine V_iconst (pc := 1028) dL_law__1028 ic_2 ?_
    refine V_iadd (pc := 1029) dL_law__1029 ?_
    refine V_sld (pc := 1030) hX hb0 hbA hi2 hx2 dL_law__1030 ?_
    refine V_if_eq (pc := 1031) (tgt := 1038) dL_law__1031 (by decide +kernel) ?_ ?_
    · refine V_iconst (pc := 1038) dL_law__1038 ic_0 ?_
      exact hJ1039 q1013.1 (0 : Int32) x1 q1013.2
    · refine V_iconst (pc := 1034) dL_law__1034 ic_1 ?_
      refine V_goto (pc := 1035) (tgt := 1039) dL_law__1035 (by decide +kernel) ?_
      exact hJ1039 q1013.1 (1 : Int32) x1 q1013.2
  refine V_aload_n (pc := 991) dL_law__991 rfl rfl ?_
  refine V_aload_n (pc := 992) dL_law__992 rfl rfl ?_
  refine V_iload (pc := 993) dL_law__993 rfl ?_
  refine V_iconst (pc := 995) dL_law__995 ic_1 ?_
  refine V_iadd (pc := 996) dL_law__996 ?_
  refine V_sld (pc := 997) hX hb0 hbA hi1 hx1 dL_law__997 ?_
  refine V_aload_n (pc := 998) dL_law__998 rfl rfl ?_
  refine V_iload (pc := 999) dL_law__999 rfl ?_
  refine V_iconst (pc := 1001) dL_law__1001 ic_2 ?_
  refine V_iadd (pc := 1002) dL_law__1002 ?_
  refine V_sld (pc := 1003) hX hb0 hbA hi2 hx2 dL_law__1003 ?_
  refine V_if_eq (pc := 1004) (tgt := 1011) dL_law__1004 (by decide +kernel) ?_ ?_
  · refine V_iconst (pc := 1011) dL_law__1011 ic_0 ?_
    exact hJ1012 (0 : Int32) x1 σ
  · refine V_iconst (pc := 1007) dL_law__1007 ic_1 ?_
    refine V_goto (pc := 1008) (tgt := 1012) dL_law__1008 (by decide +kernel) ?_
    exact hJ1012 (1 : Int32) x1 σ
theorem cl_188 : csw RL 188 m_L_wed [(0, 6, 9, 24), (0, 6, 12, 13), (0, 6, 15, 56)] 3 := ⟨goodIn_of _ (by decide +kernel), by decide +kernel, by decide +kernel, by decide +kernel⟩
theorem wm_X12_wed : wmp m_X12_wed 2 := ⟨gx 2019 (by decide +kernel) (by decide +kernel), gx 2020 (by decide +kernel) (by decide +kernel), gx 138 (by decide +kernel) (by decide +kernel), gx 2021 (by decide +kernel) (by decide +kernel), by decide +kernel, by decide +kernel, by decide +kernel⟩
theorem cw_L_191 : cwp RL 191 m_X12_wed 2 := cwp_of wm_X12_wed (gx 2018 (by decide +kernel) (by decide +kernel))
def step_13 (n : Nat) (x1 x2 x3 x4 x5 : Int32) (σ : MS) : Option MS := ((f_L_wed x1 x2 σ).bind (fun q1095 => ((f_X12_wed n x1 x2 q1095.2).bind (fun q1113 => ((f_X12_thrown  q1113.2).bind (fun q1117 => (if q1117 = q1095.1 then some q1113.2 else none)))))))
set_option maxRecDepth 20000 in
set_option maxHeartbeats 2000000 in
theorem v_case_13 (w : TG) (g : VG) (kc ks : Nat) (Q : State → Prop) (n b0 L : Nat) (xs : Nat → Int32) (i x1 x2 x3 x4 x5 : Int32) (hkc : kc + 40 ≤ 601024) (hks : ks + 240 ≤ 7293034) (hX : va_X b0 L xs (gS g) (gS g).heap) (hb0 : b0 < (gS g).heap.size) (hbA : ¬ wA w b0) (hi1 : inb (i + (1 : Int32)) L = true) (hx1 : xs (ix (i + (1 : Int32))) = x1) (hi2 : inb (i + (2 : Int32)) L = true) (hx2 : xs (ix (i + (2 : Int32))) = x2) (hi3 : inb (i + (3 : Int32)) L = true) (hx3 : xs (ix (i + (3 : Int32))) = x3) (hi4 : inb (i + (4 : Int32)) L = true) (hx4 : xs (ix (i + (4 : Int32))) = x4) (hi5 : inb (i + (5 : Int32)) L = true) (hx5 : xs (ix (i + (5 : Int32))) = x5) (σ : MS) : VV m_L_law_ w g kc ks Q (fun s => VH m_L_law_ w g (kc + 20) (ks + 120) Q 2895 [some (.ref b0), some (.ref (wB w + 0)), some (.ref (wB w + 171)), some (.ref (wB w + 183)), some (.int i), none, none] [] s) 1082 [some (.ref b0), some (.ref (wB w + 0)), some (.ref (wB w + 171)), some (.ref (wB w + 183)), some (.int i), none, none] [] σ (step_13 n x1 x2 x3 x4 x5 σ) := by
  unfold step_13
  refine V_aload_n (pc := 1082) dL_law__1082 rfl rfl ?_
  refine V_aload_n (pc := 1083) dL_law__1083 rfl rfl ?_
  refine V_iload (pc := 1084) dL_law__1084 rfl ?_
  refine V_iconst (pc := 1086) dL_law__1086 ic_1 ?_
  refine V_iadd (pc := 1087) dL_law__1087 ?_
  refine V_sld (pc := 1088) hX hb0 hbA hi1 hx1 dL_law__1088 ?_
  refine V_aload_n (pc := 1089) dL_law__1089 rfl rfl ?_
  refine V_iload (pc := 1090) dL_law__1090 rfl ?_
  refine V_iconst (pc := 1092) dL_law__1092 ic_2 ?_
  refine V_iadd (pc := 1093) dL_law__1093 ?_
  refine V_sld (pc := 1094) hX hb0 hbA hi2 hx2 dL_law__1094 ?_
  refine V_callW (pc := 1095) (As := [.ref (wB w + 0), .int x1, .int x2]) (rest := []) (c_L_wed w x1 x2 σ) cl_188 rfl rfl dL_law__1095 ⟨by simp only [m_L_law_, m_L_wed]; omega, by simp only [m_L_law_, m_L_wed]; omega⟩ rfl rfl (Nat.le_of_ble_eq_true rfl) (by simp only [m_L_law_, m_L_wed]; omega) (by simp only [m_L_law_, m_L_wed]; omega) (fun q1095 => ?_)
  show VV m_L_law_ w g (kc + 4) (ks + 24) Q (fun s => VH m_L_law_ w g (kc + 20) (ks + 120) Q 2895 [some (.ref b0), some (.ref (wB w + 0)), some (.ref (wB w + 171)), some (.ref (wB w + 183)), some (.int i), none, none] [] s) 1098 [some (.ref b0), some (.ref (wB w + 0)), some (.ref (wB w + 171)), some (.ref (wB w + 183)), some (.int i), none, none] [.int q1095.1] q1095.2 _
  refine V_istore (pc := 1098) (vs' := [some (.ref b0), some (.ref (wB w + 0)), some (.ref (wB w + 171)), some (.ref (wB w + 183)), some (.int i), some (.int q1095.1), none]) dL_law__1098 (Nat.le_of_ble_eq_true rfl) (Nat.le_of_ble_eq_true rfl) rfl ?_
  refine V_aload_n (pc := 1100) dL_law__1100 rfl rfl ?_
  refine V_aload_n (pc := 1101) dL_law__1101 rfl rfl ?_
  refine V_iload (pc := 1102) dL_law__1102 rfl ?_
  refine V_iconst (pc := 1104) dL_law__1104 ic_1 ?_
  refine V_iadd (pc := 1105) dL_law__1105 ?_
  refine V_sld (pc := 1106) hX hb0 hbA hi1 hx1 dL_law__1106 ?_
  refine V_aload_n (pc := 1107) dL_law__1107 rfl rfl ?_
  refine V_iload (pc := 1108) dL_law__1108 rfl ?_
  refine V_iconst (pc := 1110) dL_law__1110 ic_2 ?_
  refine V_iadd (pc := 1111) dL_law__1111 ?_
  refine V_sld (pc := 1112) hX hb0 hbA hi2 hx2 dL_law__1112 ?_
  refine V_callVv (pc := 1113) (As := [.int x1, .int x2]) (rest := []) (c_X12_wed w n x1 x2 q1095.2) cw_L_191 rfl rfl dL_law__1113 kc_171 ci_12 ⟨by simp only [m_L_law_, m_X12_wed]; omega, by simp only [m_L_law_, m_X12_wed]; omega⟩ rfl rfl (Nat.le_of_ble_eq_true rfl) (by simp only [m_L_law_]; omega) (by simp only [m_L_law_]; omega) rfl (fun q1113 => ?_)
  refine V_aload_n (pc := 1116) dL_law__1116 rfl rfl ?_
  refine V_callVpi (pc := 1117) (As := []) (rest := []) (c_X12_thrown w  q1113.2) cw_L_150 rfl rfl dL_law__1117 kc_171 ci_12 ⟨by simp only [m_L_law_, m_X12_thrown]; omega, by simp only [m_L_law_, m_X12_thrown]; omega⟩ rfl rfl (Nat.le_of_ble_eq_true rfl) (by simp only [m_L_law_]; omega) (by simp only [m_L_law_]; omega) rfl (fun q1117 => ?_)
  refine V_iload (pc := 1120) dL_law__1120 rfl ?_
  refine V_icmp_eq (pc := 1122) (tgt := 1127) dL_law__1122 (by decide +kernel) ?_ ?_
  · refine V_goto (pc := 1127) (tgt := 2895) dL_law__1127 (by decide +kernel) ?_
    refine V_widen (kc' := kc + 20) (ks' := ks + 120) (by omega) (by omega) ?_
    refine V_sub (vs' := [some (.ref b0), some (.ref (wB w + 0)), some (.ref (wB w + 171)), some (.ref (wB w + 183)), some (.int i), none, none]) (show vless _ _ from ⟨rfl, ⟨rfl, ⟨rfl, ⟨rfl, ⟨rfl, trivial⟩⟩⟩⟩⟩) rfl ?_
    exact V_back (fun h => h)
  · refine V_iconst (pc := 1125) dL_law__1125 ic_0 ?_
    exact V_none
theorem cl_192 : csw RL 192 m_L_clear [(0, 9, 12, 24)] 3 := ⟨goodIn_of _ (by decide +kernel), by decide +kernel, by decide +kernel, by decide +kernel⟩
theorem wm_X12_clear : wmp m_X12_clear 1 := ⟨gx 2023 (by decide +kernel) (by decide +kernel), gx 2024 (by decide +kernel) (by decide +kernel), gx 138 (by decide +kernel) (by decide +kernel), gx 2025 (by decide +kernel) (by decide +kernel), by decide +kernel, by decide +kernel, by decide +kernel⟩
theorem cw_L_195 : cwp RL 195 m_X12_clear 1 := cwp_of wm_X12_clear (gx 2022 (by decide +kernel) (by decide +kernel))
def J_L_law__1183 (n : Nat) (x1 x2 x3 x4 x5 : Int32) (σ : MS) : Option (MS) := some σ
def step_14 (n : Nat) (x1 x2 x3 x4 x5 : Int32) (σ : MS) : Option MS := ((f_L_clear x1 σ).bind (fun q1138 => ((f_X12_clear n x1 q1138.2).bind (fun q1150 => ((f_X12_thrown  q1150.2).bind (fun q1156 => (if q1156 = q1138.1 then (if q1138.1 = 0 then (if (q1150.2 183 0) = q1150.1 then J_L_law__1183 n x1 x2 x3 x4 x5 q1150.2 else none) else J_L_law__1183 n x1 x2 x3 x4 x5 q1150.2) else none)))))))
set_option maxRecDepth 20000 in
set_option maxHeartbeats 2000000 in
theorem v_case_14 (w : TG) (g : VG) (kc ks : Nat) (Q : State → Prop) (n b0 L : Nat) (xs : Nat → Int32) (i x1 x2 x3 x4 x5 : Int32) (hkc : kc + 40 ≤ 601024) (hks : ks + 240 ≤ 7293034) (hX : va_X b0 L xs (gS g) (gS g).heap) (hb0 : b0 < (gS g).heap.size) (hbA : ¬ wA w b0) (hi1 : inb (i + (1 : Int32)) L = true) (hx1 : xs (ix (i + (1 : Int32))) = x1) (hi2 : inb (i + (2 : Int32)) L = true) (hx2 : xs (ix (i + (2 : Int32))) = x2) (hi3 : inb (i + (3 : Int32)) L = true) (hx3 : xs (ix (i + (3 : Int32))) = x3) (hi4 : inb (i + (4 : Int32)) L = true) (hx4 : xs (ix (i + (4 : Int32))) = x4) (hi5 : inb (i + (5 : Int32)) L = true) (hx5 : xs (ix (i + (5 : Int32))) = x5) (σ : MS) : VV m_L_law_ w g kc ks Q (fun s => VH m_L_law_ w g (kc + 20) (ks + 120) Q 2895 [some (.ref b0), some (.ref (wB w + 0)), some (.ref (wB w + 171)), some (.ref (wB w + 183)), some (.int i), none, none] [] s) 1130 [some (.ref b0), some (.ref (wB w + 0)), some (.ref (wB w + 171)), some (.ref (wB w + 183)), some (.int i), none, none] [] σ (step_14 n x1 x2 x3 x4 x5 σ) := by
  unfold step_14
  have hJ1183 : ∀ (σ : MS), VV m_L_law_ w g (kc + 1) (ks + 6) Q (fun s => VH m_L_law_ w g (kc + 20) (ks + 120) Q 2895 [some (.ref b0), some (.ref (wB w + 0)), some (.ref (wB w + 171)), some (.ref (wB w + 183)), some (.int i), none, none] [] s) 1183 [some (.ref b0), some (.ref (wB w + 0)), some (.ref (wB w + 171)), some (.ref (wB w + 183)), some (.int i), none, none] [] σ (J_L_law__1183 n x1 x2 x3 x4 x5 σ) := by
    intro σ
    refine V_goto (pc := 1183) (tgt := 2895) dL_law__1183 (by decide +kernel) ?_
    refine V_widen (kc' := kc + 20) (ks' := ks + 120) (by omega) (by omega) ?_
    exact V_back (fun h => h)
  refine V_aload_n (pc := 1130) dL_law__1130 rfl rfl ?_
  refine V_aload_n (pc := 1131) dL_law__1131 rfl rfl ?_
  refine V_iload (pc := 1132) dL_law__1132 rfl ?_
  refine V_iconst (pc := 1134) dL_law__1134 ic_1 ?_
  refine V_iadd (pc := 1135) dL_law__1135 ?_
  refine V_sld (pc := 1136) hX hb0 hbA hi1 hx1 dL_law__1136 ?_
  refine V_aload_n (pc := 1137) dL_law__1137 rfl rfl ?_
  refine V_callW (pc := 1138) (As := [.ref (wB w + 0), .int x1, .ref (wB w + 183)]) (rest := []) (c_L_clear w x1 σ) cl_192 rfl rfl dL_law__1138 ⟨by simp only [m_L_law_, m_L_clear]; omega, by simp only [m_L_law_, m_L_clear]; omega⟩ rfl rfl (Nat.le_of_ble_eq_true rfl) (by simp only [m_L_law_, m_L_clear]; omega) (by simp only [m_L_law_, m_L_clear]; omega) (fun q1138 => ?_)
  show VV m_L_law_ w g (kc + 1) (ks + 6) Q (fun s => VH m_L_law_ w g (kc + 20) (ks + 120) Q 2895 [some (.ref b0), some (.ref (wB w + 0)), some (.ref (wB w + 171)), some (.ref (wB w + 183)), some (.int i), none, none] [] s) 1141 [some (.ref b0), some (.ref (wB w + 0)), some (.ref (wB w + 171)), some (.ref (wB w + 183)), some (.int i), none, none] [.int q1138.1] q1138.2 _
  refine V_istore (pc := 1141) (vs' := [some (.ref b0), some (.ref (wB w + 0)), some (.ref (wB w + 171)), some (.ref (wB w + 183)), some (.int i), some (.int q1138.1), none]) dL_law__1141 (Nat.le_of_ble_eq_true rfl) (Nat.le_of_ble_eq_true rfl) rfl ?_
  refine V_aload_n (pc := 1143) dL_law__1143 rfl rfl ?_
  refine V_aload_n (pc := 1144) dL_law__1144 rfl rfl ?_
  refine V_iload (pc := 1145) dL_law__1145 rfl ?_
  refine V_iconst (pc := 1147) dL_law__1147 ic_1 ?_
  refine V_iadd (pc := 1148) dL_law__1148 ?_
  refine V_sld (pc := 1149) hX hb0 hbA hi1 hx1 dL_law__1149 ?_
  refine V_callVi (pc := 1150) (As := [.int x1]) (rest := []) (c_X12_clear w n x1 q1138.2) cw_L_195 rfl rfl dL_law__1150 kc_171 ci_12 ⟨by simp only [m_L_law_, m_X12_clear]; omega, by simp only [m_L_law_, m_X12_clear]; omega⟩ rfl rfl (Nat.le_of_ble_eq_true rfl) (by simp only [m_L_law_]; omega) (by simp only [m_L_law_]; omega) rfl (fun q1150 => ?_)
  refine V_istore (pc := 1153) (vs' := [some (.ref b0), some (.ref (wB w + 0)), some (.ref (wB w + 171)), some (.ref (wB w + 183)), some (.int i), some (.int q1138.1), some (.int q1150.1)]) dL_law__1153 (Nat.le_of_ble_eq_true rfl) (Nat.le_of_ble_eq_true rfl) rfl ?_
  refine V_aload_n (pc := 1155) dL_law__1155 rfl rfl ?_
  refine V_callVpi (pc := 1156) (As := []) (rest := []) (c_X12_thrown w  q1150.2) cw_L_150 rfl rfl dL_law__1156 kc_171 ci_12 ⟨by simp only [m_L_law_, m_X12_thrown]; omega, by simp only [m_L_law_, m_X12_thrown]; omega⟩ rfl rfl (Nat.le_of_ble_eq_true rfl) (by simp only [m_L_law_]; omega) (by simp only [m_L_law_]; omega) rfl (fun q1156 => ?_)
  refine V_iload (pc := 1159) dL_law__1159 rfl ?_
  refine V_icmp_eq (pc := 1161) (tgt := 1166) dL_law__1161 (by decide +kernel) ?_ ?_
  · refine V_iload (pc := 1166) dL_law__1166 rfl ?_
    refine V_if_ne (pc := 1168) (tgt := 1183) dL_law__1168 (by decide +kernel) ?_ ?_
    · refine V_sub (vs' := [some (.ref b0), some (.ref (wB w + 0)), some (.ref (wB w + 171)), some (.ref (wB w + 183)), some (.int i), none, none]) (show vless _ _ from ⟨rfl, ⟨rfl, ⟨rfl, ⟨rfl, ⟨rfl, trivial⟩⟩⟩⟩⟩) rfl ?_
      exact hJ1183 q1150.2
    · refine V_aload_n (pc := 1171) dL_law__1171 rfl rfl ?_
      refine V_iconst (pc := 1172) dL_law__1172 ic_0 ?_
      refine V_lald (pc := 1173) dL_law__1173 ?_
      refine V_iload (pc := 1174) dL_law__1174 rfl ?_
      refine V_i2l (pc := 1176) dL_law__1176 ?_
      refine V_lcmpeq (pc := 1177) (tgt := 1183) dL_law__1177 dL_law__1178 (by decide) ?_ ?_
      · refine V_sub (vs' := [some (.ref b0), some (.ref (wB w + 0)), some (.ref (wB w + 171)), some (.ref (wB w + 183)), some (.int i), none, none]) (show vless _ _ from ⟨rfl, ⟨rfl, ⟨rfl, ⟨rfl, ⟨rfl, trivial⟩⟩⟩⟩⟩) rfl ?_
        exact hJ1183 q1150.2
      · refine V_iconst (pc := 1181) dL_law__1181 ic_0 ?_
        exact V_none
  · refine V_iconst (pc := 1164) dL_law__1164 ic_0 ?_
    exact V_none
theorem cl_196 : csw RL 196 m_L_days [(0, 9, 12, 13)] 3 := ⟨goodIn_of _ (by decide +kernel), by decide +kernel, by decide +kernel, by decide +kernel⟩
theorem wm_X12_days : wmp m_X12_days 1 := ⟨gx 2027 (by decide +kernel) (by decide +kernel), gx 2028 (by decide +kernel) (by decide +kernel), gx 138 (by decide +kernel) (by decide +kernel), gx 2029 (by decide +kernel) (by decide +kernel), by decide +kernel, by decide +kernel, by decide +kernel⟩
theorem cw_L_198 : cwp RL 198 m_X12_days 1 := cwp_of wm_X12_days (gx 2026 (by decide +kernel) (by decide +kernel))
def J_L_law__1239 (n : Nat) (x1 x2 x3 x4 x5 : Int32) (σ : MS) : Option (MS) := some σ
def step_15 (n : Nat) (x1 x2 x3 x4 x5 : Int32) (σ : MS) : Option MS := ((f_L_days n x1 σ).bind (fun q1194 => ((f_X12_days n x1 q1194.2).bind (fun q1206 => ((f_X12_thrown  q1206.2).bind (fun q1212 => (if q1212 = q1194.1 then (if q1194.1 = 0 then (if (q1206.2 183 0) = q1206.1 then J_L_law__1239 n x1 x2 x3 x4 x5 q1206.2 else none) else J_L_law__1239 n x1 x2 x3 x4 x5 q1206.2) else none)))))))
set_option maxRecDepth 20000 in
set_option maxHeartbeats 2000000 in
theorem v_case_15 (w : TG) (g : VG) (kc ks : Nat) (Q : State → Prop) (n b0 L : Nat) (xs : Nat → Int32) (i x1 x2 x3 x4 x5 : Int32) (hkc : kc + 40 ≤ 601024) (hks : ks + 240 ≤ 7293034) (hX : va_X b0 L xs (gS g) (gS g).heap) (hb0 : b0 < (gS g).heap.size) (hbA : ¬ wA w b0) (hi1 : inb (i + (1 : Int32)) L = true) (hx1 : xs (ix (i + (1 : Int32))) = x1) (hi2 : inb (i + (2 : Int32)) L = true) (hx2 : xs (ix (i + (2 : Int32))) = x2) (hi3 : inb (i + (3 : Int32)) L = true) (hx3 : xs (ix (i + (3 : Int32))) = x3) (hi4 : inb (i + (4 : Int32)) L = true) (hx4 : xs (ix (i + (4 : Int32))) = x4) (hi5 : inb (i + (5 : Int32)) L = true) (hx5 : xs (ix (i + (5 : Int32))) = x5) (σ : MS) : VV m_L_law_ w g kc ks Q (fun s => VH m_L_law_ w g (kc + 20) (ks + 120) Q 2895 [some (.ref b0), some (.ref (wB w + 0)), some (.ref (wB w + 171)), some (.ref (wB w + 183)), some (.int i), none, none] [] s) 1186 [some (.ref b0), some (.ref (wB w + 0)), some (.ref (wB w + 171)), some (.ref (wB w + 183)), some (.int i), none, none] [] σ (step_15 n x1 x2 x3 x4 x5 σ) := by
  unfold step_15
  have hJ1239 : ∀ (σ : MS), VV m_L_law_ w g (kc + 1) (ks + 6) Q (fun s => VH m_L_law_ w g (kc + 20) (ks + 120) Q 2895 [some (.ref b0), some (.ref (wB w + 0)), some (.ref (wB w + 171)), some (.ref (wB w + 183)), some (.int i), none, none] [] s) 1239 [some (.ref b0), some (.ref (wB w + 0)), some (.ref (wB w + 171)), some (.ref (wB w + 183)), some (.int i), none, none] [] σ (J_L_law__1239 n x1 x2 x3 x4 x5 σ) := by
    intro σ
    refine V_goto (pc := 1239) (tgt := 2895) dL_law__1239 (by decide +kernel) ?_
    refine V_widen (kc' := kc + 20) (ks' := ks + 120) (by omega) (by omega) ?_
    exact V_back (fun h => h)
  refine V_aload_n (pc := 1186) dL_law__1186 rfl rfl ?_
  refine V_aload_n (pc := 1187) dL_law__1187 rfl rfl ?_
  refine V_iload (pc := 1188) dL_law__1188 rfl ?_
  refine V_iconst (pc := 1190) dL_law__1190 ic_1 ?_
  refine V_iadd (pc := 1191) dL_law__1191 ?_
  refine V_sld (pc := 1192) hX hb0 hbA hi1 hx1 dL_law__1192 ?_
  refine V_aload_n (pc := 1193) dL_law__1193 rfl rfl ?_
  refine V_callW (pc := 1194) (As := [.ref (wB w + 0), .int x1, .ref (wB w + 183)]) (rest := []) (c_L_days w n x1 σ) cl_196 rfl rfl dL_law__1194 ⟨by simp only [m_L_law_, m_L_days]; omega, by simp only [m_L_law_, m_L_days]; omega⟩ rfl rfl (Nat.le_of_ble_eq_true rfl) (by simp only [m_L_law_, m_L_days]; omega) (by simp only [m_L_law_, m_L_days]; omega) (fun q1194 => ?_)
  show VV m_L_law_ w g (kc + 1) (ks + 6) Q (fun s => VH m_L_law_ w g (kc + 20) (ks + 120) Q 2895 [some (.ref b0), some (.ref (wB w + 0)), some (.ref (wB w + 171)), some (.ref (wB w + 183)), some (.int i), none, none] [] s) 1197 [some (.ref b0), some (.ref (wB w + 0)), some (.ref (wB w + 171)), some (.ref (wB w + 183)), some (.int i), none, none] [.int q1194.1] q1194.2 _
  refine V_istore (pc := 1197) (vs' := [some (.ref b0), some (.ref (wB w + 0)), some (.ref (wB w + 171)), some (.ref (wB w + 183)), some (.int i), some (.int q1194.1), none]) dL_law__1197 (Nat.le_of_ble_eq_true rfl) (Nat.le_of_ble_eq_true rfl) rfl ?_
  refine V_aload_n (pc := 1199) dL_law__1199 rfl rfl ?_
  refine V_aload_n (pc := 1200) dL_law__1200 rfl rfl ?_
  refine V_iload (pc := 1201) dL_law__1201 rfl ?_
  refine V_iconst (pc := 1203) dL_law__1203 ic_1 ?_
  refine V_iadd (pc := 1204) dL_law__1204 ?_
  refine V_sld (pc := 1205) hX hb0 hbA hi1 hx1 dL_law__1205 ?_
  refine V_callVi (pc := 1206) (As := [.int x1]) (rest := []) (c_X12_days w n x1 q1194.2) cw_L_198 rfl rfl dL_law__1206 kc_171 ci_12 ⟨by simp only [m_L_law_, m_X12_days]; omega, by simp only [m_L_law_, m_X12_days]; omega⟩ rfl rfl (Nat.le_of_ble_eq_true rfl) (by simp only [m_L_law_]; omega) (by simp only [m_L_law_]; omega) rfl (fun q1206 => ?_)
  refine V_istore (pc := 1209) (vs' := [some (.ref b0), some (.ref (wB w + 0)), some (.ref (wB w + 171)), some (.ref (wB w + 183)), some (.int i), some (.int q1194.1), some (.int q1206.1)]) dL_law__1209 (Nat.le_of_ble_eq_true rfl) (Nat.le_of_ble_eq_true rfl) rfl ?_
  refine V_aload_n (pc := 1211) dL_law__1211 rfl rfl ?_
  refine V_callVpi (pc := 1212) (As := []) (rest := []) (c_X12_thrown w  q1206.2) cw_L_150 rfl rfl dL_law__1212 kc_171 ci_12 ⟨by simp only [m_L_law_, m_X12_thrown]; omega, by simp only [m_L_law_, m_X12_thrown]; omega⟩ rfl rfl (Nat.le_of_ble_eq_true rfl) (by simp only [m_L_law_]; omega) (by simp only [m_L_law_]; omega) rfl (fun q1212 => ?_)
  refine V_iload (pc := 1215) dL_law__1215 rfl ?_
  refine V_icmp_eq (pc := 1217) (tgt := 1222) dL_law__1217 (by decide +kernel) ?_ ?_
  · refine V_iload (pc := 1222) dL_law__1222 rfl ?_
    refine V_if_ne (pc := 1224) (tgt := 1239) dL_law__1224 (by decide +kernel) ?_ ?_
    · refine V_sub (vs' := [some (.ref b0), some (.ref (wB w + 0)), some (.ref (wB w + 171)), some (.ref (wB w + 183)), some (.int i), none, none]) (show vless _ _ from ⟨rfl, ⟨rfl, ⟨rfl, ⟨rfl, ⟨rfl, trivial⟩⟩⟩⟩⟩) rfl ?_
      exact hJ1239 q1206.2
    · refine V_aload_n (pc := 1227) dL_law__1227 rfl rfl ?_
      refine V_iconst (pc := 1228) dL_law__1228 ic_0 ?_
      refine V_lald (pc := 1229) dL_law__1229 ?_
      refine V_iload (pc := 1230) dL_law__1230 rfl ?_
      refine V_i2l (pc := 1232) dL_law__1232 ?_
      refine V_lcmpeq (pc := 1233) (tgt := 1239) dL_law__1233 dL_law__1234 (by decide) ?_ ?_
      · refine V_sub (vs' := [some (.ref b0), some (.ref (wB w + 0)), some (.ref (wB w + 171)), some (.ref (wB w + 183)), some (.int i), none, none]) (show vless _ _ from ⟨rfl, ⟨rfl, ⟨rfl, ⟨rfl, ⟨rfl, trivial⟩⟩⟩⟩⟩) rfl ?_
        exact hJ1239 q1206.2
      · refine V_iconst (pc := 1237) dL_law__1237 ic_0 ?_
        exact V_none
  · refine V_iconst (pc := 1220) dL_law__1220 ic_0 ?_
    exact V_none
theorem wm_X11_circles : wmp m_X11_circles 0 := ⟨gx 495 (by decide +kernel) (by decide +kernel), gx 496 (by decide +kernel) (by decide +kernel), gx 127 (by decide +kernel) (by decide +kernel), gx 497 (by decide +kernel) (by decide +kernel), by decide +kernel, by decide +kernel, by decide +kernel⟩
theorem cw_L_199 : cwp RL 199 m_X11_circles 0 := cwp_of wm_X11_circles (gx 494 (by decide +kernel) (by decide +kernel))
theorem wm_X12_circles : wmp m_X12_circles 0 := ⟨gx 1923 (by decide +kernel) (by decide +kernel), gx 1924 (by decide +kernel) (by decide +kernel), gx 138 (by decide +kernel) (by decide +kernel), gx 1925 (by decide +kernel) (by decide +kernel), by decide +kernel, by decide +kernel, by decide +kernel⟩
theorem cw_L_202 : cwp RL 202 m_X12_circles 0 := cwp_of wm_X12_circles (gx 1922 (by decide +kernel) (by decide +kernel))
def step_16 (n : Nat) (x1 x2 x3 x4 x5 : Int32) (σ : MS) : Option MS := ((f_X11_circles n  σ).bind (fun q1243 => ((f_X12_circles n  σ).bind (fun q1247 => (if q1243 = q1247.1 then some q1247.2 else none)))))
set_option maxRecDepth 20000 in
set_option maxHeartbeats 2000000 in
theorem v_case_16 (w : TG) (g : VG) (kc ks : Nat) (Q : State → Prop) (n b0 L : Nat) (xs : Nat → Int32) (i x1 x2 x3 x4 x5 : Int32) (hkc : kc + 40 ≤ 601024) (hks : ks + 240 ≤ 7293034) (hX : va_X b0 L xs (gS g) (gS g).heap) (hb0 : b0 < (gS g).heap.size) (hbA : ¬ wA w b0) (hi1 : inb (i + (1 : Int32)) L = true) (hx1 : xs (ix (i + (1 : Int32))) = x1) (hi2 : inb (i + (2 : Int32)) L = true) (hx2 : xs (ix (i + (2 : Int32))) = x2) (hi3 : inb (i + (3 : Int32)) L = true) (hx3 : xs (ix (i + (3 : Int32))) = x3) (hi4 : inb (i + (4 : Int32)) L = true) (hx4 : xs (ix (i + (4 : Int32))) = x4) (hi5 : inb (i + (5 : Int32)) L = true) (hx5 : xs (ix (i + (5 : Int32))) = x5) (σ : MS) : VV m_L_law_ w g kc ks Q (fun s => VH m_L_law_ w g (kc + 20) (ks + 120) Q 2895 [some (.ref b0), some (.ref (wB w + 0)), some (.ref (wB w + 171)), some (.ref (wB w + 183)), some (.int i), none, none] [] s) 1242 [some (.ref b0), some (.ref (wB w + 0)), some (.ref (wB w + 171)), some (.ref (wB w + 183)), some (.int i), none, none] [] σ (step_16 n x1 x2 x3 x4 x5 σ) := by
  unfold step_16
  refine V_aload_n (pc := 1242) dL_law__1242 rfl rfl ?_
  refine V_callVpi (pc := 1243) (As := []) (rest := []) (c_X11_circles w n  σ) cw_L_199 rfl rfl dL_law__1243 kc_0 ci_11 ⟨by simp only [m_L_law_, m_X11_circles]; omega, by simp only [m_L_law_, m_X11_circles]; omega⟩ rfl rfl (Nat.le_of_ble_eq_true rfl) (by simp only [m_L_law_]; omega) (by simp only [m_L_law_]; omega) rfl (fun q1243 => ?_)
  refine V_aload_n (pc := 1246) dL_law__1246 rfl rfl ?_
  refine V_callVi (pc := 1247) (As := []) (rest := [.int q1243]) (c_X12_circles w n  σ) cw_L_202 rfl rfl dL_law__1247 kc_171 ci_12 ⟨by simp only [m_L_law_, m_X12_circles]; omega, by simp only [m_L_law_, m_X12_circles]; omega⟩ rfl rfl (Nat.le_of_ble_eq_true rfl) (by simp only [m_L_law_]; omega) (by simp only [m_L_law_]; omega) rfl (fun q1247 => ?_)
  refine V_icmp_eq (pc := 1250) (tgt := 2895) dL_law__1250 (by decide +kernel) ?_ ?_
  · refine V_widen (kc' := kc + 20) (ks' := ks + 120) (by omega) (by omega) ?_
    exact V_back (fun h => h)
  · refine V_iconst (pc := 1253) dL_law__1253 ic_0 ?_
    exact V_none
theorem wm_X11_ends : wmp m_X11_ends 0 := ⟨gx 526 (by decide +kernel) (by decide +kernel), gx 527 (by decide +kernel) (by decide +kernel), gx 127 (by decide +kernel) (by decide +kernel), gx 528 (by decide +kernel) (by decide +kernel), by decide +kernel, by decide +kernel, by decide +kernel⟩
theorem cw_L_203 : cwp RL 203 m_X11_ends 0 := cwp_of wm_X11_ends (gx 525 (by decide +kernel) (by decide +kernel))
theorem wm_X12_ends : wmp m_X12_ends 0 := ⟨gx 1931 (by decide +kernel) (by decide +kernel), gx 1932 (by decide +kernel) (by decide +kernel), gx 138 (by decide +kernel) (by decide +kernel), gx 1933 (by decide +kernel) (by decide +kernel), by decide +kernel, by decide +kernel, by decide +kernel⟩
theorem cw_L_206 : cwp RL 206 m_X12_ends 0 := cwp_of wm_X12_ends (gx 1930 (by decide +kernel) (by decide +kernel))
def step_17 (n : Nat) (x1 x2 x3 x4 x5 : Int32) (σ : MS) : Option MS := ((f_X11_ends n  σ).bind (fun q1256 => ((f_X12_ends n  σ).bind (fun q1260 => (if q1256 = q1260.1 then some q1260.2 else none)))))
set_option maxRecDepth 20000 in
set_option maxHeartbeats 2000000 in
theorem v_case_17 (w : TG) (g : VG) (kc ks : Nat) (Q : State → Prop) (n b0 L : Nat) (xs : Nat → Int32) (i x1 x2 x3 x4 x5 : Int32) (hkc : kc + 40 ≤ 601024) (hks : ks + 240 ≤ 7293034) (hX : va_X b0 L xs (gS g) (gS g).heap) (hb0 : b0 < (gS g).heap.size) (hbA : ¬ wA w b0) (hi1 : inb (i + (1 : Int32)) L = true) (hx1 : xs (ix (i + (1 : Int32))) = x1) (hi2 : inb (i + (2 : Int32)) L = true) (hx2 : xs (ix (i + (2 : Int32))) = x2) (hi3 : inb (i + (3 : Int32)) L = true) (hx3 : xs (ix (i + (3 : Int32))) = x3) (hi4 : inb (i + (4 : Int32)) L = true) (hx4 : xs (ix (i + (4 : Int32))) = x4) (hi5 : inb (i + (5 : Int32)) L = true) (hx5 : xs (ix (i + (5 : Int32))) = x5) (σ : MS) : VV m_L_law_ w g kc ks Q (fun s => VH m_L_law_ w g (kc + 20) (ks + 120) Q 2895 [some (.ref b0), some (.ref (wB w + 0)), some (.ref (wB w + 171)), some (.ref (wB w + 183)), some (.int i), none, none] [] s) 1255 [some (.ref b0), some (.ref (wB w + 0)), some (.ref (wB w + 171)), some (.ref (wB w + 183)), some (.int i), none, none] [] σ (step_17 n x1 x2 x3 x4 x5 σ) := by
  unfold step_17
  refine V_aload_n (pc := 1255) dL_law__1255 rfl rfl ?_
  refine V_callVpi (pc := 1256) (As := []) (rest := []) (c_X11_ends w n  σ) cw_L_203 rfl rfl dL_law__1256 kc_0 ci_11 ⟨by simp only [m_L_law_, m_X11_ends]; omega, by simp only [m_L_law_, m_X11_ends]; omega⟩ rfl rfl (Nat.le_of_ble_eq_true rfl) (by simp only [m_L_law_]; omega) (by simp only [m_L_law_]; omega) rfl (fun q1256 => ?_)
  refine V_aload_n (pc := 1259) dL_law__1259 rfl rfl ?_
  refine V_callVi (pc := 1260) (As := []) (rest := [.int q1256]) (c_X12_ends w n  σ) cw_L_206 rfl rfl dL_law__1260 kc_171 ci_12 ⟨by simp only [m_L_law_, m_X12_ends]; omega, by simp only [m_L_law_, m_X12_ends]; omega⟩ rfl rfl (Nat.le_of_ble_eq_true rfl) (by simp only [m_L_law_]; omega) (by simp only [m_L_law_]; omega) rfl (fun q1260 => ?_)
  refine V_icmp_eq (pc := 1263) (tgt := 2895) dL_law__1263 (by decide +kernel) ?_ ?_
  · refine V_widen (kc' := kc + 20) (ks' := ks + 120) (by omega) (by omega) ?_
    exact V_back (fun h => h)
  · refine V_iconst (pc := 1266) dL_law__1266 ic_0 ?_
    exact V_none
theorem cl_207 : csw RL 207 m_L_free [(0, 9, 12, 13)] 3 := ⟨goodIn_of _ (by decide +kernel), by decide +kernel, by decide +kernel, by decide +kernel⟩
theorem wm_X12_free : wmp m_X12_free 1 := ⟨gx 1935 (by decide +kernel) (by decide +kernel), gx 1936 (by decide +kernel) (by decide +kernel), gx 138 (by decide +kernel) (by decide +kernel), gx 1937 (by decide +kernel) (by decide +kernel), by decide +kernel, by decide +kernel, by decide +kernel⟩
theorem cw_L_209 : cwp RL 209 m_X12_free 1 := cwp_of wm_X12_free (gx 1934 (by decide +kernel) (by decide +kernel))
def J_L_law__1321 (n : Nat) (x1 x2 x3 x4 x5 : Int32) (σ : MS) : Option (MS) := some σ
def step_18 (n : Nat) (x1 x2 x3 x4 x5 : Int32) (σ : MS) : Option MS := ((f_L_free n x1 σ).bind (fun q1276 => ((f_X12_free n x1 q1276.2).bind (fun q1288 => ((f_X12_thrown  q1288.2).bind (fun q1294 => (if q1294 = q1276.1 then (if q1276.1 = 0 then (if (q1288.2 183 0) = q1288.1 then J_L_law__1321 n x1 x2 x3 x4 x5 q1288.2 else none) else J_L_law__1321 n x1 x2 x3 x4 x5 q1288.2) else none)))))))
set_option maxRecDepth 20000 in
set_option maxHeartbeats 2000000 in
theorem v_case_18 (w : TG) (g : VG) (kc ks : Nat) (Q : State → Prop) (n b0 L : Nat) (xs : Nat → Int32) (i x1 x2 x3 x4 x5 : Int32) (hkc : kc + 40 ≤ 601024) (hks : ks + 240 ≤ 7293034) (hX : va_X b0 L xs (gS g) (gS g).heap) (hb0 : b0 < (gS g).heap.size) (hbA : ¬ wA w b0) (hi1 : inb (i + (1 : Int32)) L = true) (hx1 : xs (ix (i + (1 : Int32))) = x1) (hi2 : inb (i + (2 : Int32)) L = true) (hx2 : xs (ix (i + (2 : Int32))) = x2) (hi3 : inb (i + (3 : Int32)) L = true) (hx3 : xs (ix (i + (3 : Int32))) = x3) (hi4 : inb (i + (4 : Int32)) L = true) (hx4 : xs (ix (i + (4 : Int32))) = x4) (hi5 : inb (i + (5 : Int32)) L = true) (hx5 : xs (ix (i + (5 : Int32))) = x5) (σ : MS) : VV m_L_law_ w g kc ks Q (fun s => VH m_L_law_ w g (kc + 20) (ks + 120) Q 2895 [some (.ref b0), some (.ref (wB w + 0)), some (.ref (wB w + 171)), some (.ref (wB w + 183)), some (.int i), none, none] [] s) 1268 [some (.ref b0), some (.ref (wB w + 0)), some (.ref (wB w + 171)), some (.ref (wB w + 183)), some (.int i), none, none] [] σ (step_18 n x1 x2 x3 x4 x5 σ) := by
  unfold step_18
  have hJ1321 : ∀ (σ : MS), VV m_L_law_ w g (kc + 1) (ks + 6) Q (fun s => VH m_L_law_ w g (kc + 20) (ks + 120) Q 2895 [some (.ref b0), some (.ref (wB w + 0)), some (.ref (wB w + 171)), some (.ref (wB w + 183)), some (.int i), none, none] [] s) 1321 [some (.ref b0), some (.ref (wB w + 0)), some (.ref (wB w + 171)), some (.ref (wB w + 183)), some (.int i), none, none] [] σ (J_L_law__1321 n x1 x2 x3 x4 x5 σ) := by
    intro σ
    refine V_goto (pc := 1321) (tgt := 2895) dL_law__1321 (by decide +kernel) ?_
    refine V_widen (kc' := kc + 20) (ks' := ks + 120) (by omega) (by omega) ?_
    exact V_back (fun h => h)
  refine V_aload_n (pc := 1268) dL_law__1268 rfl rfl ?_
  refine V_aload_n (pc := 1269) dL_law__1269 rfl rfl ?_
  refine V_iload (pc := 1270) dL_law__1270 rfl ?_
  refine V_iconst (pc := 1272) dL_law__1272 ic_1 ?_
  refine V_iadd (pc := 1273) dL_law__1273 ?_
  refine V_sld (pc := 1274) hX hb0 hbA hi1 hx1 dL_law__1274 ?_
  refine V_aload_n (pc := 1275) dL_law__1275 rfl rfl ?_
  refine V_callW (pc := 1276) (As := [.ref (wB w + 0), .int x1, .ref (wB w + 183)]) (rest := []) (c_L_free w n x1 σ) cl_207 rfl rfl dL_law__1276 ⟨by simp only [m_L_law_, m_L_free]; omega, by simp only [m_L_law_, m_L_free]; omega⟩ rfl rfl (Nat.le_of_ble_eq_true rfl) (by simp only [m_L_law_, m_L_free]; omega) (by simp only [m_L_law_, m_L_free]; omega) (fun q1276 => ?_)
  show VV m_L_law_ w g (kc + 1) (ks + 6) Q (fun s => VH m_L_law_ w g (kc + 20) (ks + 120) Q 2895 [some (.ref b0), some (.ref (wB w + 0)), some (.ref (wB w + 171)), some (.ref (wB w + 183)), some (.int i), none, none] [] s) 1279 [some (.ref b0), some (.ref (wB w + 0)), some (.ref (wB w + 171)), some (.ref (wB w + 183)), some (.int i), none, none] [.int q1276.1] q1276.2 _
  refine V_istore (pc := 1279) (vs' := [some (.ref b0), some (.ref (wB w + 0)), some (.ref (wB w + 171)), some (.ref (wB w + 183)), some (.int i), some (.int q1276.1), none]) dL_law__1279 (Nat.le_of_ble_eq_true rfl) (Nat.le_of_ble_eq_true rfl) rfl ?_
  refine V_aload_n (pc := 1281) dL_law__1281 rfl rfl ?_
  refine V_aload_n (pc := 1282) dL_law__1282 rfl rfl ?_
  refine V_iload (pc := 1283) dL_law__1283 rfl ?_
  refine V_iconst (pc := 1285) dL_law__1285 ic_1 ?_
  refine V_iadd (pc := 1286) dL_law__1286 ?_
  refine V_sld (pc := 1287) hX hb0 hbA hi1 hx1 dL_law__1287 ?_
  refine V_callVi (pc := 1288) (As := [.int x1]) (rest := []) (c_X12_free w n x1 q1276.2) cw_L_209 rfl rfl dL_law__1288 kc_171 ci_12 ⟨by simp only [m_L_law_, m_X12_free]; omega, by simp only [m_L_law_, m_X12_free]; omega⟩ rfl rfl (Nat.le_of_ble_eq_true rfl) (by simp only [m_L_law_]; omega) (by simp only [m_L_law_]; omega) rfl (fun q1288 => ?_)
  refine V_istore (pc := 1291) (vs' := [some (.ref b0), some (.ref (wB w + 0)), some (.ref (wB w + 171)), some (.ref (wB w + 183)), some (.int i), some (.int q1276.1), some (.int q1288.1)]) dL_law__1291 (Nat.le_of_ble_eq_true rfl) (Nat.le_of_ble_eq_true rfl) rfl ?_
  refine V_aload_n (pc := 1293) dL_law__1293 rfl rfl ?_
  refine V_callVpi (pc := 1294) (As := []) (rest := []) (c_X12_thrown w  q1288.2) cw_L_150 rfl rfl dL_law__1294 kc_171 ci_12 ⟨by simp only [m_L_law_, m_X12_thrown]; omega, by simp only [m_L_law_, m_X12_thrown]; omega⟩ rfl rfl (Nat.le_of_ble_eq_true rfl) (by simp only [m_L_law_]; omega) (by simp only [m_L_law_]; omega) rfl (fun q1294 => ?_)
  refine V_iload (pc := 1297) dL_law__1297 rfl ?_
  refine V_icmp_eq (pc := 1299) (tgt := 1304) dL_law__1299 (by decide +kernel) ?_ ?_
  · refine V_iload (pc := 1304) dL_law__1304 rfl ?_
    refine V_if_ne (pc := 1306) (tgt := 1321) dL_law__1306 (by decide +kernel) ?_ ?_
    · refine V_sub (vs' := [some (.ref b0), some (.ref (wB w + 0)), some (.ref (wB w + 171)), some (.ref (wB w + 183)), some (.int i), none, none]) (show vless _ _ from ⟨rfl, ⟨rfl, ⟨rfl, ⟨rfl, ⟨rfl, trivial⟩⟩⟩⟩⟩) rfl ?_
      exact hJ1321 q1288.2
    · refine V_aload_n (pc := 1309) dL_law__1309 rfl rfl ?_
      refine V_iconst (pc := 1310) dL_law__1310 ic_0 ?_
      refine V_lald (pc := 1311) dL_law__1311 ?_
      refine V_iload (pc := 1312) dL_law__1312 rfl ?_
      refine V_i2l (pc := 1314) dL_law__1314 ?_
      refine V_lcmpeq (pc := 1315) (tgt := 1321) dL_law__1315 dL_law__1316 (by decide) ?_ ?_
      · refine V_sub (vs' := [some (.ref b0), some (.ref (wB w + 0)), some (.ref (wB w + 171)), some (.ref (wB w + 183)), some (.int i), none, none]) (show vless _ _ from ⟨rfl, ⟨rfl, ⟨rfl, ⟨rfl, ⟨rfl, trivial⟩⟩⟩⟩⟩) rfl ?_
        exact hJ1321 q1288.2
      · refine V_iconst (pc := 1319) dL_law__1319 ic_0 ?_
        exact V_none
  · refine V_iconst (pc := 1302) dL_law__1302 ic_0 ?_
    exact V_none
theorem wm_X11_secrets : wmp m_X11_secrets 0 := ⟨gx 541 (by decide +kernel) (by decide +kernel), gx 542 (by decide +kernel) (by decide +kernel), gx 127 (by decide +kernel) (by decide +kernel), gx 543 (by decide +kernel) (by decide +kernel), by decide +kernel, by decide +kernel, by decide +kernel⟩
theorem cw_L_210 : cwp RL 210 m_X11_secrets 0 := cwp_of wm_X11_secrets (gx 540 (by decide +kernel) (by decide +kernel))
theorem wm_X12_secrets : wmp m_X12_secrets 0 := ⟨gx 1939 (by decide +kernel) (by decide +kernel), gx 1940 (by decide +kernel) (by decide +kernel), gx 138 (by decide +kernel) (by decide +kernel), gx 1941 (by decide +kernel) (by decide +kernel), by decide +kernel, by decide +kernel, by decide +kernel⟩
theorem cw_L_213 : cwp RL 213 m_X12_secrets 0 := cwp_of wm_X12_secrets (gx 1938 (by decide +kernel) (by decide +kernel))
def step_19 (n : Nat) (x1 x2 x3 x4 x5 : Int32) (σ : MS) : Option MS := ((f_X11_secrets n  σ).bind (fun q1325 => ((f_X12_secrets n  σ).bind (fun q1329 => (if q1325 = q1329.1 then some q1329.2 else none)))))
set_option maxRecDepth 20000 in
set_option maxHeartbeats 2000000 in
theorem v_case_19 (w : TG) (g : VG) (kc ks : Nat) (Q : State → Prop) (n b0 L : Nat) (xs : Nat → Int32) (i x1 x2 x3 x4 x5 : Int32) (hkc : kc + 40 ≤ 601024) (hks : ks + 240 ≤ 7293034) (hX : va_X b0 L xs (gS g) (gS g).heap) (hb0 : b0 < (gS g).heap.size) (hbA : ¬ wA w b0) (hi1 : inb (i + (1 : Int32)) L = true) (hx1 : xs (ix (i + (1 : Int32))) = x1) (hi2 : inb (i + (2 : Int32)) L = true) (hx2 : xs (ix (i + (2 : Int32))) = x2) (hi3 : inb (i + (3 : Int32)) L = true) (hx3 : xs (ix (i + (3 : Int32))) = x3) (hi4 : inb (i + (4 : Int32)) L = true) (hx4 : xs (ix (i + (4 : Int32))) = x4) (hi5 : inb (i + (5 : Int32)) L = true) (hx5 : xs (ix (i + (5 : Int32))) = x5) (σ : MS) : VV m_L_law_ w g kc ks Q (fun s => VH m_L_law_ w g (kc + 20) (ks + 120) Q 2895 [some (.ref b0), some (.ref (wB w + 0)), some (.ref (wB w + 171)), some (.ref (wB w + 183)), some (.int i), none, none] [] s) 1324 [some (.ref b0), some (.ref (wB w + 0)), some (.ref (wB w + 171)), some (.ref (wB w + 183)), some (.int i), none, none] [] σ (step_19 n x1 x2 x3 x4 x5 σ) := by
  unfold step_19
  refine V_aload_n (pc := 1324) dL_law__1324 rfl rfl ?_
  refine V_callVpi (pc := 1325) (As := []) (rest := []) (c_X11_secrets w n  σ) cw_L_210 rfl rfl dL_law__1325 kc_0 ci_11 ⟨by simp only [m_L_law_, m_X11_secrets]; omega, by simp only [m_L_law_, m_X11_secrets]; omega⟩ rfl rfl (Nat.le_of_ble_eq_true rfl) (by simp only [m_L_law_]; omega) (by simp only [m_L_law_]; omega) rfl (fun q1325 => ?_)
  refine V_aload_n (pc := 1328) dL_law__1328 rfl rfl ?_
  refine V_callVi (pc := 1329) (As := []) (rest := [.int q1325]) (c_X12_secrets w n  σ) cw_L_213 rfl rfl dL_law__1329 kc_171 ci_12 ⟨by simp only [m_L_law_, m_X12_secrets]; omega, by simp only [m_L_law_, m_X12_secrets]; omega⟩ rfl rfl (Nat.le_of_ble_eq_true rfl) (by simp only [m_L_law_]; omega) (by simp only [m_L_law_]; omega) rfl (fun q1329 => ?_)
  refine V_icmp_eq (pc := 1332) (tgt := 2895) dL_law__1332 (by decide +kernel) ?_ ?_
  · refine V_widen (kc' := kc + 20) (ks' := ks + 120) (by omega) (by omega) ?_
    exact V_back (fun h => h)
  · refine V_iconst (pc := 1335) dL_law__1335 ic_0 ?_
    exact V_none
theorem cl_214 : csw RL 214 m_L_would [(0, 10, 13, 13)] 4 := ⟨goodIn_of _ (by decide +kernel), by decide +kernel, by decide +kernel, by decide +kernel⟩
theorem wm_X12_would : wmp m_X12_would 2 := ⟨gx 1863 (by decide +kernel) (by decide +kernel), gx 1864 (by decide +kernel) (by decide +kernel), gx 138 (by decide +kernel) (by decide +kernel), gx 1865 (by decide +kernel) (by decide +kernel), by decide +kernel, by decide +kernel, by decide +kernel⟩
theorem cw_L_216 : cwp RL 216 m_X12_would 2 := cwp_of wm_X12_would (gx 1862 (by decide +kernel) (by decide +kernel))
def J_L_law__1402 (n : Nat) (x1 x2 x3 x4 x5 : Int32) (σ : MS) : Option (MS) := some σ
def step_20 (n : Nat) (x1 x2 x3 x4 x5 : Int32) (σ : MS) : Option MS := ((f_L_would n x1 x2 σ).bind (fun q1351 => ((f_X12_would n x1 x2 q1351.2).bind (fun q1369 => ((f_X12_thrown  q1369.2).bind (fun q1375 => (if q1375 = q1351.1 then (if q1351.1 = 0 then (if (q1369.2 183 0) = q1369.1 then J_L_law__1402 n x1 x2 x3 x4 x5 q1369.2 else none) else J_L_law__1402 n x1 x2 x3 x4 x5 q1369.2) else none)))))))
set_option maxRecDepth 20000 in
set_option maxHeartbeats 2000000 in
theorem v_case_20 (w : TG) (g : VG) (kc ks : Nat) (Q : State → Prop) (n b0 L : Nat) (xs : Nat → Int32) (i x1 x2 x3 x4 x5 : Int32) (hkc : kc + 40 ≤ 601024) (hks : ks + 240 ≤ 7293034) (hX : va_X b0 L xs (gS g) (gS g).heap) (hb0 : b0 < (gS g).heap.size) (hbA : ¬ wA w b0) (hi1 : inb (i + (1 : Int32)) L = true) (hx1 : xs (ix (i + (1 : Int32))) = x1) (hi2 : inb (i + (2 : Int32)) L = true) (hx2 : xs (ix (i + (2 : Int32))) = x2) (hi3 : inb (i + (3 : Int32)) L = true) (hx3 : xs (ix (i + (3 : Int32))) = x3) (hi4 : inb (i + (4 : Int32)) L = true) (hx4 : xs (ix (i + (4 : Int32))) = x4) (hi5 : inb (i + (5 : Int32)) L = true) (hx5 : xs (ix (i + (5 : Int32))) = x5) (σ : MS) : VV m_L_law_ w g kc ks Q (fun s => VH m_L_law_ w g (kc + 20) (ks + 120) Q 2895 [some (.ref b0), some (.ref (wB w + 0)), some (.ref (wB w + 171)), some (.ref (wB w + 183)), some (.int i), none, none] [] s) 1337 [some (.ref b0), some (.ref (wB w + 0)), some (.ref (wB w + 171)), some (.ref (wB w + 183)), some (.int i), none, none] [] σ (step_20 n x1 x2 x3 x4 x5 σ) := by
  unfold step_20
  have hJ1402 : ∀ (σ : MS), VV m_L_law_ w g (kc + 2) (ks + 12) Q (fun s => VH m_L_law_ w g (kc + 20) (ks + 120) Q 2895 [some (.ref b0), some (.ref (wB w + 0)), some (.ref (wB w + 171)), some (.ref (wB w + 183)), some (.int i), none, none] [] s) 1402 [some (.ref b0), some (.ref (wB w + 0)), some (.ref (wB w + 171)), some (.ref (wB w + 183)), some (.int i), none, none] [] σ (J_L_law__1402 n x1 x2 x3 x4 x5 σ) := by
    intro σ
    refine V_goto (pc := 1402) (tgt := 2895) dL_law__1402 (by decide +kernel) ?_
    refine V_widen (kc' := kc + 20) (ks' := ks + 120) (by omega) (by omega) ?_
    exact V_back (fun h => h)
  refine V_aload_n (pc := 1337) dL_law__1337 rfl rfl ?_
  refine V_aload_n (pc := 1338) dL_law__1338 rfl rfl ?_
  refine V_iload (pc := 1339) dL_law__1339 rfl ?_
  refine V_iconst (pc := 1341) dL_law__1341 ic_1 ?_
  refine V_iadd (pc := 1342) dL_law__1342 ?_
  refine V_sld (pc := 1343) hX hb0 hbA hi1 hx1 dL_law__1343 ?_
  refine V_aload_n (pc := 1344) dL_law__1344 rfl rfl ?_
  refine V_iload (pc := 1345) dL_law__1345 rfl ?_
  refine V_iconst (pc := 1347) dL_law__1347 ic_2 ?_
  refine V_iadd (pc := 1348) dL_law__1348 ?_
  refine V_sld (pc := 1349) hX hb0 hbA hi2 hx2 dL_law__1349 ?_
  refine V_aload_n (pc := 1350) dL_law__1350 rfl rfl ?_
  refine V_callW (pc := 1351) (As := [.ref (wB w + 0), .int x1, .int x2, .ref (wB w + 183)]) (rest := []) (c_L_would w n x1 x2 σ) cl_214 rfl rfl dL_law__1351 ⟨by simp only [m_L_law_, m_L_would]; omega, by simp only [m_L_law_, m_L_would]; omega⟩ rfl rfl (Nat.le_of_ble_eq_true rfl) (by simp only [m_L_law_, m_L_would]; omega) (by simp only [m_L_law_, m_L_would]; omega) (fun q1351 => ?_)
  show VV m_L_law_ w g (kc + 2) (ks + 12) Q (fun s => VH m_L_law_ w g (kc + 20) (ks + 120) Q 2895 [some (.ref b0), some (.ref (wB w + 0)), some (.ref (wB w + 171)), some (.ref (wB w + 183)), some (.int i), none, none] [] s) 1354 [some (.ref b0), some (.ref (wB w + 0)), some (.ref (wB w + 171)), some (.ref (wB w + 183)), some (.int i), none, none] [.int q1351.1] q1351.2 _
  refine V_istore (pc := 1354) (vs' := [some (.ref b0), some (.ref (wB w + 0)), some (.ref (wB w + 171)), some (.ref (wB w + 183)), some (.int i), some (.int q1351.1), none]) dL_law__1354 (Nat.le_of_ble_eq_true rfl) (Nat.le_of_ble_eq_true rfl) rfl ?_
  refine V_aload_n (pc := 1356) dL_law__1356 rfl rfl ?_
  refine V_aload_n (pc := 1357) dL_law__1357 rfl rfl ?_
  refine V_iload (pc := 1358) dL_law__1358 rfl ?_
  refine V_iconst (pc := 1360) dL_law__1360 ic_1 ?_
  refine V_iadd (pc := 1361) dL_law__1361 ?_
  refine V_sld (pc := 1362) hX hb0 hbA hi1 hx1 dL_law__1362 ?_
  refine V_aload_n (pc := 1363) dL_law__1363 rfl rfl ?_
  refine V_iload (pc := 1364) dL_law__1364 rfl ?_
  refine V_iconst (pc := 1366) dL_law__1366 ic_2 ?_
  refine V_iadd (pc := 1367) dL_law__1367 ?_
  refine V_sld (pc := 1368) hX hb0 hbA hi2 hx2 dL_law__1368 ?_
  refine V_callVi (pc := 1369) (As := [.int x1, .int x2]) (rest := []) (c_X12_would w n x1 x2 q1351.2) cw_L_216 rfl rfl dL_law__1369 kc_171 ci_12 ⟨by simp only [m_L_law_, m_X12_would]; omega, by simp only [m_L_law_, m_X12_would]; omega⟩ rfl rfl (Nat.le_of_ble_eq_true rfl) (by simp only [m_L_law_]; omega) (by simp only [m_L_law_]; omega) rfl (fun q1369 => ?_)
  refine V_istore (pc := 1372) (vs' := [some (.ref b0), some (.ref (wB w + 0)), some (.ref (wB w + 171)), some (.ref (wB w + 183)), some (.int i), some (.int q1351.1), some (.int q1369.1)]) dL_law__1372 (Nat.le_of_ble_eq_true rfl) (Nat.le_of_ble_eq_true rfl) rfl ?_
  refine V_aload_n (pc := 1374) dL_law__1374 rfl rfl ?_
  refine V_callVpi (pc := 1375) (As := []) (rest := []) (c_X12_thrown w  q1369.2) cw_L_150 rfl rfl dL_law__1375 kc_171 ci_12 ⟨by simp only [m_L_law_, m_X12_thrown]; omega, by simp only [m_L_law_, m_X12_thrown]; omega⟩ rfl rfl (Nat.le_of_ble_eq_true rfl) (by simp only [m_L_law_]; omega) (by simp only [m_L_law_]; omega) rfl (fun q1375 => ?_)
  refine V_iload (pc := 1378) dL_law__1378 rfl ?_
  refine V_icmp_eq (pc := 1380) (tgt := 1385) dL_law__1380 (by decide +kernel) ?_ ?_
  · refine V_iload (pc := 1385) dL_law__1385 rfl ?_
    refine V_if_ne (pc := 1387) (tgt := 1402) dL_law__1387 (by decide +kernel) ?_ ?_
    · refine V_sub (vs' := [some (.ref b0), some (.ref (wB w + 0)), some (.ref (wB w + 171)), some (.ref (wB w + 183)), some (.int i), none, none]) (show vless _ _ from ⟨rfl, ⟨rfl, ⟨rfl, ⟨rfl, ⟨rfl, trivial⟩⟩⟩⟩⟩) rfl ?_
      exact hJ1402 q1369.2
    · refine V_aload_n (pc := 1390) dL_law__1390 rfl rfl ?_
      refine V_iconst (pc := 1391) dL_law__1391 ic_0 ?_
      refine V_lald (pc := 1392) dL_law__1392 ?_
      refine V_iload (pc := 1393) dL_law__1393 rfl ?_
      refine V_i2l (pc := 1395) dL_law__1395 ?_
      refine V_lcmpeq (pc := 1396) (tgt := 1402) dL_law__1396 dL_law__1397 (by decide) ?_ ?_
      · refine V_sub (vs' := [some (.ref b0), some (.ref (wB w + 0)), some (.ref (wB w + 171)), some (.ref (wB w + 183)), some (.int i), none, none]) (show vless _ _ from ⟨rfl, ⟨rfl, ⟨rfl, ⟨rfl, ⟨rfl, trivial⟩⟩⟩⟩⟩) rfl ?_
        exact hJ1402 q1369.2
      · refine V_iconst (pc := 1400) dL_law__1400 ic_0 ?_
        exact V_none
  · refine V_iconst (pc := 1383) dL_law__1383 ic_0 ?_
    exact V_none
theorem cl_217 : csw RL 217 m_L_widest [(0, 10, 13, 13)] 4 := ⟨goodIn_of _ (by decide +kernel), by decide +kernel, by decide +kernel, by decide +kernel⟩
theorem wm_X12_widest : wmp m_X12_widest 2 := ⟨gx 1875 (by decide +kernel) (by decide +kernel), gx 1876 (by decide +kernel) (by decide +kernel), gx 138 (by decide +kernel) (by decide +kernel), gx 1877 (by decide +kernel) (by decide +kernel), by decide +kernel, by decide +kernel, by decide +kernel⟩
theorem cw_L_219 : cwp RL 219 m_X12_widest 2 := cwp_of wm_X12_widest (gx 1874 (by decide +kernel) (by decide +kernel))
def J_L_law__1470 (n : Nat) (x1 x2 x3 x4 x5 : Int32) (σ : MS) : Option (MS) := some σ
def step_21 (n : Nat) (x1 x2 x3 x4 x5 : Int32) (σ : MS) : Option MS := ((f_L_widest n x1 x2 σ).bind (fun q1419 => ((f_X12_widest n x1 x2 q1419.2).bind (fun q1437 => ((f_X12_thrown  q1437.2).bind (fun q1443 => (if q1443 = q1419.1 then (if q1419.1 = 0 then (if (q1437.2 183 0) = q1437.1 then J_L_law__1470 n x1 x2 x3 x4 x5 q1437.2 else none) else J_L_law__1470 n x1 x2 x3 x4 x5 q1437.2) else none)))))))
set_option maxRecDepth 20000 in
set_option maxHeartbeats 2000000 in
theorem v_case_21 (w : TG) (g : VG) (kc ks : Nat) (Q : State → Prop) (n b0 L : Nat) (xs : Nat → Int32) (i x1 x2 x3 x4 x5 : Int32) (hkc : kc + 40 ≤ 601024) (hks : ks + 240 ≤ 7293034) (hX : va_X b0 L xs (gS g) (gS g).heap) (hb0 : b0 < (gS g).heap.size) (hbA : ¬ wA w b0) (hi1 : inb (i + (1 : Int32)) L = true) (hx1 : xs (ix (i + (1 : Int32))) = x1) (hi2 : inb (i + (2 : Int32)) L = true) (hx2 : xs (ix (i + (2 : Int32))) = x2) (hi3 : inb (i + (3 : Int32)) L = true) (hx3 : xs (ix (i + (3 : Int32))) = x3) (hi4 : inb (i + (4 : Int32)) L = true) (hx4 : xs (ix (i + (4 : Int32))) = x4) (hi5 : inb (i + (5 : Int32)) L = true) (hx5 : xs (ix (i + (5 : Int32))) = x5) (σ : MS) : VV m_L_law_ w g kc ks Q (fun s => VH m_L_law_ w g (kc + 20) (ks + 120) Q 2895 [some (.ref b0), some (.ref (wB w + 0)), some (.ref (wB w + 171)), some (.ref (wB w + 183)), some (.int i), none, none] [] s) 1405 [some (.ref b0), some (.ref (wB w + 0)), some (.ref (wB w + 171)), some (.ref (wB w + 183)), some (.int i), none, none] [] σ (step_21 n x1 x2 x3 x4 x5 σ) := by
  unfold step_21
  have hJ1470 : ∀ (σ : MS), VV m_L_law_ w g (kc + 2) (ks + 12) Q (fun s => VH m_L_law_ w g (kc + 20) (ks + 120) Q 2895 [some (.ref b0), some (.ref (wB w + 0)), some (.ref (wB w + 171)), some (.ref (wB w + 183)), some (.int i), none, none] [] s) 1470 [some (.ref b0), some (.ref (wB w + 0)), some (.ref (wB w + 171)), some (.ref (wB w + 183)), some (.int i), none, none] [] σ (J_L_law__1470 n x1 x2 x3 x4 x5 σ) := by
    intro σ
    refine V_goto (pc := 1470) (tgt := 2895) dL_law__1470 (by decide +kernel) ?_
    refine V_widen (kc' := kc + 20) (ks' := ks + 120) (by omega) (by omega) ?_
    exact V_back (fun h => h)
  refine V_aload_n (pc := 1405) dL_law__1405 rfl rfl ?_
  refine V_aload_n (pc := 1406) dL_law__1406 rfl rfl ?_
  refine V_iload (pc := 1407) dL_law__1407 rfl ?_
  refine V_iconst (pc := 1409) dL_law__1409 ic_1 ?_
  refine V_iadd (pc := 1410) dL_law__1410 ?_
  refine V_sld (pc := 1411) hX hb0 hbA hi1 hx1 dL_law__1411 ?_
  refine V_aload_n (pc := 1412) dL_law__1412 rfl rfl ?_
  refine V_iload (pc := 1413) dL_law__1413 rfl ?_
  refine V_iconst (pc := 1415) dL_law__1415 ic_2 ?_
  refine V_iadd (pc := 1416) dL_law__1416 ?_
  refine V_sld (pc := 1417) hX hb0 hbA hi2 hx2 dL_law__1417 ?_
  refine V_aload_n (pc := 1418) dL_law__1418 rfl rfl ?_
  refine V_callW (pc := 1419) (As := [.ref (wB w + 0), .int x1, .int x2, .ref (wB w + 183)]) (rest := []) (c_L_widest w n x1 x2 σ) cl_217 rfl rfl dL_law__1419 ⟨by simp only [m_L_law_, m_L_widest]; omega, by simp only [m_L_law_, m_L_widest]; omega⟩ rfl rfl (Nat.le_of_ble_eq_true rfl) (by simp only [m_L_law_, m_L_widest]; omega) (by simp only [m_L_law_, m_L_widest]; omega) (fun q1419 => ?_)
  show VV m_L_law_ w g (kc + 2) (ks + 12) Q (fun s => VH m_L_law_ w g (kc + 20) (ks + 120) Q 2895 [some (.ref b0), some (.ref (wB w + 0)), some (.ref (wB w + 171)), some (.ref (wB w + 183)), some (.int i), none, none] [] s) 1422 [some (.ref b0), some (.ref (wB w + 0)), some (.ref (wB w + 171)), some (.ref (wB w + 183)), some (.int i), none, none] [.int q1419.1] q1419.2 _
  refine V_istore (pc := 1422) (vs' := [some (.ref b0), some (.ref (wB w + 0)), some (.ref (wB w + 171)), some (.ref (wB w + 183)), some (.int i), some (.int q1419.1), none]) dL_law__1422 (Nat.le_of_ble_eq_true rfl) (Nat.le_of_ble_eq_true rfl) rfl ?_
  refine V_aload_n (pc := 1424) dL_law__1424 rfl rfl ?_
  refine V_aload_n (pc := 1425) dL_law__1425 rfl rfl ?_
  refine V_iload (pc := 1426) dL_law__1426 rfl ?_
  refine V_iconst (pc := 1428) dL_law__1428 ic_1 ?_
  refine V_iadd (pc := 1429) dL_law__1429 ?_
  refine V_sld (pc := 1430) hX hb0 hbA hi1 hx1 dL_law__1430 ?_
  refine V_aload_n (pc := 1431) dL_law__1431 rfl rfl ?_
  refine V_iload (pc := 1432) dL_law__1432 rfl ?_
  refine V_iconst (pc := 1434) dL_law__1434 ic_2 ?_
  refine V_iadd (pc := 1435) dL_law__1435 ?_
  refine V_sld (pc := 1436) hX hb0 hbA hi2 hx2 dL_law__1436 ?_
  refine V_callVi (pc := 1437) (As := [.int x1, .int x2]) (rest := []) (c_X12_widest w n x1 x2 q1419.2) cw_L_219 rfl rfl dL_law__1437 kc_171 ci_12 ⟨by simp only [m_L_law_, m_X12_widest]; omega, by simp only [m_L_law_, m_X12_widest]; omega⟩ rfl rfl (Nat.le_of_ble_eq_true rfl) (by simp only [m_L_law_]; omega) (by simp only [m_L_law_]; omega) rfl (fun q1437 => ?_)
  refine V_istore (pc := 1440) (vs' := [some (.ref b0), some (.ref (wB w + 0)), some (.ref (wB w + 171)), some (.ref (wB w + 183)), some (.int i), some (.int q1419.1), some (.int q1437.1)]) dL_law__1440 (Nat.le_of_ble_eq_true rfl) (Nat.le_of_ble_eq_true rfl) rfl ?_
  refine V_aload_n (pc := 1442) dL_law__1442 rfl rfl ?_
  refine V_callVpi (pc := 1443) (As := []) (rest := []) (c_X12_thrown w  q1437.2) cw_L_150 rfl rfl dL_law__1443 kc_171 ci_12 ⟨by simp only [m_L_law_, m_X12_thrown]; omega, by simp only [m_L_law_, m_X12_thrown]; omega⟩ rfl rfl (Nat.le_of_ble_eq_true rfl) (by simp only [m_L_law_]; omega) (by simp only [m_L_law_]; omega) rfl (fun q1443 => ?_)
  refine V_iload (pc := 1446) dL_law__1446 rfl ?_
  refine V_icmp_eq (pc := 1448) (tgt := 1453) dL_law__1448 (by decide +kernel) ?_ ?_
  · refine V_iload (pc := 1453) dL_law__1453 rfl ?_
    refine V_if_ne (pc := 1455) (tgt := 1470) dL_law__1455 (by decide +kernel) ?_ ?_
    · refine V_sub (vs' := [some (.ref b0), some (.ref (wB w + 0)), some (.ref (wB w + 171)), some (.ref (wB w + 183)), some (.int i), none, none]) (show vless _ _ from ⟨rfl, ⟨rfl, ⟨rfl, ⟨rfl, ⟨rfl, trivial⟩⟩⟩⟩⟩) rfl ?_
      exact hJ1470 q1437.2
    · refine V_aload_n (pc := 1458) dL_law__1458 rfl rfl ?_
      refine V_iconst (pc := 1459) dL_law__1459 ic_0 ?_
      refine V_lald (pc := 1460) dL_law__1460 ?_
      refine V_iload (pc := 1461) dL_law__1461 rfl ?_
      refine V_i2l (pc := 1463) dL_law__1463 ?_
      refine V_lcmpeq (pc := 1464) (tgt := 1470) dL_law__1464 dL_law__1465 (by decide) ?_ ?_
      · refine V_sub (vs' := [some (.ref b0), some (.ref (wB w + 0)), some (.ref (wB w + 171)), some (.ref (wB w + 183)), some (.int i), none, none]) (show vless _ _ from ⟨rfl, ⟨rfl, ⟨rfl, ⟨rfl, ⟨rfl, trivial⟩⟩⟩⟩⟩) rfl ?_
        exact hJ1470 q1437.2
      · refine V_iconst (pc := 1468) dL_law__1468 ic_0 ?_
        exact V_none
  · refine V_iconst (pc := 1451) dL_law__1451 ic_0 ?_
    exact V_none
theorem cl_220 : csw RL 220 m_L_parts [(0, 10, 13, 24), (0, 10, 17, 13)] 4 := ⟨goodIn_of _ (by decide +kernel), by decide +kernel, by decide +kernel, by decide +kernel⟩
theorem wm_X12_parts : wmp m_X12_parts 2 := ⟨gx 1947 (by decide +kernel) (by decide +kernel), gx 1948 (by decide +kernel) (by decide +kernel), gx 138 (by decide +kernel) (by decide +kernel), gx 1949 (by decide +kernel) (by decide +kernel), by decide +kernel, by decide +kernel, by decide +kernel⟩
theorem cw_L_222 : cwp RL 222 m_X12_parts 2 := cwp_of wm_X12_parts (gx 1946 (by decide +kernel) (by decide +kernel))
def J_L_law__1538 (n : Nat) (x1 x2 x3 x4 x5 : Int32) (σ : MS) : Option (MS) := some σ
def step_22 (n : Nat) (x1 x2 x3 x4 x5 : Int32) (σ : MS) : Option MS := ((f_L_parts n x1 x2 σ).bind (fun q1487 => ((f_X12_parts n x1 x2 q1487.2).bind (fun q1505 => ((f_X12_thrown  q1505.2).bind (fun q1511 => (if q1511 = q1487.1 then (if q1487.1 = 0 then (if (q1505.2 183 0) = q1505.1 then J_L_law__1538 n x1 x2 x3 x4 x5 q1505.2 else none) else J_L_law__1538 n x1 x2 x3 x4 x5 q1505.2) else none)))))))
set_option maxRecDepth 20000 in
set_option maxHeartbeats 2000000 in
theorem v_case_22 (w : TG) (g : VG) (kc ks : Nat) (Q : State → Prop) (n b0 L : Nat) (xs : Nat → Int32) (i x1 x2 x3 x4 x5 : Int32) (hkc : kc + 40 ≤ 601024) (hks : ks + 240 ≤ 7293034) (hX : va_X b0 L xs (gS g) (gS g).heap) (hb0 : b0 < (gS g).heap.size) (hbA : ¬ wA w b0) (hi1 : inb (i + (1 : Int32)) L = true) (hx1 : xs (ix (i + (1 : Int32))) = x1) (hi2 : inb (i + (2 : Int32)) L = true) (hx2 : xs (ix (i + (2 : Int32))) = x2) (hi3 : inb (i + (3 : Int32)) L = true) (hx3 : xs (ix (i + (3 : Int32))) = x3) (hi4 : inb (i + (4 : Int32)) L = true) (hx4 : xs (ix (i + (4 : Int32))) = x4) (hi5 : inb (i + (5 : Int32)) L = true) (hx5 : xs (ix (i + (5 : Int32))) = x5) (σ : MS) : VV m_L_law_ w g kc ks Q (fun s => VH m_L_law_ w g (kc + 20) (ks + 120) Q 2895 [some (.ref b0), some (.ref (wB w + 0)), some (.ref (wB w + 171)), some (.ref (wB w + 183)), some (.int i), none, none] [] s) 1473 [some (.ref b0), some (.ref (wB w + 0)), some (.ref (wB w + 171)), some (.ref (wB w + 183)), some (.int i), none, none] [] σ (step_22 n x1 x2 x3 x4 x5 σ) := by
  unfold step_22
  have hJ1538 : ∀ (σ : MS), VV m_L_law_ w g (kc + 3) (ks + 18) Q (fun s => VH m_L_law_ w g (kc + 20) (ks + 120) Q 2895 [some (.ref b0), some (.ref (wB w + 0)), some (.ref (wB w + 171)), some (.ref (wB w + 183)), some (.int i), none, none] [] s) 1538 [some (.ref b0), some (.ref (wB w + 0)), some (.ref (wB w + 171)), some (.ref (wB w + 183)), some (.int i), none, none] [] σ (J_L_law__1538 n x1 x2 x3 x4 x5 σ) := by
    intro σ
    refine V_goto (pc := 1538) (tgt := 2895) dL_law__1538 (by decide +kernel) ?_
    refine V_widen (kc' := kc + 20) (ks' := ks + 120) (by omega) (by omega) ?_
    exact V_back (fun h => h)
  refine V_aload_n (pc := 1473) dL_law__1473 rfl rfl ?_
  refine V_aload_n (pc := 1474) dL_law__1474 rfl rfl ?_
  refine V_iload (pc := 1475) dL_law__1475 rfl ?_
  refine V_iconst (pc := 1477) dL_law__1477 ic_1 ?_
  refine V_iadd (pc := 1478) dL_law__1478 ?_
  refine V_sld (pc := 1479) hX hb0 hbA hi1 hx1 dL_law__1479 ?_
  refine V_aload_n (pc := 1480) dL_law__1480 rfl rfl ?_
  refine V_iload (pc := 1481) dL_law__1481 rfl ?_
  refine V_iconst (pc := 1483) dL_law__1483 ic_2 ?_
  refine V_iadd (pc := 1484) dL_law__1484 ?_
  refine V_sld (pc := 1485) hX hb0 hbA hi2 hx2 dL_law__1485 ?_
  refine V_aload_n (pc := 1486) dL_law__1486 rfl rfl ?_
  refine V_callW (pc := 1487) (As := [.ref (wB w + 0), .int x1, .int x2, .ref (wB w + 183)]) (rest := []) (c_L_parts w n x1 x2 σ) cl_220 rfl rfl dL_law__1487 ⟨by simp only [m_L_law_, m_L_parts]; omega, by simp only [m_L_law_, m_L_parts]; omega⟩ rfl rfl (Nat.le_of_ble_eq_true rfl) (by simp only [m_L_law_, m_L_parts]; omega) (by simp only [m_L_law_, m_L_parts]; omega) (fun q1487 => ?_)
  show VV m_L_law_ w g (kc + 3) (ks + 18) Q (fun s => VH m_L_law_ w g (kc + 20) (ks + 120) Q 2895 [some (.ref b0), some (.ref (wB w + 0)), some (.ref (wB w + 171)), some (.ref (wB w + 183)), some (.int i), none, none] [] s) 1490 [some (.ref b0), some (.ref (wB w + 0)), some (.ref (wB w + 171)), some (.ref (wB w + 183)), some (.int i), none, none] [.int q1487.1] q1487.2 _
  refine V_istore (pc := 1490) (vs' := [some (.ref b0), some (.ref (wB w + 0)), some (.ref (wB w + 171)), some (.ref (wB w + 183)), some (.int i), some (.int q1487.1), none]) dL_law__1490 (Nat.le_of_ble_eq_true rfl) (Nat.le_of_ble_eq_true rfl) rfl ?_
  refine V_aload_n (pc := 1492) dL_law__1492 rfl rfl ?_
  refine V_aload_n (pc := 1493) dL_law__1493 rfl rfl ?_
  refine V_iload (pc := 1494) dL_law__1494 rfl ?_
  refine V_iconst (pc := 1496) dL_law__1496 ic_1 ?_
  refine V_iadd (pc := 1497) dL_law__1497 ?_
  refine V_sld (pc := 1498) hX hb0 hbA hi1 hx1 dL_law__1498 ?_
  refine V_aload_n (pc := 1499) dL_law__1499 rfl rfl ?_
  refine V_iload (pc := 1500) dL_law__1500 rfl ?_
  refine V_iconst (pc := 1502) dL_law__1502 ic_2 ?_
  refine V_iadd (pc := 1503) dL_law__1503 ?_
  refine V_sld (pc := 1504) hX hb0 hbA hi2 hx2 dL_law__1504 ?_
  refine V_callVi (pc := 1505) (As := [.int x1, .int x2]) (rest := []) (c_X12_parts w n x1 x2 q1487.2) cw_L_222 rfl rfl dL_law__1505 kc_171 ci_12 ⟨by simp only [m_L_law_, m_X12_parts]; omega, by simp only [m_L_law_, m_X12_parts]; omega⟩ rfl rfl (Nat.le_of_ble_eq_true rfl) (by simp only [m_L_law_]; omega) (by simp only [m_L_law_]; omega) rfl (fun q1505 => ?_)
  refine V_istore (pc := 1508) (vs' := [some (.ref b0), some (.ref (wB w + 0)), some (.ref (wB w + 171)), some (.ref (wB w + 183)), some (.int i), some (.int q1487.1), some (.int q1505.1)]) dL_law__1508 (Nat.le_of_ble_eq_true rfl) (Nat.le_of_ble_eq_true rfl) rfl ?_
  refine V_aload_n (pc := 1510) dL_law__1510 rfl rfl ?_
  refine V_callVpi (pc := 1511) (As := []) (rest := []) (c_X12_thrown w  q1505.2) cw_L_150 rfl rfl dL_law__1511 kc_171 ci_12 ⟨by simp only [m_L_law_, m_X12_thrown]; omega, by simp only [m_L_law_, m_X12_thrown]; omega⟩ rfl rfl (Nat.le_of_ble_eq_true rfl) (by simp only [m_L_law_]; omega) (by simp only [m_L_law_]; omega) rfl (fun q1511 => ?_)
  refine V_iload (pc := 1514) dL_law__1514 rfl ?_
  refine V_icmp_eq (pc := 1516) (tgt := 1521) dL_law__1516 (by decide +kernel) ?_ ?_
  · refine V_iload (pc := 1521) dL_law__1521 rfl ?_
    refine V_if_ne (pc := 1523) (tgt := 1538) dL_law__1523 (by decide +kernel) ?_ ?_
    · refine V_sub (vs' := [some (.ref b0), some (.ref (wB w + 0)), some (.ref (wB w + 171)), some (.ref (wB w + 183)), some (.int i), none, none]) (show vless _ _ from ⟨rfl, ⟨rfl, ⟨rfl, ⟨rfl, ⟨rfl, trivial⟩⟩⟩⟩⟩) rfl ?_
      exact hJ1538 q1505.2
    · refine V_aload_n (pc := 1526) dL_law__1526 rfl rfl ?_
      refine V_iconst (pc := 1527) dL_law__1527 ic_0 ?_
      refine V_lald (pc := 1528) dL_law__1528 ?_
      refine V_iload (pc := 1529) dL_law__1529 rfl ?_
      refine V_i2l (pc := 1531) dL_law__1531 ?_
      refine V_lcmpeq (pc := 1532) (tgt := 1538) dL_law__1532 dL_law__1533 (by decide) ?_ ?_
      · refine V_sub (vs' := [some (.ref b0), some (.ref (wB w + 0)), some (.ref (wB w + 171)), some (.ref (wB w + 183)), some (.int i), none, none]) (show vless _ _ from ⟨rfl, ⟨rfl, ⟨rfl, ⟨rfl, ⟨rfl, trivial⟩⟩⟩⟩⟩) rfl ?_
        exact hJ1538 q1505.2
      · refine V_iconst (pc := 1536) dL_law__1536 ic_0 ?_
        exact V_none
  · refine V_iconst (pc := 1519) dL_law__1519 ic_0 ?_
    exact V_none
theorem wm_X12_lovers : wmp m_X12_lovers 1 := ⟨gx 1972 (by decide +kernel) (by decide +kernel), gx 1973 (by decide +kernel) (by decide +kernel), gx 138 (by decide +kernel) (by decide +kernel), gx 1974 (by decide +kernel) (by decide +kernel), by decide +kernel, by decide +kernel, by decide +kernel⟩
theorem cw_L_226 : cwp RL 226 m_X12_lovers 1 := cwp_of wm_X12_lovers (gx 1971 (by decide +kernel) (by decide +kernel))
theorem wm_X11_lovers : wmp m_X11_lovers 1 := ⟨gx 553 (by decide +kernel) (by decide +kernel), gx 554 (by decide +kernel) (by decide +kernel), gx 127 (by decide +kernel) (by decide +kernel), gx 555 (by decide +kernel) (by decide +kernel), by decide +kernel, by decide +kernel, by decide +kernel⟩
theorem cw_L_223 : cwp RL 223 m_X11_lovers 1 := cwp_of wm_X11_lovers (gx 552 (by decide +kernel) (by decide +kernel))
def J_L_law__1574 (n : Nat) (x1 x2 x3 x4 x5 : Int32) (t0 : Int32) (t2 : Int32) (σ : MS) : Option (MS) := ((f_X12_lovers n t0 σ).bind (fun q1574 => (if t2 = q1574.1 then some q1574.2 else none)))
def J_L_law__1556 (n : Nat) (x1 x2 x3 x4 x5 : Int32) (t0 : Int32) (σ : MS) : Option (MS) := ((f_X11_lovers n t0 σ).bind (fun q1556 => (if x1 = 0 then J_L_law__1574 n x1 x2 x3 x4 x5 (0 : Int32) q1556 σ else J_L_law__1574 n x1 x2 x3 x4 x5 (1 : Int32) q1556 σ)))
def step_23 (n : Nat) (x1 x2 x3 x4 x5 : Int32) (σ : MS) : Option MS := (if x1 = 0 then J_L_law__1556 n x1 x2 x3 x4 x5 (0 : Int32) σ else J_L_law__1556 n x1 x2 x3 x4 x5 (1 : Int32) σ)
set_option maxRecDepth 20000 in
set_option maxHeartbeats 2000000 in
theorem v_case_23 (w : TG) (g : VG) (kc ks : Nat) (Q : State → Prop) (n b0 L : Nat) (xs : Nat → Int32) (i x1 x2 x3 x4 x5 : Int32) (hkc : kc + 40 ≤ 601024) (hks : ks + 240 ≤ 7293034) (hX : va_X b0 L xs (gS g) (gS g).heap) (hb0 : b0 < (gS g).heap.size) (hbA : ¬ wA w b0) (hi1 : inb (i + (1 : Int32)) L = true) (hx1 : xs (ix (i + (1 : Int32))) = x1) (hi2 : inb (i + (2 : Int32)) L = true) (hx2 : xs (ix (i + (2 : Int32))) = x2) (hi3 : inb (i + (3 : Int32)) L = true) (hx3 : xs (ix (i + (3 : Int32))) = x3) (hi4 : inb (i + (4 : Int32)) L = true) (hx4 : xs (ix (i + (4 : Int32))) = x4) (hi5 : inb (i + (5 : Int32)) L = true) (hx5 : xs (ix (i + (5 : Int32))) = x5) (σ : MS) : VV m_L_law_ w g kc ks Q (fun s => VH m_L_law_ w g (kc + 20) (ks + 120) Q 2895 [some (.ref b0), some (.ref (wB w + 0)), some (.ref (wB w + 171)), some (.ref (wB w + 183)), some (.int i), none, none] [] s) 1541 [some (.ref b0), some (.ref (wB w + 0)), some (.ref (wB w + 171)), some (.ref (wB w + 183)), some (.int i), none, none] [] σ (step_23 n x1 x2 x3 x4 x5 σ) := by
  unfold step_23
  have hJ1574 : ∀ (t0 : Int32) (t2 : Int32) (σ : MS), VV m_L_law_ w g kc ks Q (fun s => VH m_L_law_ w g (kc + 20) (ks + 120) Q 2895 [some (.ref b0), some (.ref (wB w + 0)), some (.ref (wB w + 171)), some (.ref (wB w + 183)), some (.int i), none, none] [] s) 1574 [some (.ref b0), some (.ref (wB w + 0)), some (.ref (wB w + 171)), some (.ref (wB w + 183)), some (.int i), none, none] [.int t0, .ref (wB w + 171), .int t2] σ (J_L_law__1574 n x1 x2 x3 x4 x5 t0 t2 σ) := by
    intro t0 t2 σ
    refine V_callVi (pc := 1574) (As := [.int t0]) (rest := [.int t2]) (c_X12_lovers w n t0 σ) cw_L_226 rfl rfl dL_law__1574 kc_171 ci_12 ⟨by simp only [m_L_law_, m_X12_lovers]; omega, by simp only [m_L_law_, m_X12_lovers]; omega⟩ rfl rfl (Nat.le_of_ble_eq_true rfl) (by simp only [m_L_law_]; omega) (by simp only [m_L_law_]; omega) rfl (fun q1574 => ?_)
    refine V_icmp_eq (pc := 1577) (tgt := 2895) dL_law__1577 (by decide +kernel) ?_ ?_
    · refine V_widen (kc' := kc + 20) (ks' := ks + 120) (by omega) (by omega) ?_
      exact V_back (fun h => h)
    · refine V_iconst (pc := 1580) dL_law__1580 ic_0 ?_
      exact V_none
  have hJ1556 : ∀ (t0 : Int32) (σ : MS), VV m_L_law_ w g kc ks Q (fun s => VH m_L_law_ w g (kc + 20) (ks + 120) Q 2895 [some (.ref b0), some (.ref (wB w + 0)), some (.ref (wB w + 171)), some (.ref (wB w + 183)), some (.int i), none, none] [] s) 1556 [some (.ref b0), some (.ref (wB w + 0)), some (.ref (wB w + 171)), some (.ref (wB w + 183)), some (.int i), none, none] [.int t0, .ref (wB w + 0)] σ (J_L_law__1556 n x1 x2 x3 x4 x5 t0 σ) := by
    intro t0 σ
    refine V_callVpi (pc := 1556) (As := [.int t0]) (rest := []) (c_X11_lovers w n t0 σ) cw_L_223 rfl rfl dL_law__1556 kc_0 ci_11 ⟨by simp only [m_L_law_, m_X11_lovers]; omega, by simp only [m_L_law_, m_X11_lovers]; omega⟩ rfl rfl (Nat.le_of_ble_eq_true rfl) (by simp only [m_L_law_]; omega) (by simp only [m_L_law_]; omega) rfl (fun q1556 => ?_)
    refine V_aload_n (pc := 1559) dL_law__1559 rfl rfl ?_
    refine V_aload_n (pc := 1560) dL_law__1560 rfl rfl ?_
    refine V_iload (pc := 1561) dL_law__1561 rfl ?_
    refine V_iconst (pc := 1563) dL_law__1563 ic_1 ?_
    refine V_iadd (pc := 1564) dL_law__1564 ?_
    refine V_sld (pc := 1565) hX hb0 hbA hi1 hx1 dL_law__1565 ?_
    refine V_if_eq (pc := 1566) (tgt := 1573) dL_law__1566 (by decide +kernel) ?_ ?_
    · refine V_iconst (pc := 1573) dL_law__1573 ic_0 ?_
      exact hJ1574 (0 : Int32) q1556 σ
    · refine V_iconst (pc := 1569) dL_law__1569 ic_1 ?_
      refine V_goto (pc := 1570) (tgt := 1574) dL_law__1570 (by decide +kernel) ?_
      exact hJ1574 (1 : Int32) q1556 σ
  refine V_aload_n (pc := 1541) dL_law__1541 rfl rfl ?_
  refine V_aload_n (pc := 1542) dL_law__1542 rfl rfl ?_
  refine V_iload (pc := 1543) dL_law__1543 rfl ?_
  refine V_iconst (pc := 1545) dL_law__1545 ic_1 ?_
  refine V_iadd (pc := 1546) dL_law__1546 ?_
  refine V_sld (pc := 1547) hX hb0 hbA hi1 hx1 dL_law__1547 ?_
  refine V_if_eq (pc := 1548) (tgt := 1555) dL_law__1548 (by decide +kernel) ?_ ?_
  · refine V_iconst (pc := 1555) dL_law__1555 ic_0 ?_
    exact hJ1556 (0 : Int32) σ
  · refine V_iconst (pc := 1551) dL_law__1551 ic_1 ?_
    refine V_goto (pc := 1552) (tgt := 1556) dL_law__1552 (by decide +kernel) ?_
    exact hJ1556 (1 : Int32) σ
theorem cl_227 : csw RL 227 m_L_steady [(0, 9, 12, 24)] 3 := ⟨goodIn_of _ (by decide +kernel), by decide +kernel, by decide +kernel, by decide +kernel⟩
theorem wm_X12_steady : wmp m_X12_steady 1 := ⟨gx 1976 (by decide +kernel) (by decide +kernel), gx 1977 (by decide +kernel) (by decide +kernel), gx 138 (by decide +kernel) (by decide +kernel), gx 1978 (by decide +kernel) (by decide +kernel), by decide +kernel, by decide +kernel, by decide +kernel⟩
theorem cw_L_229 : cwp RL 229 m_X12_steady 1 := cwp_of wm_X12_steady (gx 1975 (by decide +kernel) (by decide +kernel))
def J_L_law__1635 (n : Nat) (x1 x2 x3 x4 x5 : Int32) (σ : MS) : Option (MS) := some σ
def step_24 (n : Nat) (x1 x2 x3 x4 x5 : Int32) (σ : MS) : Option MS := ((f_L_steady n x1 σ).bind (fun q1590 => ((f_X12_steady n x1 q1590.2).bind (fun q1602 => ((f_X12_thrown  q1602.2).bind (fun q1608 => (if q1608 = q1590.1 then (if q1590.1 = 0 then (if (q1602.2 183 0) = q1602.1 then J_L_law__1635 n x1 x2 x3 x4 x5 q1602.2 else none) else J_L_law__1635 n x1 x2 x3 x4 x5 q1602.2) else none)))))))
set_option maxRecDepth 20000 in
set_option maxHeartbeats 2000000 in
theorem v_case_24 (w : TG) (g : VG) (kc ks : Nat) (Q : State → Prop) (n b0 L : Nat) (xs : Nat → Int32) (i x1 x2 x3 x4 x5 : Int32) (hkc : kc + 40 ≤ 601024) (hks : ks + 240 ≤ 7293034) (hX : va_X b0 L xs (gS g) (gS g).heap) (hb0 : b0 < (gS g).heap.size) (hbA : ¬ wA w b0) (hi1 : inb (i + (1 : Int32)) L = true) (hx1 : xs (ix (i + (1 : Int32))) = x1) (hi2 : inb (i + (2 : Int32)) L = true) (hx2 : xs (ix (i + (2 : Int32))) = x2) (hi3 : inb (i + (3 : Int32)) L = true) (hx3 : xs (ix (i + (3 : Int32))) = x3) (hi4 : inb (i + (4 : Int32)) L = true) (hx4 : xs (ix (i + (4 : Int32))) = x4) (hi5 : inb (i + (5 : Int32)) L = true) (hx5 : xs (ix (i + (5 : Int32))) = x5) (σ : MS) : VV m_L_law_ w g kc ks Q (fun s => VH m_L_law_ w g (kc + 20) (ks + 120) Q 2895 [some (.ref b0), some (.ref (wB w + 0)), some (.ref (wB w + 171)), some (.ref (wB w + 183)), some (.int i), none, none] [] s) 1582 [some (.ref b0), some (.ref (wB w + 0)), some (.ref (wB w + 171)), some (.ref (wB w + 183)), some (.int i), none, none] [] σ (step_24 n x1 x2 x3 x4 x5 σ) := by
  unfold step_24
  have hJ1635 : ∀ (σ : MS), VV m_L_law_ w g (kc + 1) (ks + 6) Q (fun s => VH m_L_law_ w g (kc + 20) (ks + 120) Q 2895 [some (.ref b0), some (.ref (wB w + 0)), some (.ref (wB w + 171)), some (.ref (wB w + 183)), some (.int i), none, none] [] s) 1635 [some (.ref b0), some (.ref (wB w + 0)), some (.ref (wB w + 171)), some (.ref (wB w + 183)), some (.int i), none, none] [] σ (J_L_law__1635 n x1 x2 x3 x4 x5 σ) := by
    intro σ
    refine V_goto (pc := 1635) (tgt := 2895) dL_law__1635 (by decide +kernel) ?_
    refine V_widen (kc' := kc + 20) (ks' := ks + 120) (by omega) (by omega) ?_
    exact V_back (fun h => h)
  refine V_aload_n (pc := 1582) dL_law__1582 rfl rfl ?_
  refine V_aload_n (pc := 1583) dL_law__1583 rfl rfl ?_
  refine V_iload (pc := 1584) dL_law__1584 rfl ?_
  refine V_iconst (pc := 1586) dL_law__1586 ic_1 ?_
  refine V_iadd (pc := 1587) dL_law__1587 ?_
  refine V_sld (pc := 1588) hX hb0 hbA hi1 hx1 dL_law__1588 ?_
  refine V_aload_n (pc := 1589) dL_law__1589 rfl rfl ?_
  refine V_callW (pc := 1590) (As := [.ref (wB w + 0), .int x1, .ref (wB w + 183)]) (rest := []) (c_L_steady w n x1 σ) cl_227 rfl rfl dL_law__1590 ⟨by simp only [m_L_law_, m_L_steady]; omega, by simp only [m_L_law_, m_L_steady]; omega⟩ rfl rfl (Nat.le_of_ble_eq_true rfl) (by simp only [m_L_law_, m_L_steady]; omega) (by simp only [m_L_law_, m_L_steady]; omega) (fun q1590 => ?_)
  show VV m_L_law_ w g (kc + 1) (ks + 6) Q (fun s => VH m_L_law_ w g (kc + 20) (ks + 120) Q 2895 [some (.ref b0), some (.ref (wB w + 0)), some (.ref (wB w + 171)), some (.ref (wB w + 183)), some (.int i), none, none] [] s) 1593 [some (.ref b0), some (.ref (wB w + 0)), some (.ref (wB w + 171)), some (.ref (wB w + 183)), some (.int i), none, none] [.int q1590.1] q1590.2 _
  refine V_istore (pc := 1593) (vs' := [some (.ref b0), some (.ref (wB w + 0)), some (.ref (wB w + 171)), some (.ref (wB w + 183)), some (.int i), some (.int q1590.1), none]) dL_law__1593 (Nat.le_of_ble_eq_true rfl) (Nat.le_of_ble_eq_true rfl) rfl ?_
  refine V_aload_n (pc := 1595) dL_law__1595 rfl rfl ?_
  refine V_aload_n (pc := 1596) dL_law__1596 rfl rfl ?_
  refine V_iload (pc := 1597) dL_law__1597 rfl ?_
  refine V_iconst (pc := 1599) dL_law__1599 ic_1 ?_
  refine V_iadd (pc := 1600) dL_law__1600 ?_
  refine V_sld (pc := 1601) hX hb0 hbA hi1 hx1 dL_law__1601 ?_
  refine V_callVi (pc := 1602) (As := [.int x1]) (rest := []) (c_X12_steady w n x1 q1590.2) cw_L_229 rfl rfl dL_law__1602 kc_171 ci_12 ⟨by simp only [m_L_law_, m_X12_steady]; omega, by simp only [m_L_law_, m_X12_steady]; omega⟩ rfl rfl (Nat.le_of_ble_eq_true rfl) (by simp only [m_L_law_]; omega) (by simp only [m_L_law_]; omega) rfl (fun q1602 => ?_)
  refine V_istore (pc := 1605) (vs' := [some (.ref b0), some (.ref (wB w + 0)), some (.ref (wB w + 171)), some (.ref (wB w + 183)), some (.int i), some (.int q1590.1), some (.int q1602.1)]) dL_law__1605 (Nat.le_of_ble_eq_true rfl) (Nat.le_of_ble_eq_true rfl) rfl ?_
  refine V_aload_n (pc := 1607) dL_law__1607 rfl rfl ?_
  refine V_callVpi (pc := 1608) (As := []) (rest := []) (c_X12_thrown w  q1602.2) cw_L_150 rfl rfl dL_law__1608 kc_171 ci_12 ⟨by simp only [m_L_law_, m_X12_thrown]; omega, by simp only [m_L_law_, m_X12_thrown]; omega⟩ rfl rfl (Nat.le_of_ble_eq_true rfl) (by simp only [m_L_law_]; omega) (by simp only [m_L_law_]; omega) rfl (fun q1608 => ?_)
  refine V_iload (pc := 1611) dL_law__1611 rfl ?_
  refine V_icmp_eq (pc := 1613) (tgt := 1618) dL_law__1613 (by decide +kernel) ?_ ?_
  · refine V_iload (pc := 1618) dL_law__1618 rfl ?_
    refine V_if_ne (pc := 1620) (tgt := 1635) dL_law__1620 (by decide +kernel) ?_ ?_
    · refine V_sub (vs' := [some (.ref b0), some (.ref (wB w + 0)), some (.ref (wB w + 171)), some (.ref (wB w + 183)), some (.int i), none, none]) (show vless _ _ from ⟨rfl, ⟨rfl, ⟨rfl, ⟨rfl, ⟨rfl, trivial⟩⟩⟩⟩⟩) rfl ?_
      exact hJ1635 q1602.2
    · refine V_aload_n (pc := 1623) dL_law__1623 rfl rfl ?_
      refine V_iconst (pc := 1624) dL_law__1624 ic_0 ?_
      refine V_lald (pc := 1625) dL_law__1625 ?_
      refine V_iload (pc := 1626) dL_law__1626 rfl ?_
      refine V_i2l (pc := 1628) dL_law__1628 ?_
      refine V_lcmpeq (pc := 1629) (tgt := 1635) dL_law__1629 dL_law__1630 (by decide) ?_ ?_
      · refine V_sub (vs' := [some (.ref b0), some (.ref (wB w + 0)), some (.ref (wB w + 171)), some (.ref (wB w + 183)), some (.int i), none, none]) (show vless _ _ from ⟨rfl, ⟨rfl, ⟨rfl, ⟨rfl, ⟨rfl, trivial⟩⟩⟩⟩⟩) rfl ?_
        exact hJ1635 q1602.2
      · refine V_iconst (pc := 1633) dL_law__1633 ic_0 ?_
        exact V_none
  · refine V_iconst (pc := 1616) dL_law__1616 ic_0 ?_
    exact V_none
theorem wm_X11_fondest : wmp m_X11_fondest 0 := ⟨gx 585 (by decide +kernel) (by decide +kernel), gx 586 (by decide +kernel) (by decide +kernel), gx 127 (by decide +kernel) (by decide +kernel), gx 587 (by decide +kernel) (by decide +kernel), by decide +kernel, by decide +kernel, by decide +kernel⟩
theorem cw_L_230 : cwp RL 230 m_X11_fondest 0 := cwp_of wm_X11_fondest (gx 584 (by decide +kernel) (by decide +kernel))
theorem wm_X12_fondest : wmp m_X12_fondest 0 := ⟨gx 1999 (by decide +kernel) (by decide +kernel), gx 2000 (by decide +kernel) (by decide +kernel), gx 138 (by decide +kernel) (by decide +kernel), gx 2001 (by decide +kernel) (by decide +kernel), by decide +kernel, by decide +kernel, by decide +kernel⟩
theorem cw_L_233 : cwp RL 233 m_X12_fondest 0 := cwp_of wm_X12_fondest (gx 1998 (by decide +kernel) (by decide +kernel))
def step_25 (n : Nat) (x1 x2 x3 x4 x5 : Int32) (σ : MS) : Option MS := ((f_X11_fondest n  σ).bind (fun q1639 => ((f_X12_fondest n  σ).bind (fun q1643 => (if q1639 = q1643.1 then some q1643.2 else none)))))
set_option maxRecDepth 20000 in
set_option maxHeartbeats 2000000 in
theorem v_case_25 (w : TG) (g : VG) (kc ks : Nat) (Q : State → Prop) (n b0 L : Nat) (xs : Nat → Int32) (i x1 x2 x3 x4 x5 : Int32) (hkc : kc + 40 ≤ 601024) (hks : ks + 240 ≤ 7293034) (hX : va_X b0 L xs (gS g) (gS g).heap) (hb0 : b0 < (gS g).heap.size) (hbA : ¬ wA w b0) (hi1 : inb (i + (1 : Int32)) L = true) (hx1 : xs (ix (i + (1 : Int32))) = x1) (hi2 : inb (i + (2 : Int32)) L = true) (hx2 : xs (ix (i + (2 : Int32))) = x2) (hi3 : inb (i + (3 : Int32)) L = true) (hx3 : xs (ix (i + (3 : Int32))) = x3) (hi4 : inb (i + (4 : Int32)) L = true) (hx4 : xs (ix (i + (4 : Int32))) = x4) (hi5 : inb (i + (5 : Int32)) L = true) (hx5 : xs (ix (i + (5 : Int32))) = x5) (σ : MS) : VV m_L_law_ w g kc ks Q (fun s => VH m_L_law_ w g (kc + 20) (ks + 120) Q 2895 [some (.ref b0), some (.ref (wB w + 0)), some (.ref (wB w + 171)), some (.ref (wB w + 183)), some (.int i), none, none] [] s) 1638 [some (.ref b0), some (.ref (wB w + 0)), some (.ref (wB w + 171)), some (.ref (wB w + 183)), some (.int i), none, none] [] σ (step_25 n x1 x2 x3 x4 x5 σ) := by
  unfold step_25
  refine V_aload_n (pc := 1638) dL_law__1638 rfl rfl ?_
  refine V_callVpi (pc := 1639) (As := []) (rest := []) (c_X11_fondest w n  σ) cw_L_230 rfl rfl dL_law__1639 kc_0 ci_11 ⟨by simp only [m_L_law_, m_X11_fondest]; omega, by simp only [m_L_law_, m_X11_fondest]; omega⟩ rfl rfl (Nat.le_of_ble_eq_true rfl) (by simp only [m_L_law_]; omega) (by simp only [m_L_law_]; omega) rfl (fun q1639 => ?_)
  refine V_aload_n (pc := 1642) dL_law__1642 rfl rfl ?_
  refine V_callVi (pc := 1643) (As := []) (rest := [.int q1639]) (c_X12_fondest w n  σ) cw_L_233 rfl rfl dL_law__1643 kc_171 ci_12 ⟨by simp only [m_L_law_, m_X12_fondest]; omega, by simp only [m_L_law_, m_X12_fondest]; omega⟩ rfl rfl (Nat.le_of_ble_eq_true rfl) (by simp only [m_L_law_]; omega) (by simp only [m_L_law_]; omega) rfl (fun q1643 => ?_)
  refine V_icmp_eq (pc := 1646) (tgt := 2895) dL_law__1646 (by decide +kernel) ?_ ?_
  · refine V_widen (kc' := kc + 20) (ks' := ks + 120) (by omega) (by omega) ?_
    exact V_back (fun h => h)
  · refine V_iconst (pc := 1649) dL_law__1649 ic_0 ?_
    exact V_none
theorem wm_X11_tell : wmp m_X11_tell 0 := ⟨gx 602 (by decide +kernel) (by decide +kernel), gx 603 (by decide +kernel) (by decide +kernel), gx 127 (by decide +kernel) (by decide +kernel), gx 604 (by decide +kernel) (by decide +kernel), by decide +kernel, by decide +kernel, by decide +kernel⟩
theorem cw_L_234 : cwp RL 234 m_X11_tell 0 := cwp_of wm_X11_tell (gx 601 (by decide +kernel) (by decide +kernel))
theorem wm_X12_tell : wmp m_X12_tell 0 := ⟨gx 1964 (by decide +kernel) (by decide +kernel), gx 1965 (by decide +kernel) (by decide +kernel), gx 138 (by decide +kernel) (by decide +kernel), gx 1966 (by decide +kernel) (by decide +kernel), by decide +kernel, by decide +kernel, by decide +kernel⟩
theorem cw_L_237 : cwp RL 237 m_X12_tell 0 := cwp_of wm_X12_tell (gx 1963 (by decide +kernel) (by decide +kernel))
def step_26 (n : Nat) (x1 x2 x3 x4 x5 : Int32) (σ : MS) : Option MS := ((f_X11_tell n  σ).bind (fun q1652 => ((f_X12_tell n  σ).bind (fun q1656 => (if q1652 = q1656.1 then some q1656.2 else none)))))
set_option maxRecDepth 20000 in
set_option maxHeartbeats 2000000 in
theorem v_case_26 (w : TG) (g : VG) (kc ks : Nat) (Q : State → Prop) (n b0 L : Nat) (xs : Nat → Int32) (i x1 x2 x3 x4 x5 : Int32) (hkc : kc + 40 ≤ 601024) (hks : ks + 240 ≤ 7293034) (hX : va_X b0 L xs (gS g) (gS g).heap) (hb0 : b0 < (gS g).heap.size) (hbA : ¬ wA w b0) (hi1 : inb (i + (1 : Int32)) L = true) (hx1 : xs (ix (i + (1 : Int32))) = x1) (hi2 : inb (i + (2 : Int32)) L = true) (hx2 : xs (ix (i + (2 : Int32))) = x2) (hi3 : inb (i + (3 : Int32)) L = true) (hx3 : xs (ix (i + (3 : Int32))) = x3) (hi4 : inb (i + (4 : Int32)) L = true) (hx4 : xs (ix (i + (4 : Int32))) = x4) (hi5 : inb (i + (5 : Int32)) L = true) (hx5 : xs (ix (i + (5 : Int32))) = x5) (σ : MS) : VV m_L_law_ w g kc ks Q (fun s => VH m_L_law_ w g (kc + 20) (ks + 120) Q 2895 [some (.ref b0), some (.ref (wB w + 0)), some (.ref (wB w + 171)), some (.ref (wB w + 183)), some (.int i), none, none] [] s) 1651 [some (.ref b0), some (.ref (wB w + 0)), some (.ref (wB w + 171)), some (.ref (wB w + 183)), some (.int i), none, none] [] σ (step_26 n x1 x2 x3 x4 x5 σ) := by
  unfold step_26
  refine V_aload_n (pc := 1651) dL_law__1651 rfl rfl ?_
  refine V_callVpi (pc := 1652) (As := []) (rest := []) (c_X11_tell w n  σ) cw_L_234 rfl rfl dL_law__1652 kc_0 ci_11 ⟨by simp only [m_L_law_, m_X11_tell]; omega, by simp only [m_L_law_, m_X11_tell]; omega⟩ rfl rfl (Nat.le_of_ble_eq_true rfl) (by simp only [m_L_law_]; omega) (by simp only [m_L_law_]; omega) rfl (fun q1652 => ?_)
  refine V_aload_n (pc := 1655) dL_law__1655 rfl rfl ?_
  refine V_callVi (pc := 1656) (As := []) (rest := [.int q1652]) (c_X12_tell w n  σ) cw_L_237 rfl rfl dL_law__1656 kc_171 ci_12 ⟨by simp only [m_L_law_, m_X12_tell]; omega, by simp only [m_L_law_, m_X12_tell]; omega⟩ rfl rfl (Nat.le_of_ble_eq_true rfl) (by simp only [m_L_law_]; omega) (by simp only [m_L_law_]; omega) rfl (fun q1656 => ?_)
  refine V_icmp_eq (pc := 1659) (tgt := 2895) dL_law__1659 (by decide +kernel) ?_ ?_
  · refine V_widen (kc' := kc + 20) (ks' := ks + 120) (by omega) (by omega) ?_
    exact V_back (fun h => h)
  · refine V_iconst (pc := 1662) dL_law__1662 ic_0 ?_
    exact V_none
theorem cl_238 : csw RL 238 m_L_between [(0, 10, 13, 24)] 4 := ⟨goodIn_of _ (by decide +kernel), by decide +kernel, by decide +kernel, by decide +kernel⟩
theorem wm_X12_between : wmp m_X12_between 2 := ⟨gx 1956 (by decide +kernel) (by decide +kernel), gx 1957 (by decide +kernel) (by decide +kernel), gx 138 (by decide +kernel) (by decide +kernel), gx 1958 (by decide +kernel) (by decide +kernel), by decide +kernel, by decide +kernel, by decide +kernel⟩
theorem cw_L_240 : cwp RL 240 m_X12_between 2 := cwp_of wm_X12_between (gx 1955 (by decide +kernel) (by decide +kernel))
def J_L_law__1729 (n : Nat) (x1 x2 x3 x4 x5 : Int32) (σ : MS) : Option (MS) := some σ
def step_27 (n : Nat) (x1 x2 x3 x4 x5 : Int32) (σ : MS) : Option MS := ((f_L_between n x1 x2 σ).bind (fun q1678 => ((f_X12_between n x1 x2 q1678.2).bind (fun q1696 => ((f_X12_thrown  q1696.2).bind (fun q1702 => (if q1702 = q1678.1 then (if q1678.1 = 0 then (if (q1696.2 183 0) = q1696.1 then J_L_law__1729 n x1 x2 x3 x4 x5 q1696.2 else none) else J_L_law__1729 n x1 x2 x3 x4 x5 q1696.2) else none)))))))
set_option maxRecDepth 20000 in
set_option maxHeartbeats 2000000 in
theorem v_case_27 (w : TG) (g : VG) (kc ks : Nat) (Q : State → Prop) (n b0 L : Nat) (xs : Nat → Int32) (i x1 x2 x3 x4 x5 : Int32) (hkc : kc + 40 ≤ 601024) (hks : ks + 240 ≤ 7293034) (hX : va_X b0 L xs (gS g) (gS g).heap) (hb0 : b0 < (gS g).heap.size) (hbA : ¬ wA w b0) (hi1 : inb (i + (1 : Int32)) L = true) (hx1 : xs (ix (i + (1 : Int32))) = x1) (hi2 : inb (i + (2 : Int32)) L = true) (hx2 : xs (ix (i + (2 : Int32))) = x2) (hi3 : inb (i + (3 : Int32)) L = true) (hx3 : xs (ix (i + (3 : Int32))) = x3) (hi4 : inb (i + (4 : Int32)) L = true) (hx4 : xs (ix (i + (4 : Int32))) = x4) (hi5 : inb (i + (5 : Int32)) L = true) (hx5 : xs (ix (i + (5 : Int32))) = x5) (σ : MS) : VV m_L_law_ w g kc ks Q (fun s => VH m_L_law_ w g (kc + 20) (ks + 120) Q 2895 [some (.ref b0), some (.ref (wB w + 0)), some (.ref (wB w + 171)), some (.ref (wB w + 183)), some (.int i), none, none] [] s) 1664 [some (.ref b0), some (.ref (wB w + 0)), some (.ref (wB w + 171)), some (.ref (wB w + 183)), some (.int i), none, none] [] σ (step_27 n x1 x2 x3 x4 x5 σ) := by
  unfold step_27
  have hJ1729 : ∀ (σ : MS), VV m_L_law_ w g (kc + 2) (ks + 12) Q (fun s => VH m_L_law_ w g (kc + 20) (ks + 120) Q 2895 [some (.ref b0), some (.ref (wB w + 0)), some (.ref (wB w + 171)), some (.ref (wB w + 183)), some (.int i), none, none] [] s) 1729 [some (.ref b0), some (.ref (wB w + 0)), some (.ref (wB w + 171)), some (.ref (wB w + 183)), some (.int i), none, none] [] σ (J_L_law__1729 n x1 x2 x3 x4 x5 σ) := by
    intro σ
    refine V_goto (pc := 1729) (tgt := 2895) dL_law__1729 (by decide +kernel) ?_
    refine V_widen (kc' := kc + 20) (ks' := ks + 120) (by omega) (by omega) ?_
    exact V_back (fun h => h)
  refine V_aload_n (pc := 1664) dL_law__1664 rfl rfl ?_
  refine V_aload_n (pc := 1665) dL_law__1665 rfl rfl ?_
  refine V_iload (pc := 1666) dL_law__1666 rfl ?_
  refine V_iconst (pc := 1668) dL_law__1668 ic_1 ?_
  refine V_iadd (pc := 1669) dL_law__1669 ?_
  refine V_sld (pc := 1670) hX hb0 hbA hi1 hx1 dL_law__1670 ?_
  refine V_aload_n (pc := 1671) dL_law__1671 rfl rfl ?_
  refine V_iload (pc := 1672) dL_law__1672 rfl ?_
  refine V_iconst (pc := 1674) dL_law__1674 ic_2 ?_
  refine V_iadd (pc := 1675) dL_law__1675 ?_
  refine V_sld (pc := 1676) hX hb0 hbA hi2 hx2 dL_law__1676 ?_
  refine V_aload_n (pc := 1677) dL_law__1677 rfl rfl ?_
  refine V_callW (pc := 1678) (As := [.ref (wB w + 0), .int x1, .int x2, .ref (wB w + 183)]) (rest := []) (c_L_between w n x1 x2 σ) cl_238 rfl rfl dL_law__1678 ⟨by simp only [m_L_law_, m_L_between]; omega, by simp only [m_L_law_, m_L_between]; omega⟩ rfl rfl (Nat.le_of_ble_eq_true rfl) (by simp only [m_L_law_, m_L_between]; omega) (by simp only [m_L_law_, m_L_between]; omega) (fun q1678 => ?_)
  show VV m_L_law_ w g (kc + 2) (ks + 12) Q (fun s => VH m_L_law_ w g (kc + 20) (ks + 120) Q 2895 [some (.ref b0), some (.ref (wB w + 0)), some (.ref (wB w + 171)), some (.ref (wB w + 183)), some (.int i), none, none] [] s) 1681 [some (.ref b0), some (.ref (wB w + 0)), some (.ref (wB w + 171)), some (.ref (wB w + 183)), some (.int i), none, none] [.int q1678.1] q1678.2 _
  refine V_istore (pc := 1681) (vs' := [some (.ref b0), some (.ref (wB w + 0)), some (.ref (wB w + 171)), some (.ref (wB w + 183)), some (.int i), some (.int q1678.1), none]) dL_law__1681 (Nat.le_of_ble_eq_true rfl) (Nat.le_of_ble_eq_true rfl) rfl ?_
  refine V_aload_n (pc := 1683) dL_law__1683 rfl rfl ?_
  refine V_aload_n (pc := 1684) dL_law__1684 rfl rfl ?_
  refine V_iload (pc := 1685) dL_law__1685 rfl ?_
  refine V_iconst (pc := 1687) dL_law__1687 ic_1 ?_
  refine V_iadd (pc := 1688) dL_law__1688 ?_
  refine V_sld (pc := 1689) hX hb0 hbA hi1 hx1 dL_law__1689 ?_
  refine V_aload_n (pc := 1690) dL_law__1690 rfl rfl ?_
  refine V_iload (pc := 1691) dL_law__1691 rfl ?_
  refine V_iconst (pc := 1693) dL_law__1693 ic_2 ?_
  refine V_iadd (pc := 1694) dL_law__1694 ?_
  refine V_sld (pc := 1695) hX hb0 hbA hi2 hx2 dL_law__1695 ?_
  refine V_callVi (pc := 1696) (As := [.int x1, .int x2]) (rest := []) (c_X12_between w n x1 x2 q1678.2) cw_L_240 rfl rfl dL_law__1696 kc_171 ci_12 ⟨by simp only [m_L_law_, m_X12_between]; omega, by simp only [m_L_law_, m_X12_between]; omega⟩ rfl rfl (Nat.le_of_ble_eq_true rfl) (by simp only [m_L_law_]; omega) (by simp only [m_L_law_]; omega) rfl (fun q1696 => ?_)
  refine V_istore (pc := 1699) (vs' := [some (.ref b0), some (.ref (wB w + 0)), some (.ref (wB w + 171)), some (.ref (wB w + 183)), some (.int i), some (.int q1678.1), some (.int q1696.1)]) dL_law__1699 (Nat.le_of_ble_eq_true rfl) (Nat.le_of_ble_eq_true rfl) rfl ?_
  refine V_aload_n (pc := 1701) dL_law__1701 rfl rfl ?_
  refine V_callVpi (pc := 1702) (As := []) (rest := []) (c_X12_thrown w  q1696.2) cw_L_150 rfl rfl dL_law__1702 kc_171 ci_12 ⟨by simp only [m_L_law_, m_X12_thrown]; omega, by simp only [m_L_law_, m_X12_thrown]; omega⟩ rfl rfl (Nat.le_of_ble_eq_true rfl) (by simp only [m_L_law_]; omega) (by simp only [m_L_law_]; omega) rfl (fun q1702 => ?_)
  refine V_iload (pc := 1705) dL_law__1705 rfl ?_
  refine V_icmp_eq (pc := 1707) (tgt := 1712) dL_law__1707 (by decide +kernel) ?_ ?_
  · refine V_iload (pc := 1712) dL_law__1712 rfl ?_
    refine V_if_ne (pc := 1714) (tgt := 1729) dL_law__1714 (by decide +kernel) ?_ ?_
    · refine V_sub (vs' := [some (.ref b0), some (.ref (wB w + 0)), some (.ref (wB w + 171)), some (.ref (wB w + 183)), some (.int i), none, none]) (show vless _ _ from ⟨rfl, ⟨rfl, ⟨rfl, ⟨rfl, ⟨rfl, trivial⟩⟩⟩⟩⟩) rfl ?_
      exact hJ1729 q1696.2
    · refine V_aload_n (pc := 1717) dL_law__1717 rfl rfl ?_
      refine V_iconst (pc := 1718) dL_law__1718 ic_0 ?_
      refine V_lald (pc := 1719) dL_law__1719 ?_
      refine V_iload (pc := 1720) dL_law__1720 rfl ?_
      refine V_i2l (pc := 1722) dL_law__1722 ?_
      refine V_lcmpeq (pc := 1723) (tgt := 1729) dL_law__1723 dL_law__1724 (by decide) ?_ ?_
      · refine V_sub (vs' := [some (.ref b0), some (.ref (wB w + 0)), some (.ref (wB w + 171)), some (.ref (wB w + 183)), some (.int i), none, none]) (show vless _ _ from ⟨rfl, ⟨rfl, ⟨rfl, ⟨rfl, ⟨rfl, trivial⟩⟩⟩⟩⟩) rfl ?_
        exact hJ1729 q1696.2
      · refine V_iconst (pc := 1727) dL_law__1727 ic_0 ?_
        exact V_none
  · refine V_iconst (pc := 1710) dL_law__1710 ic_0 ?_
    exact V_none
theorem wm_X11_hub : wmp m_X11_hub 0 := ⟨gx 621 (by decide +kernel) (by decide +kernel), gx 622 (by decide +kernel) (by decide +kernel), gx 127 (by decide +kernel) (by decide +kernel), gx 623 (by decide +kernel) (by decide +kernel), by decide +kernel, by decide +kernel, by decide +kernel⟩
theorem cw_L_241 : cwp RL 241 m_X11_hub 0 := cwp_of wm_X11_hub (gx 620 (by decide +kernel) (by decide +kernel))
theorem wm_X12_hub : wmp m_X12_hub 0 := ⟨gx 1960 (by decide +kernel) (by decide +kernel), gx 1961 (by decide +kernel) (by decide +kernel), gx 138 (by decide +kernel) (by decide +kernel), gx 1962 (by decide +kernel) (by decide +kernel), by decide +kernel, by decide +kernel, by decide +kernel⟩
theorem cw_L_244 : cwp RL 244 m_X12_hub 0 := cwp_of wm_X12_hub (gx 1959 (by decide +kernel) (by decide +kernel))
def step_28 (n : Nat) (x1 x2 x3 x4 x5 : Int32) (σ : MS) : Option MS := ((f_X11_hub n  σ).bind (fun q1733 => ((f_X12_hub n  σ).bind (fun q1737 => (if q1733 = q1737.1 then some q1737.2 else none)))))
set_option maxRecDepth 20000 in
set_option maxHeartbeats 2000000 in
theorem v_case_28 (w : TG) (g : VG) (kc ks : Nat) (Q : State → Prop) (n b0 L : Nat) (xs : Nat → Int32) (i x1 x2 x3 x4 x5 : Int32) (hkc : kc + 40 ≤ 601024) (hks : ks + 240 ≤ 7293034) (hX : va_X b0 L xs (gS g) (gS g).heap) (hb0 : b0 < (gS g).heap.size) (hbA : ¬ wA w b0) (hi1 : inb (i + (1 : Int32)) L = true) (hx1 : xs (ix (i + (1 : Int32))) = x1) (hi2 : inb (i + (2 : Int32)) L = true) (hx2 : xs (ix (i + (2 : Int32))) = x2) (hi3 : inb (i + (3 : Int32)) L = true) (hx3 : xs (ix (i + (3 : Int32))) = x3) (hi4 : inb (i + (4 : Int32)) L = true) (hx4 : xs (ix (i + (4 : Int32))) = x4) (hi5 : inb (i + (5 : Int32)) L = true) (hx5 : xs (ix (i + (5 : Int32))) = x5) (σ : MS) : VV m_L_law_ w g kc ks Q (fun s => VH m_L_law_ w g (kc + 20) (ks + 120) Q 2895 [some (.ref b0), some (.ref (wB w + 0)), some (.ref (wB w + 171)), some (.ref (wB w + 183)), some (.int i), none, none] [] s) 1732 [some (.ref b0), some (.ref (wB w + 0)), some (.ref (wB w + 171)), some (.ref (wB w + 183)), some (.int i), none, none] [] σ (step_28 n x1 x2 x3 x4 x5 σ) := by
  unfold step_28
  refine V_aload_n (pc := 1732) dL_law__1732 rfl rfl ?_
  refine V_callVpi (pc := 1733) (As := []) (rest := []) (c_X11_hub w n  σ) cw_L_241 rfl rfl dL_law__1733 kc_0 ci_11 ⟨by simp only [m_L_law_, m_X11_hub]; omega, by simp only [m_L_law_, m_X11_hub]; omega⟩ rfl rfl (Nat.le_of_ble_eq_true rfl) (by simp only [m_L_law_]; omega) (by simp only [m_L_law_]; omega) rfl (fun q1733 => ?_)
  refine V_aload_n (pc := 1736) dL_law__1736 rfl rfl ?_
  refine V_callVi (pc := 1737) (As := []) (rest := [.int q1733]) (c_X12_hub w n  σ) cw_L_244 rfl rfl dL_law__1737 kc_171 ci_12 ⟨by simp only [m_L_law_, m_X12_hub]; omega, by simp only [m_L_law_, m_X12_hub]; omega⟩ rfl rfl (Nat.le_of_ble_eq_true rfl) (by simp only [m_L_law_]; omega) (by simp only [m_L_law_]; omega) rfl (fun q1737 => ?_)
  refine V_icmp_eq (pc := 1740) (tgt := 2895) dL_law__1740 (by decide +kernel) ?_ ?_
  · refine V_widen (kc' := kc + 20) (ks' := ks + 120) (by omega) (by omega) ?_
    exact V_back (fun h => h)
  · refine V_iconst (pc := 1743) dL_law__1743 ic_0 ?_
    exact V_none
theorem wm_X12_drank : wmp m_X12_drank 1 := ⟨gx 2056 (by decide +kernel) (by decide +kernel), gx 2057 (by decide +kernel) (by decide +kernel), gx 138 (by decide +kernel) (by decide +kernel), gx 2058 (by decide +kernel) (by decide +kernel), by decide +kernel, by decide +kernel, by decide +kernel⟩
theorem cw_L_248 : cwp RL 248 m_X12_drank 1 := cwp_of wm_X12_drank (gx 2055 (by decide +kernel) (by decide +kernel))
theorem cl_245 : csw RL 245 m_L_drank [(0, 9, 12, 13)] 3 := ⟨goodIn_of _ (by decide +kernel), by decide +kernel, by decide +kernel, by decide +kernel⟩
def J_L_law__1814 (n : Nat) (x1 x2 x3 x4 x5 : Int32) (σ : MS) : Option (MS) := some σ
def J_L_law__1781 (n : Nat) (v5 : Int32) (x1 x2 x3 x4 x5 : Int32) (t0 : Int32) (σ : MS) : Option (MS) := ((f_X12_drank n t0 σ).bind (fun q1781 => ((f_X12_thrown  q1781.2).bind (fun q1787 => (if q1787 = v5 then (if v5 = 0 then (if (q1781.2 183 0) = q1781.1 then J_L_law__1814 n x1 x2 x3 x4 x5 q1781.2 else none) else J_L_law__1814 n x1 x2 x3 x4 x5 q1781.2) else none)))))
def J_L_law__1760 (n : Nat) (x1 x2 x3 x4 x5 : Int32) (t0 : Int32) (σ : MS) : Option (MS) := ((f_L_drank n t0 σ).bind (fun q1761 => (if x1 = 0 then J_L_law__1781 n q1761.1 x1 x2 x3 x4 x5 (0 : Int32) q1761.2 else J_L_law__1781 n q1761.1 x1 x2 x3 x4 x5 (1 : Int32) q1761.2)))
def step_29 (n : Nat) (x1 x2 x3 x4 x5 : Int32) (σ : MS) : Option MS := (if x1 = 0 then J_L_law__1760 n x1 x2 x3 x4 x5 (0 : Int32) σ else J_L_law__1760 n x1 x2 x3 x4 x5 (1 : Int32) σ)
set_option maxRecDepth 20000 in
set_option maxHeartbeats 2000000 in
theorem v_case_29 (w : TG) (g : VG) (kc ks : Nat) (Q : State → Prop) (n b0 L : Nat) (xs : Nat → Int32) (i x1 x2 x3 x4 x5 : Int32) (hkc : kc + 40 ≤ 601024) (hks : ks + 240 ≤ 7293034) (hX : va_X b0 L xs (gS g) (gS g).heap) (hb0 : b0 < (gS g).heap.size) (hbA : ¬ wA w b0) (hi1 : inb (i + (1 : Int32)) L = true) (hx1 : xs (ix (i + (1 : Int32))) = x1) (hi2 : inb (i + (2 : Int32)) L = true) (hx2 : xs (ix (i + (2 : Int32))) = x2) (hi3 : inb (i + (3 : Int32)) L = true) (hx3 : xs (ix (i + (3 : Int32))) = x3) (hi4 : inb (i + (4 : Int32)) L = true) (hx4 : xs (ix (i + (4 : Int32))) = x4) (hi5 : inb (i + (5 : Int32)) L = true) (hx5 : xs (ix (i + (5 : Int32))) = x5) (σ : MS) : VV m_L_law_ w g kc ks Q (fun s => VH m_L_law_ w g (kc + 20) (ks + 120) Q 2895 [some (.ref b0), some (.ref (wB w + 0)), some (.ref (wB w + 171)), some (.ref (wB w + 183)), some (.int i), none, none] [] s) 1745 [some (.ref b0), some (.ref (wB w + 0)), some (.ref (wB w + 171)), some (.ref (wB w + 183)), some (.int i), none, none] [] σ (step_29 n x1 x2 x3 x4 x5 σ) := by
  unfold step_29
  have hJ1814 : ∀ (σ : MS), VV m_L_law_ w g (kc + 1) (ks + 6) Q (fun s => VH m_L_law_ w g (kc + 20) (ks + 120) Q 2895 [some (.ref b0), some (.ref (wB w + 0)), some (.ref (wB w + 171)), some (.ref (wB w + 183)), some (.int i), none, none] [] s) 1814 [some (.ref b0), some (.ref (wB w + 0)), some (.ref (wB w + 171)), some (.ref (wB w + 183)), some (.int i), none, none] [] σ (J_L_law__1814 n x1 x2 x3 x4 x5 σ) := by
    intro σ
    refine V_goto (pc := 1814) (tgt := 2895) dL_law__1814 (by decide +kernel) ?_
    refine V_widen (kc' := kc + 20) (ks' := ks + 120) (by omega) (by omega) ?_
    exact V_back (fun h => h)
  have hJ1781 : ∀ (v5 : Int32) (t0 : Int32) (σ : MS), VV m_L_law_ w g (kc + 1) (ks + 6) Q (fun s => VH m_L_law_ w g (kc + 20) (ks + 120) Q 2895 [some (.ref b0), some (.ref (wB w + 0)), some (.ref (wB w + 171)), some (.ref (wB w + 183)), some (.int i), none, none] [] s) 1781 [some (.ref b0), some (.ref (wB w + 0)), some (.ref (wB w + 171)), some (.ref (wB w + 183)), some (.int i), some (.int v5), none] [.int t0, .ref (wB w + 171)] σ (J_L_law__1781 n v5 x1 x2 x3 x4 x5 t0 σ) := by
    intro v5 t0 σ
    refine V_callVi (pc := 1781) (As := [.int t0]) (rest := []) (c_X12_drank w n t0 σ) cw_L_248 rfl rfl dL_law__1781 kc_171 ci_12 ⟨by simp only [m_L_law_, m_X12_drank]; omega, by simp only [m_L_law_, m_X12_drank]; omega⟩ rfl rfl (Nat.le_of_ble_eq_true rfl) (by simp only [m_L_law_]; omega) (by simp only [m_L_law_]; omega) rfl (fun q1781 => ?_)
    refine V_istore (pc := 1784) (vs' := [some (.ref b0), some (.ref (wB w + 0)), some (.ref (wB w + 171)), some (.ref (wB w + 183)), some (.int i), some (.int v5), some (.int q1781.1)]) dL_law__1784 (Nat.le_of_ble_eq_true rfl) (Nat.le_of_ble_eq_true rfl) rfl ?_
    refine V_aload_n (pc := 1786) dL_law__1786 rfl rfl ?_
    refine V_callVpi (pc := 1787) (As := []) (rest := []) (c_X12_thrown w  q1781.2) cw_L_150 rfl rfl dL_law__1787 kc_171 ci_12 ⟨by simp only [m_L_law_, m_X12_thrown]; omega, by simp only [m_L_law_, m_X12_thrown]; omega⟩ rfl rfl (Nat.le_of_ble_eq_true rfl) (by simp only [m_L_law_]; omega) (by simp only [m_L_law_]; omega) rfl (fun q1787 => ?_)
    refine V_iload (pc := 1790) dL_law__1790 rfl ?_
    refine V_icmp_eq (pc := 1792) (tgt := 1797) dL_law__1792 (by decide +kernel) ?_ ?_
    · refine V_iload (pc := 1797) dL_law__1797 rfl ?_
      refine V_if_ne (pc := 1799) (tgt := 1814) dL_law__1799 (by decide +kernel) ?_ ?_
      · refine V_sub (vs' := [some (.ref b0), some (.ref (wB w + 0)), some (.ref (wB w + 171)), some (.ref (wB w + 183)), some (.int i), none, none]) (show vless _ _ from ⟨rfl, ⟨rfl, ⟨rfl, ⟨rfl, ⟨rfl, trivial⟩⟩⟩⟩⟩) rfl ?_
        exact hJ1814 q1781.2
      · refine V_aload_n (pc := 1802) dL_law__1802 rfl rfl ?_
        refine V_iconst (pc := 1803) dL_law__1803 ic_0 ?_
        refine V_lald (pc := 1804) dL_law__1804 ?_
        refine V_iload (pc := 1805) dL_law__1805 rfl ?_
        refine V_i2l (pc := 1807) dL_law__1807 ?_
        refine V_lcmpeq (pc := 1808) (tgt := 1814) dL_law__1808 dL_law__1809 (by decide) ?_ ?_
        · refine V_sub (vs' := [some (.ref b0), some (.ref (wB w + 0)), some (.ref (wB w + 171)), some (.ref (wB w + 183)), some (.int i), none, none]) (show vless _ _ from ⟨rfl, ⟨rfl, ⟨rfl, ⟨rfl, ⟨rfl, trivial⟩⟩⟩⟩⟩) rfl ?_
          exact hJ1814 q1781.2
        · refine V_iconst (pc := 1812) dL_law__1812 ic_0 ?_
          exact V_none
    · refine V_iconst (pc := 1795) dL_law__1795 ic_0 ?_
      exact V_none
  have hJ1760 : ∀ (t0 : Int32) (σ : MS), VV m_L_law_ w g kc ks Q (fun s => VH m_L_law_ w g (kc + 20) (ks + 120) Q 2895 [some (.ref b0), some (.ref (wB w + 0)), some (.ref (wB w + 171)), some (.ref (wB w + 183)), some (.int i), none, none] [] s) 1760 [some (.ref b0), some (.ref (wB w + 0)), some (.ref (wB w + 171)), some (.ref (wB w + 183)), some (.int i), none, none] [.int t0, .ref (wB w + 0)] σ (J_L_law__1760 n x1 x2 x3 x4 x5 t0 σ) := by
    intro t0 σ
    refine V_aload_n (pc := 1760) dL_law__1760 rfl rfl ?_
    refine V_callW (pc := 1761) (As := [.ref (wB w + 0), .int t0, .ref (wB w + 183)]) (rest := []) (c_L_drank w n t0 σ) cl_245 rfl rfl dL_law__1761 ⟨by simp only [m_L_law_, m_L_drank]; omega, by simp only [m_L_law_, m_L_drank]; omega⟩ rfl rfl (Nat.le_of_ble_eq_true rfl) (by simp only [m_L_law_, m_L_drank]; omega) (by simp only [m_L_law_, m_L_drank]; omega) (fun q1761 => ?_)
    show VV m_L_law_ w g (kc + 1) (ks + 6) Q (fun s => VH m_L_law_ w g (kc + 20) (ks + 120) Q 2895 [some (.ref b0), some (.ref (wB w + 0)), some (.ref (wB w + 171)), some (.ref (wB w + 183)), some (.int i), none, none] [] s) 1764 [some (.ref b0), some (.ref (wB w + 0)), some (.ref (wB w + 171)), some (.ref (wB w + 183)), some (.int i), none, none] [.int q1761.1] q1761.2 _
    refine V_istore (pc := 1764) (vs' := [some (.ref b0), some (.ref (wB w + 0)), some (.ref (wB w + 171)), some (.ref (wB w + 183)), some (.int i), some (.int q1761.1), none]) dL_law__1764 (Nat.le_of_ble_eq_true rfl) (Nat.le_of_ble_eq_true rfl) rfl ?_
    refine V_aload_n (pc := 1766) dL_law__1766 rfl rfl ?_
    refine V_aload_n (pc := 1767) dL_law__1767 rfl rfl ?_
    refine V_iload (pc := 1768) dL_law__1768 rfl ?_
    refine V_iconst (pc := 1770) dL_law__1770 ic_1 ?_
    refine V_iadd (pc := 1771) dL_law__1771 ?_
    refine V_sld (pc := 1772) hX hb0 hbA hi1 hx1 dL_law__1772 ?_
    refine V_if_eq (pc := 1773) (tgt := 1780) dL_law__1773 (by decide +kernel) ?_ ?_
    · refine V_iconst (pc := 1780) dL_law__1780 ic_0 ?_
      exact hJ1781 q1761.1 (0 : Int32) q1761.2
    · refine V_iconst (pc := 1776) dL_law__1776 ic_1 ?_
      refine V_goto (pc := 1777) (tgt := 1781) dL_law__1777 (by decide +kernel) ?_
      exact hJ1781 q1761.1 (1 : Int32) q1761.2
  refine V_aload_n (pc := 1745) dL_law__1745 rfl rfl ?_
  refine V_aload_n (pc := 1746) dL_law__1746 rfl rfl ?_
  refine V_iload (pc := 1747) dL_law__1747 rfl ?_
  refine V_iconst (pc := 1749) dL_law__1749 ic_1 ?_
  refine V_iadd (pc := 1750) dL_law__1750 ?_
  refine V_sld (pc := 1751) hX hb0 hbA hi1 hx1 dL_law__1751 ?_
  refine V_if_eq (pc := 1752) (tgt := 1759) dL_law__1752 (by decide +kernel) ?_ ?_
  · refine V_iconst (pc := 1759) dL_law__1759 ic_0 ?_
    exact hJ1760 (0 : Int32) σ
  · refine V_iconst (pc := 1755) dL_law__1755 ic_1 ?_
    refine V_goto (pc := 1756) (tgt := 1760) dL_law__1756 (by decide +kernel) ?_
    exact hJ1760 (1 : Int32) σ
theorem cl_249 : csw RL 249 m_L_look [(0, 8, 11, 13)] 2 := ⟨goodIn_of _ (by decide +kernel), by decide +kernel, by decide +kernel, by decide +kernel⟩
theorem wm_X12_look : wmp m_X12_look 0 := ⟨gx 2068 (by decide +kernel) (by decide +kernel), gx 2069 (by decide +kernel) (by decide +kernel), gx 138 (by decide +kernel) (by decide +kernel), gx 2070 (by decide +kernel) (by decide +kernel), by decide +kernel, by decide +kernel, by decide +kernel⟩
theorem cw_L_251 : cwp RL 251 m_X12_look 0 := cwp_of wm_X12_look (gx 2067 (by decide +kernel) (by decide +kernel))
def J_L_law__1858 (n : Nat) (x1 x2 x3 x4 x5 : Int32) (σ : MS) : Option (MS) := some σ
def step_30 (n : Nat) (x1 x2 x3 x4 x5 : Int32) (σ : MS) : Option MS := ((f_L_look n  σ).bind (fun q1819 => ((f_X12_look n  q1819.2).bind (fun q1825 => ((f_X12_thrown  q1825.2).bind (fun q1831 => (if q1831 = q1819.1 then (if q1819.1 = 0 then (if (q1825.2 183 0) = q1825.1 then J_L_law__1858 n x1 x2 x3 x4 x5 q1825.2 else none) else J_L_law__1858 n x1 x2 x3 x4 x5 q1825.2) else none)))))))
set_option maxRecDepth 20000 in
set_option maxHeartbeats 2000000 in
theorem v_case_30 (w : TG) (g : VG) (kc ks : Nat) (Q : State → Prop) (n b0 L : Nat) (xs : Nat → Int32) (i x1 x2 x3 x4 x5 : Int32) (hkc : kc + 40 ≤ 601024) (hks : ks + 240 ≤ 7293034) (hX : va_X b0 L xs (gS g) (gS g).heap) (hb0 : b0 < (gS g).heap.size) (hbA : ¬ wA w b0) (hi1 : inb (i + (1 : Int32)) L = true) (hx1 : xs (ix (i + (1 : Int32))) = x1) (hi2 : inb (i + (2 : Int32)) L = true) (hx2 : xs (ix (i + (2 : Int32))) = x2) (hi3 : inb (i + (3 : Int32)) L = true) (hx3 : xs (ix (i + (3 : Int32))) = x3) (hi4 : inb (i + (4 : Int32)) L = true) (hx4 : xs (ix (i + (4 : Int32))) = x4) (hi5 : inb (i + (5 : Int32)) L = true) (hx5 : xs (ix (i + (5 : Int32))) = x5) (σ : MS) : VV m_L_law_ w g kc ks Q (fun s => VH m_L_law_ w g (kc + 20) (ks + 120) Q 2895 [some (.ref b0), some (.ref (wB w + 0)), some (.ref (wB w + 171)), some (.ref (wB w + 183)), some (.int i), none, none] [] s) 1817 [some (.ref b0), some (.ref (wB w + 0)), some (.ref (wB w + 171)), some (.ref (wB w + 183)), some (.int i), none, none] [] σ (step_30 n x1 x2 x3 x4 x5 σ) := by
  unfold step_30
  have hJ1858 : ∀ (σ : MS), VV m_L_law_ w g (kc + 1) (ks + 6) Q (fun s => VH m_L_law_ w g (kc + 20) (ks + 120) Q 2895 [some (.ref b0), some (.ref (wB w + 0)), some (.ref (wB w + 171)), some (.ref (wB w + 183)), some (.int i), none, none] [] s) 1858 [some (.ref b0), some (.ref (wB w + 0)), some (.ref (wB w + 171)), some (.ref (wB w + 183)), some (.int i), none, none] [] σ (J_L_law__1858 n x1 x2 x3 x4 x5 σ) := by
    intro σ
    refine V_goto (pc := 1858) (tgt := 2895) dL_law__1858 (by decide +kernel) ?_
    refine V_widen (kc' := kc + 20) (ks' := ks + 120) (by omega) (by omega) ?_
    exact V_back (fun h => h)
  refine V_aload_n (pc := 1817) dL_law__1817 rfl rfl ?_
  refine V_aload_n (pc := 1818) dL_law__1818 rfl rfl ?_
  refine V_callW (pc := 1819) (As := [.ref (wB w + 0), .ref (wB w + 183)]) (rest := []) (c_L_look w n  σ) cl_249 rfl rfl dL_law__1819 ⟨by simp only [m_L_law_, m_L_look]; omega, by simp only [m_L_law_, m_L_look]; omega⟩ rfl rfl (Nat.le_of_ble_eq_true rfl) (by simp only [m_L_law_, m_L_look]; omega) (by simp only [m_L_law_, m_L_look]; omega) (fun q1819 => ?_)
  show VV m_L_law_ w g (kc + 1) (ks + 6) Q (fun s => VH m_L_law_ w g (kc + 20) (ks + 120) Q 2895 [some (.ref b0), some (.ref (wB w + 0)), some (.ref (wB w + 171)), some (.ref (wB w + 183)), some (.int i), none, none] [] s) 1822 [some (.ref b0), some (.ref (wB w + 0)), some (.ref (wB w + 171)), some (.ref (wB w + 183)), some (.int i), none, none] [.int q1819.1] q1819.2 _
  refine V_istore (pc := 1822) (vs' := [some (.ref b0), some (.ref (wB w + 0)), some (.ref (wB w + 171)), some (.ref (wB w + 183)), some (.int i), some (.int q1819.1), none]) dL_law__1822 (Nat.le_of_ble_eq_true rfl) (Nat.le_of_ble_eq_true rfl) rfl ?_
  refine V_aload_n (pc := 1824) dL_law__1824 rfl rfl ?_
  refine V_callVi (pc := 1825) (As := []) (rest := []) (c_X12_look w n  q1819.2) cw_L_251 rfl rfl dL_law__1825 kc_171 ci_12 ⟨by simp only [m_L_law_, m_X12_look]; omega, by simp only [m_L_law_, m_X12_look]; omega⟩ rfl rfl (Nat.le_of_ble_eq_true rfl) (by simp only [m_L_law_]; omega) (by simp only [m_L_law_]; omega) rfl (fun q1825 => ?_)
  refine V_istore (pc := 1828) (vs' := [some (.ref b0), some (.ref (wB w + 0)), some (.ref (wB w + 171)), some (.ref (wB w + 183)), some (.int i), some (.int q1819.1), some (.int q1825.1)]) dL_law__1828 (Nat.le_of_ble_eq_true rfl) (Nat.le_of_ble_eq_true rfl) rfl ?_
  refine V_aload_n (pc := 1830) dL_law__1830 rfl rfl ?_
  refine V_callVpi (pc := 1831) (As := []) (rest := []) (c_X12_thrown w  q1825.2) cw_L_150 rfl rfl dL_law__1831 kc_171 ci_12 ⟨by simp only [m_L_law_, m_X12_thrown]; omega, by simp only [m_L_law_, m_X12_thrown]; omega⟩ rfl rfl (Nat.le_of_ble_eq_true rfl) (by simp only [m_L_law_]; omega) (by simp only [m_L_law_]; omega) rfl (fun q1831 => ?_)
  refine V_iload (pc := 1834) dL_law__1834 rfl ?_
  refine V_icmp_eq (pc := 1836) (tgt := 1841) dL_law__1836 (by decide +kernel) ?_ ?_
  · refine V_iload (pc := 1841) dL_law__1841 rfl ?_
    refine V_if_ne (pc := 1843) (tgt := 1858) dL_law__1843 (by decide +kernel) ?_ ?_
    · refine V_sub (vs' := [some (.ref b0), some (.ref (wB w + 0)), some (.ref (wB w + 171)), some (.ref (wB w + 183)), some (.int i), none, none]) (show vless _ _ from ⟨rfl, ⟨rfl, ⟨rfl, ⟨rfl, ⟨rfl, trivial⟩⟩⟩⟩⟩) rfl ?_
      exact hJ1858 q1825.2
    · refine V_aload_n (pc := 1846) dL_law__1846 rfl rfl ?_
      refine V_iconst (pc := 1847) dL_law__1847 ic_0 ?_
      refine V_lald (pc := 1848) dL_law__1848 ?_
      refine V_iload (pc := 1849) dL_law__1849 rfl ?_
      refine V_i2l (pc := 1851) dL_law__1851 ?_
      refine V_lcmpeq (pc := 1852) (tgt := 1858) dL_law__1852 dL_law__1853 (by decide) ?_ ?_
      · refine V_sub (vs' := [some (.ref b0), some (.ref (wB w + 0)), some (.ref (wB w + 171)), some (.ref (wB w + 183)), some (.int i), none, none]) (show vless _ _ from ⟨rfl, ⟨rfl, ⟨rfl, ⟨rfl, ⟨rfl, trivial⟩⟩⟩⟩⟩) rfl ?_
        exact hJ1858 q1825.2
      · refine V_iconst (pc := 1856) dL_law__1856 ic_0 ?_
        exact V_none
  · refine V_iconst (pc := 1839) dL_law__1839 ic_0 ?_
    exact V_none
theorem cl_252 : csw RL 252 m_L_way [(0, 10, 13, 24)] 4 := ⟨goodIn_of _ (by decide +kernel), by decide +kernel, by decide +kernel, by decide +kernel⟩
theorem wm_X12_way : wmp m_X12_way 2 := ⟨gx 2072 (by decide +kernel) (by decide +kernel), gx 2073 (by decide +kernel) (by decide +kernel), gx 138 (by decide +kernel) (by decide +kernel), gx 2074 (by decide +kernel) (by decide +kernel), by decide +kernel, by decide +kernel, by decide +kernel⟩
theorem cw_L_254 : cwp RL 254 m_X12_way 2 := cwp_of wm_X12_way (gx 2071 (by decide +kernel) (by decide +kernel))
def J_L_law__1926 (n : Nat) (x1 x2 x3 x4 x5 : Int32) (σ : MS) : Option (MS) := some σ
def step_31 (n : Nat) (x1 x2 x3 x4 x5 : Int32) (σ : MS) : Option MS := ((f_L_way n x1 x2 σ).bind (fun q1875 => ((f_X12_way n x1 x2 q1875.2).bind (fun q1893 => ((f_X12_thrown  q1893.2).bind (fun q1899 => (if q1899 = q1875.1 then (if q1875.1 = 0 then (if (q1893.2 183 0) = q1893.1 then J_L_law__1926 n x1 x2 x3 x4 x5 q1893.2 else none) else J_L_law__1926 n x1 x2 x3 x4 x5 q1893.2) else none)))))))
set_option maxRecDepth 20000 in
set_option maxHeartbeats 2000000 in
theorem v_case_31 (w : TG) (g : VG) (kc ks : Nat) (Q : State → Prop) (n b0 L : Nat) (xs : Nat → Int32) (i x1 x2 x3 x4 x5 : Int32) (hkc : kc + 40 ≤ 601024) (hks : ks + 240 ≤ 7293034) (hX : va_X b0 L xs (gS g) (gS g).heap) (hb0 : b0 < (gS g).heap.size) (hbA : ¬ wA w b0) (hi1 : inb (i + (1 : Int32)) L = true) (hx1 : xs (ix (i + (1 : Int32))) = x1) (hi2 : inb (i + (2 : Int32)) L = true) (hx2 : xs (ix (i + (2 : Int32))) = x2) (hi3 : inb (i + (3 : Int32)) L = true) (hx3 : xs (ix (i + (3 : Int32))) = x3) (hi4 : inb (i + (4 : Int32)) L = true) (hx4 : xs (ix (i + (4 : Int32))) = x4) (hi5 : inb (i + (5 : Int32)) L = true) (hx5 : xs (ix (i + (5 : Int32))) = x5) (σ : MS) : VV m_L_law_ w g kc ks Q (fun s => VH m_L_law_ w g (kc + 20) (ks + 120) Q 2895 [some (.ref b0), some (.ref (wB w + 0)), some (.ref (wB w + 171)), some (.ref (wB w + 183)), some (.int i), none, none] [] s) 1861 [some (.ref b0), some (.ref (wB w + 0)), some (.ref (wB w + 171)), some (.ref (wB w + 183)), some (.int i), none, none] [] σ (step_31 n x1 x2 x3 x4 x5 σ) := by
  unfold step_31
  have hJ1926 : ∀ (σ : MS), VV m_L_law_ w g (kc + 2) (ks + 12) Q (fun s => VH m_L_law_ w g (kc + 20) (ks + 120) Q 2895 [some (.ref b0), some (.ref (wB w + 0)), some (.ref (wB w + 171)), some (.ref (wB w + 183)), some (.int i), none, none] [] s) 1926 [some (.ref b0), some (.ref (wB w + 0)), some (.ref (wB w + 171)), some (.ref (wB w + 183)), some (.int i), none, none] [] σ (J_L_law__1926 n x1 x2 x3 x4 x5 σ) := by
    intro σ
    refine V_goto (pc := 1926) (tgt := 2895) dL_law__1926 (by decide +kernel) ?_
    refine V_widen (kc' := kc + 20) (ks' := ks + 120) (by omega) (by omega) ?_
    exact V_back (fun h => h)
  refine V_aload_n (pc := 1861) dL_law__1861 rfl rfl ?_
  refine V_aload_n (pc := 1862) dL_law__1862 rfl rfl ?_
  refine V_iload (pc := 1863) dL_law__1863 rfl ?_
  refine V_iconst (pc := 1865) dL_law__1865 ic_1 ?_
  refine V_iadd (pc := 1866) dL_law__1866 ?_
  refine V_sld (pc := 1867) hX hb0 hbA hi1 hx1 dL_law__1867 ?_
  refine V_aload_n (pc := 1868) dL_law__1868 rfl rfl ?_
  refine V_iload (pc := 1869) dL_law__1869 rfl ?_
  refine V_iconst (pc := 1871) dL_law__1871 ic_2 ?_
  refine V_iadd (pc := 1872) dL_law__1872 ?_
  refine V_sld (pc := 1873) hX hb0 hbA hi2 hx2 dL_law__1873 ?_
  refine V_aload_n (pc := 1874) dL_law__1874 rfl rfl ?_
  refine V_callW (pc := 1875) (As := [.ref (wB w + 0), .int x1, .int x2, .ref (wB w + 183)]) (rest := []) (c_L_way w n x1 x2 σ) cl_252 rfl rfl dL_law__1875 ⟨by simp only [m_L_law_, m_L_way]; omega, by simp only [m_L_law_, m_L_way]; omega⟩ rfl rfl (Nat.le_of_ble_eq_true rfl) (by simp only [m_L_law_, m_L_way]; omega) (by simp only [m_L_law_, m_L_way]; omega) (fun q1875 => ?_)
  show VV m_L_law_ w g (kc + 2) (ks + 12) Q (fun s => VH m_L_law_ w g (kc + 20) (ks + 120) Q 2895 [some (.ref b0), some (.ref (wB w + 0)), some (.ref (wB w + 171)), some (.ref (wB w + 183)), some (.int i), none, none] [] s) 1878 [some (.ref b0), some (.ref (wB w + 0)), some (.ref (wB w + 171)), some (.ref (wB w + 183)), some (.int i), none, none] [.int q1875.1] q1875.2 _
  refine V_istore (pc := 1878) (vs' := [some (.ref b0), some (.ref (wB w + 0)), some (.ref (wB w + 171)), some (.ref (wB w + 183)), some (.int i), some (.int q1875.1), none]) dL_law__1878 (Nat.le_of_ble_eq_true rfl) (Nat.le_of_ble_eq_true rfl) rfl ?_
  refine V_aload_n (pc := 1880) dL_law__1880 rfl rfl ?_
  refine V_aload_n (pc := 1881) dL_law__1881 rfl rfl ?_
  refine V_iload (pc := 1882) dL_law__1882 rfl ?_
  refine V_iconst (pc := 1884) dL_law__1884 ic_1 ?_
  refine V_iadd (pc := 1885) dL_law__1885 ?_
  refine V_sld (pc := 1886) hX hb0 hbA hi1 hx1 dL_law__1886 ?_
  refine V_aload_n (pc := 1887) dL_law__1887 rfl rfl ?_
  refine V_iload (pc := 1888) dL_law__1888 rfl ?_
  refine V_iconst (pc := 1890) dL_law__1890 ic_2 ?_
  refine V_iadd (pc := 1891) dL_law__1891 ?_
  refine V_sld (pc := 1892) hX hb0 hbA hi2 hx2 dL_law__1892 ?_
  refine V_callVi (pc := 1893) (As := [.int x1, .int x2]) (rest := []) (c_X12_way w n x1 x2 q1875.2) cw_L_254 rfl rfl dL_law__1893 kc_171 ci_12 ⟨by simp only [m_L_law_, m_X12_way]; omega, by simp only [m_L_law_, m_X12_way]; omega⟩ rfl rfl (Nat.le_of_ble_eq_true rfl) (by simp only [m_L_law_]; omega) (by simp only [m_L_law_]; omega) rfl (fun q1893 => ?_)
  refine V_istore (pc := 1896) (vs' := [some (.ref b0), some (.ref (wB w + 0)), some (.ref (wB w + 171)), some (.ref (wB w + 183)), some (.int i), some (.int q1875.1), some (.int q1893.1)]) dL_law__1896 (Nat.le_of_ble_eq_true rfl) (Nat.le_of_ble_eq_true rfl) rfl ?_
  refine V_aload_n (pc := 1898) dL_law__1898 rfl rfl ?_
  refine V_callVpi (pc := 1899) (As := []) (rest := []) (c_X12_thrown w  q1893.2) cw_L_150 rfl rfl dL_law__1899 kc_171 ci_12 ⟨by simp only [m_L_law_, m_X12_thrown]; omega, by simp only [m_L_law_, m_X12_thrown]; omega⟩ rfl rfl (Nat.le_of_ble_eq_true rfl) (by simp only [m_L_law_]; omega) (by simp only [m_L_law_]; omega) rfl (fun q1899 => ?_)
  refine V_iload (pc := 1902) dL_law__1902 rfl ?_
  refine V_icmp_eq (pc := 1904) (tgt := 1909) dL_law__1904 (by decide +kernel) ?_ ?_
  · refine V_iload (pc := 1909) dL_law__1909 rfl ?_
    refine V_if_ne (pc := 1911) (tgt := 1926) dL_law__1911 (by decide +kernel) ?_ ?_
    · refine V_sub (vs' := [some (.ref b0), some (.ref (wB w + 0)), some (.ref (wB w + 171)), some (.ref (wB w + 183)), some (.int i), none, none]) (show vless _ _ from ⟨rfl, ⟨rfl, ⟨rfl, ⟨rfl, ⟨rfl, trivial⟩⟩⟩⟩⟩) rfl ?_
      exact hJ1926 q1893.2
    · refine V_aload_n (pc := 1914) dL_law__1914 rfl rfl ?_
      refine V_iconst (pc := 1915) dL_law__1915 ic_0 ?_
      refine V_lald (pc := 1916) dL_law__1916 ?_
      refine V_iload (pc := 1917) dL_law__1917 rfl ?_
      refine V_i2l (pc := 1919) dL_law__1919 ?_
      refine V_lcmpeq (pc := 1920) (tgt := 1926) dL_law__1920 dL_law__1921 (by decide) ?_ ?_
      · refine V_sub (vs' := [some (.ref b0), some (.ref (wB w + 0)), some (.ref (wB w + 171)), some (.ref (wB w + 183)), some (.int i), none, none]) (show vless _ _ from ⟨rfl, ⟨rfl, ⟨rfl, ⟨rfl, ⟨rfl, trivial⟩⟩⟩⟩⟩) rfl ?_
        exact hJ1926 q1893.2
      · refine V_iconst (pc := 1924) dL_law__1924 ic_0 ?_
        exact V_none
  · refine V_iconst (pc := 1907) dL_law__1907 ic_0 ?_
    exact V_none
theorem cl_255 : csw RL 255 m_L_unseen [(0, 10, 13, 24), (0, 10, 17, 13)] 4 := ⟨goodIn_of _ (by decide +kernel), by decide +kernel, by decide +kernel, by decide +kernel⟩
theorem wm_X12_unseen : wmp m_X12_unseen 2 := ⟨gx 2084 (by decide +kernel) (by decide +kernel), gx 2085 (by decide +kernel) (by decide +kernel), gx 138 (by decide +kernel) (by decide +kernel), gx 2086 (by decide +kernel) (by decide +kernel), by decide +kernel, by decide +kernel, by decide +kernel⟩
theorem cw_L_257 : cwp RL 257 m_X12_unseen 2 := cwp_of wm_X12_unseen (gx 2083 (by decide +kernel) (by decide +kernel))
def J_L_law__1994 (n : Nat) (x1 x2 x3 x4 x5 : Int32) (σ : MS) : Option (MS) := some σ
def step_32 (n : Nat) (x1 x2 x3 x4 x5 : Int32) (σ : MS) : Option MS := ((f_L_unseen n x1 x2 σ).bind (fun q1943 => ((f_X12_unseen n x1 x2 q1943.2).bind (fun q1961 => ((f_X12_thrown  q1961.2).bind (fun q1967 => (if q1967 = q1943.1 then (if q1943.1 = 0 then (if (q1961.2 183 0) = q1961.1 then J_L_law__1994 n x1 x2 x3 x4 x5 q1961.2 else none) else J_L_law__1994 n x1 x2 x3 x4 x5 q1961.2) else none)))))))
set_option maxRecDepth 20000 in
set_option maxHeartbeats 2000000 in
theorem v_case_32 (w : TG) (g : VG) (kc ks : Nat) (Q : State → Prop) (n b0 L : Nat) (xs : Nat → Int32) (i x1 x2 x3 x4 x5 : Int32) (hkc : kc + 40 ≤ 601024) (hks : ks + 240 ≤ 7293034) (hX : va_X b0 L xs (gS g) (gS g).heap) (hb0 : b0 < (gS g).heap.size) (hbA : ¬ wA w b0) (hi1 : inb (i + (1 : Int32)) L = true) (hx1 : xs (ix (i + (1 : Int32))) = x1) (hi2 : inb (i + (2 : Int32)) L = true) (hx2 : xs (ix (i + (2 : Int32))) = x2) (hi3 : inb (i + (3 : Int32)) L = true) (hx3 : xs (ix (i + (3 : Int32))) = x3) (hi4 : inb (i + (4 : Int32)) L = true) (hx4 : xs (ix (i + (4 : Int32))) = x4) (hi5 : inb (i + (5 : Int32)) L = true) (hx5 : xs (ix (i + (5 : Int32))) = x5) (σ : MS) : VV m_L_law_ w g kc ks Q (fun s => VH m_L_law_ w g (kc + 20) (ks + 120) Q 2895 [some (.ref b0), some (.ref (wB w + 0)), some (.ref (wB w + 171)), some (.ref (wB w + 183)), some (.int i), none, none] [] s) 1929 [some (.ref b0), some (.ref (wB w + 0)), some (.ref (wB w + 171)), some (.ref (wB w + 183)), some (.int i), none, none] [] σ (step_32 n x1 x2 x3 x4 x5 σ) := by
  unfold step_32
  have hJ1994 : ∀ (σ : MS), VV m_L_law_ w g (kc + 3) (ks + 18) Q (fun s => VH m_L_law_ w g (kc + 20) (ks + 120) Q 2895 [some (.ref b0), some (.ref (wB w + 0)), some (.ref (wB w + 171)), some (.ref (wB w + 183)), some (.int i), none, none] [] s) 1994 [some (.ref b0), some (.ref (wB w + 0)), some (.ref (wB w + 171)), some (.ref (wB w + 183)), some (.int i), none, none] [] σ (J_L_law__1994 n x1 x2 x3 x4 x5 σ) := by
    intro σ
    refine V_goto (pc := 1994) (tgt := 2895) dL_law__1994 (by decide +kernel) ?_
    refine V_widen (kc' := kc + 20) (ks' := ks + 120) (by omega) (by omega) ?_
    exact V_back (fun h => h)
  refine V_aload_n (pc := 1929) dL_law__1929 rfl rfl ?_
  refine V_aload_n (pc := 1930) dL_law__1930 rfl rfl ?_
  refine V_iload (pc := 1931) dL_law__1931 rfl ?_
  refine V_iconst (pc := 1933) dL_law__1933 ic_1 ?_
  refine V_iadd (pc := 1934) dL_law__1934 ?_
  refine V_sld (pc := 1935) hX hb0 hbA hi1 hx1 dL_law__1935 ?_
  refine V_aload_n (pc := 1936) dL_law__1936 rfl rfl ?_
  refine V_iload (pc := 1937) dL_law__1937 rfl ?_
  refine V_iconst (pc := 1939) dL_law__1939 ic_2 ?_
  refine V_iadd (pc := 1940) dL_law__1940 ?_
  refine V_sld (pc := 1941) hX hb0 hbA hi2 hx2 dL_law__1941 ?_
  refine V_aload_n (pc := 1942) dL_law__1942 rfl rfl ?_
  refine V_callW (pc := 1943) (As := [.ref (wB w + 0), .int x1, .int x2, .ref (wB w + 183)]) (rest := []) (c_L_unseen w n x1 x2 σ) cl_255 rfl rfl dL_law__1943 ⟨by simp only [m_L_law_, m_L_unseen]; omega, by simp only [m_L_law_, m_L_unseen]; omega⟩ rfl rfl (Nat.le_of_ble_eq_true rfl) (by simp only [m_L_law_, m_L_unseen]; omega) (by simp only [m_L_law_, m_L_unseen]; omega) (fun q1943 => ?_)
  show VV m_L_law_ w g (kc + 3) (ks + 18) Q (fun s => VH m_L_law_ w g (kc + 20) (ks + 120) Q 2895 [some (.ref b0), some (.ref (wB w + 0)), some (.ref (wB w + 171)), some (.ref (wB w + 183)), some (.int i), none, none] [] s) 1946 [some (.ref b0), some (.ref (wB w + 0)), some (.ref (wB w + 171)), some (.ref (wB w + 183)), some (.int i), none, none] [.int q1943.1] q1943.2 _
  refine V_istore (pc := 1946) (vs' := [some (.ref b0), some (.ref (wB w + 0)), some (.ref (wB w + 171)), some (.ref (wB w + 183)), some (.int i), some (.int q1943.1), none]) dL_law__1946 (Nat.le_of_ble_eq_true rfl) (Nat.le_of_ble_eq_true rfl) rfl ?_
  refine V_aload_n (pc := 1948) dL_law__1948 rfl rfl ?_
  refine V_aload_n (pc := 1949) dL_law__1949 rfl rfl ?_
  refine V_iload (pc := 1950) dL_law__1950 rfl ?_
  refine V_iconst (pc := 1952) dL_law__1952 ic_1 ?_
  refine V_iadd (pc := 1953) dL_law__1953 ?_
  refine V_sld (pc := 1954) hX hb0 hbA hi1 hx1 dL_law__1954 ?_
  refine V_aload_n (pc := 1955) dL_law__1955 rfl rfl ?_
  refine V_iload (pc := 1956) dL_law__1956 rfl ?_
  refine V_iconst (pc := 1958) dL_law__1958 ic_2 ?_
  refine V_iadd (pc := 1959) dL_law__1959 ?_
  refine V_sld (pc := 1960) hX hb0 hbA hi2 hx2 dL_law__1960 ?_
  refine V_callVi (pc := 1961) (As := [.int x1, .int x2]) (rest := []) (c_X12_unseen w n x1 x2 q1943.2) cw_L_257 rfl rfl dL_law__1961 kc_171 ci_12 ⟨by simp only [m_L_law_, m_X12_unseen]; omega, by simp only [m_L_law_, m_X12_unseen]; omega⟩ rfl rfl (Nat.le_of_ble_eq_true rfl) (by simp only [m_L_law_]; omega) (by simp only [m_L_law_]; omega) rfl (fun q1961 => ?_)
  refine V_istore (pc := 1964) (vs' := [some (.ref b0), some (.ref (wB w + 0)), some (.ref (wB w + 171)), some (.ref (wB w + 183)), some (.int i), some (.int q1943.1), some (.int q1961.1)]) dL_law__1964 (Nat.le_of_ble_eq_true rfl) (Nat.le_of_ble_eq_true rfl) rfl ?_
  refine V_aload_n (pc := 1966) dL_law__1966 rfl rfl ?_
  refine V_callVpi (pc := 1967) (As := []) (rest := []) (c_X12_thrown w  q1961.2) cw_L_150 rfl rfl dL_law__1967 kc_171 ci_12 ⟨by simp only [m_L_law_, m_X12_thrown]; omega, by simp only [m_L_law_, m_X12_thrown]; omega⟩ rfl rfl (Nat.le_of_ble_eq_true rfl) (by simp only [m_L_law_]; omega) (by simp only [m_L_law_]; omega) rfl (fun q1967 => ?_)
  refine V_iload (pc := 1970) dL_law__1970 rfl ?_
  refine V_icmp_eq (pc := 1972) (tgt := 1977) dL_law__1972 (by decide +kernel) ?_ ?_
  · refine V_iload (pc := 1977) dL_law__1977 rfl ?_
    refine V_if_ne (pc := 1979) (tgt := 1994) dL_law__1979 (by decide +kernel) ?_ ?_
    · refine V_sub (vs' := [some (.ref b0), some (.ref (wB w + 0)), some (.ref (wB w + 171)), some (.ref (wB w + 183)), some (.int i), none, none]) (show vless _ _ from ⟨rfl, ⟨rfl, ⟨rfl, ⟨rfl, ⟨rfl, trivial⟩⟩⟩⟩⟩) rfl ?_
      exact hJ1994 q1961.2
    · refine V_aload_n (pc := 1982) dL_law__1982 rfl rfl ?_
      refine V_iconst (pc := 1983) dL_law__1983 ic_0 ?_
      refine V_lald (pc := 1984) dL_law__1984 ?_
      refine V_iload (pc := 1985) dL_law__1985 rfl ?_
      refine V_i2l (pc := 1987) dL_law__1987 ?_
      refine V_lcmpeq (pc := 1988) (tgt := 1994) dL_law__1988 dL_law__1989 (by decide) ?_ ?_
      · refine V_sub (vs' := [some (.ref b0), some (.ref (wB w + 0)), some (.ref (wB w + 171)), some (.ref (wB w + 183)), some (.int i), none, none]) (show vless _ _ from ⟨rfl, ⟨rfl, ⟨rfl, ⟨rfl, ⟨rfl, trivial⟩⟩⟩⟩⟩) rfl ?_
        exact hJ1994 q1961.2
      · refine V_iconst (pc := 1992) dL_law__1992 ic_0 ?_
        exact V_none
  · refine V_iconst (pc := 1975) dL_law__1975 ic_0 ?_
    exact V_none
theorem wm_X12_trap : wmp m_X12_trap 2 := ⟨gx 2088 (by decide +kernel) (by decide +kernel), gx 2089 (by decide +kernel) (by decide +kernel), gx 138 (by decide +kernel) (by decide +kernel), gx 2090 (by decide +kernel) (by decide +kernel), by decide +kernel, by decide +kernel, by decide +kernel⟩
theorem cw_L_260 : cwp RL 260 m_X12_trap 2 := cwp_of wm_X12_trap (gx 2087 (by decide +kernel) (by decide +kernel))
theorem cl_258 : csw RL 258 m_L_trap [(0, 10, 13, 13)] 4 := ⟨goodIn_of _ (by decide +kernel), by decide +kernel, by decide +kernel, by decide +kernel⟩
def J_L_law__2078 (n : Nat) (x1 x2 x3 x4 x5 : Int32) (σ : MS) : Option (MS) := some σ
def J_L_law__2045 (n : Nat) (v5 : Int32) (x1 x2 x3 x4 x5 : Int32) (t0 : Int32) (t1 : Int32) (σ : MS) : Option (MS) := ((f_X12_trap n t1 t0 σ).bind (fun q2045 => ((f_X12_thrown  q2045.2).bind (fun q2051 => (if q2051 = v5 then (if v5 = 0 then (if (q2045.2 183 0) = q2045.1 then J_L_law__2078 n x1 x2 x3 x4 x5 q2045.2 else none) else J_L_law__2078 n x1 x2 x3 x4 x5 q2045.2) else none)))))
def J_L_law__2018 (n : Nat) (x1 x2 x3 x4 x5 : Int32) (t0 : Int32) (t1 : Int32) (σ : MS) : Option (MS) := ((f_L_trap n t1 t0 σ).bind (fun q2019 => (if x2 = 0 then J_L_law__2045 n q2019.1 x1 x2 x3 x4 x5 (0 : Int32) x1 q2019.2 else J_L_law__2045 n q2019.1 x1 x2 x3 x4 x5 (1 : Int32) x1 q2019.2)))
def step_33 (n : Nat) (x1 x2 x3 x4 x5 : Int32) (σ : MS) : Option MS := (if x2 = 0 then J_L_law__2018 n x1 x2 x3 x4 x5 (0 : Int32) x1 σ else J_L_law__2018 n x1 x2 x3 x4 x5 (1 : Int32) x1 σ)
set_option maxRecDepth 20000 in
set_option maxHeartbeats 2000000 in
theorem v_case_33 (w : TG) (g : VG) (kc ks : Nat) (Q : State → Prop) (n b0 L : Nat) (xs : Nat → Int32) (i x1 x2 x3 x4 x5 : Int32) (hkc : kc + 40 ≤ 601024) (hks : ks + 240 ≤ 7293034) (hX : va_X b0 L xs (gS g) (gS g).heap) (hb0 : b0 < (gS g).heap.size) (hbA : ¬ wA w b0) (hi1 : inb (i + (1 : Int32)) L = true) (hx1 : xs (ix (i + (1 : Int32))) = x1) (hi2 : inb (i + (2 : Int32)) L = true) (hx2 : xs (ix (i + (2 : Int32))) = x2) (hi3 : inb (i + (3 : Int32)) L = true) (hx3 : xs (ix (i + (3 : Int32))) = x3) (hi4 : inb (i + (4 : Int32)) L = true) (hx4 : xs (ix (i + (4 : Int32))) = x4) (hi5 : inb (i + (5 : Int32)) L = true) (hx5 : xs (ix (i + (5 : Int32))) = x5) (σ : MS) : VV m_L_law_ w g kc ks Q (fun s => VH m_L_law_ w g (kc + 20) (ks + 120) Q 2895 [some (.ref b0), some (.ref (wB w + 0)), some (.ref (wB w + 171)), some (.ref (wB w + 183)), some (.int i), none, none] [] s) 1997 [some (.ref b0), some (.ref (wB w + 0)), some (.ref (wB w + 171)), some (.ref (wB w + 183)), some (.int i), none, none] [] σ (step_33 n x1 x2 x3 x4 x5 σ) := by
  unfold step_33
  have hJ2078 : ∀ (σ : MS), VV m_L_law_ w g (kc + 1) (ks + 6) Q (fun s => VH m_L_law_ w g (kc + 20) (ks + 120) Q 2895 [some (.ref b0), some (.ref (wB w + 0)), some (.ref (wB w + 171)), some (.ref (wB w + 183)), some (.int i), none, none] [] s) 2078 [some (.ref b0), some (.ref (wB w + 0)), some (.ref (wB w + 171)), some (.ref (wB w + 183)), some (.int i), none, none] [] σ (J_L_law__2078 n x1 x2 x3 x4 x5 σ) := by
    intro σ
    refine V_goto (pc := 2078) (tgt := 2895) dL_law__2078 (by decide +kernel) ?_
    refine V_widen (kc' := kc + 20) (ks' := ks + 120) (by omega) (by omega) ?_
    exact V_back (fun h => h)
  have hJ2045 : ∀ (v5 : Int32) (t0 : Int32) (t1 : Int32) (σ : MS), VV m_L_law_ w g (kc + 1) (ks + 6) Q (fun s => VH m_L_law_ w g (kc + 20) (ks + 120) Q 2895 [some (.ref b0), some (.ref (wB w + 0)), some (.ref (wB w + 171)), some (.ref (wB w + 183)), some (.int i), none, none] [] s) 2045 [some (.ref b0), some (.ref (wB w + 0)), some (.ref (wB w + 171)), some (.ref (wB w + 183)), some (.int i), some (.int v5), none] [.int t0, .int t1, .ref (wB w + 171)] σ (J_L_law__2045 n v5 x1 x2 x3 x4 x5 t0 t1 σ) := by
    intro v5 t0 t1 σ
    refine V_callVi (pc := 2045) (As := [.int t1, .int t0]) (rest := []) (c_X12_trap w n t1 t0 σ) cw_L_260 rfl rfl dL_law__2045 kc_171 ci_12 ⟨by simp only [m_L_law_, m_X12_trap]; omega, by simp only [m_L_law_, m_X12_trap]; omega⟩ rfl rfl (Nat.le_of_ble_eq_true rfl) (by simp only [m_L_law_]; omega) (by simp only [m_L_law_]; omega) rfl (fun q2045 => ?_)
    refine V_istore (pc := 2048) (vs' := [some (.ref b0), some (.ref (wB w + 0)), some (.ref (wB w + 171)), some (.ref (wB w + 183)), some (.int i), some (.int v5), some (.int q2045.1)]) dL_law__2048 (Nat.le_of_ble_eq_true rfl) (Nat.le_of_ble_eq_true rfl) rfl ?_
    refine V_aload_n (pc := 2050) dL_law__2050 rfl rfl ?_
    refine V_callVpi (pc := 2051) (As := []) (rest := []) (c_X12_thrown w  q2045.2) cw_L_150 rfl rfl dL_law__2051 kc_171 ci_12 ⟨by simp only [m_L_law_, m_X12_thrown]; omega, by simp only [m_L_law_, m_X12_thrown]; omega⟩ rfl rfl (Nat.le_of_ble_eq_true rfl) (by simp only [m_L_law_]; omega) (by simp only [m_L_law_]; omega) rfl (fun q2051 => ?_)
    refine V_iload (pc := 2054) dL_law__2054 rfl ?_
    refine V_icmp_eq (pc := 2056) (tgt := 2061) dL_law__2056 (by decide +kernel) ?_ ?_
    · refine V_iload (pc := 2061) dL_law__2061 rfl ?_
      refine V_if_ne (pc := 2063) (tgt := 2078) dL_law__2063 (by decide +kernel) ?_ ?_
      · refine V_sub (vs' := [some (.ref b0), some (.ref (wB w + 0)), some (.ref (wB w + 171)), some (.ref (wB w + 183)), some (.int i), none, none]) (show vless _ _ from ⟨rfl, ⟨rfl, ⟨rfl, ⟨rfl, ⟨rfl, trivial⟩⟩⟩⟩⟩) rfl ?_
        exact hJ2078 q2045.2
      · refine V_aload_n (pc := 2066) dL_law__2066 rfl rfl ?_
        refine V_iconst (pc := 2067) dL_law__2067 ic_0 ?_
        refine V_lald (pc := 2068) dL_law__2068 ?_
        refine V_iload (pc := 2069) dL_law__2069 rfl ?_
        refine V_i2l (pc := 2071) dL_law__2071 ?_
        refine V_lcmpeq (pc := 2072) (tgt := 2078) dL_law__2072 dL_law__2073 (by decide) ?_ ?_
        · refine V_sub (vs' := [some (.ref b0), some (.ref (wB w + 0)), some (.ref (wB w + 171)), some (.ref (wB w + 183)), some (.int i), none, none]) (show vless _ _ from ⟨rfl, ⟨rfl, ⟨rfl, ⟨rfl, ⟨rfl, trivial⟩⟩⟩⟩⟩) rfl ?_
          exact hJ2078 q2045.2
        · refine V_iconst (pc := 2076) dL_law__2076 ic_0 ?_
          exact V_none
    · refine V_iconst (pc := 2059) dL_law__2059 ic_0 ?_
      exact V_none
  have hJ2018 : ∀ (t0 : Int32) (t1 : Int32) (σ : MS), VV m_L_law_ w g kc ks Q (fun s => VH m_L_law_ w g (kc + 20) (ks + 120) Q 2895 [some (.ref b0), some (.ref (wB w + 0)), some (.ref (wB w + 171)), some (.ref (wB w + 183)), some (.int i), none, none] [] s) 2018 [some (.ref b0), some (.ref (wB w + 0)), some (.ref (wB w + 171)), some (.ref (wB w + 183)), some (.int i), none, none] [.int t0, .int t1, .ref (wB w + 0)] σ (J_L_law__2018 n x1 x2 x3 x4 x5 t0 t1 σ) := by
    intro t0 t1 σ
    refine V_aload_n (pc := 2018) dL_law__2018 rfl rfl ?_
    refine V_callW (pc := 2019) (As := [.ref (wB w + 0), .int t1, .int t0, .ref (wB w + 183)]) (rest := []) (c_L_trap w n t1 t0 σ) cl_258 rfl rfl dL_law__2019 ⟨by simp only [m_L_law_, m_L_trap]; omega, by simp only [m_L_law_, m_L_trap]; omega⟩ rfl rfl (Nat.le_of_ble_eq_true rfl) (by simp only [m_L_law_, m_L_trap]; omega) (by simp only [m_L_law_, m_L_trap]; omega) (fun q2019 => ?_)
    show VV m_L_law_ w g (kc + 1) (ks + 6) Q (fun s => VH m_L_law_ w g (kc + 20) (ks + 120) Q 2895 [some (.ref b0), some (.ref (wB w + 0)), some (.ref (wB w + 171)), some (.ref (wB w + 183)), some (.int i), none, none] [] s) 2022 [some (.ref b0), some (.ref (wB w + 0)), some (.ref (wB w + 171)), some (.ref (wB w + 183)), some (.int i), none, none] [.int q2019.1] q2019.2 _
    refine V_istore (pc := 2022) (vs' := [some (.ref b0), some (.ref (wB w + 0)), some (.ref (wB w + 171)), some (.ref (wB w + 183)), some (.int i), some (.int q2019.1), none]) dL_law__2022 (Nat.le_of_ble_eq_true rfl) (Nat.le_of_ble_eq_true rfl) rfl ?_
    refine V_aload_n (pc := 2024) dL_law__2024 rfl rfl ?_
    refine V_aload_n (pc := 2025) dL_law__2025 rfl rfl ?_
    refine V_iload (pc := 2026) dL_law__2026 rfl ?_
    refine V_iconst (pc := 2028) dL_law__2028 ic_1 ?_
    refine V_iadd (pc := 2029) dL_law__2029 ?_
    refine V_sld (pc := 2030) hX hb0 hbA hi1 hx1 dL_law__2030 ?_
    refine V_aload_n (pc := 2031) dL_law__2031 rfl rfl ?_
    refine V_iload (pc := 2032) dL_law__2032 rfl ?_
    refine V_iconst (pc := 2034) dL_law__2034 ic_2 ?_
    refine V_iadd (pc := 2035) dL_law__2035 ?_
    refine V_sld (pc := 2036) hX hb0 hbA hi2 hx2 dL_law__2036 ?_
    refine V_if_eq (pc := 2037) (tgt := 2044) dL_law__2037 (by decide +kernel) ?_ ?_
    · refine V_iconst (pc := 2044) dL_law__2044 ic_0 ?_
      exact hJ2045 q2019.1 (0 : Int32) x1 q2019.2
    · refine V_iconst (pc := 2040) dL_law__2040 ic_1 ?_
      refine V_goto (pc := 2041) (tgt := 2045) dL_law__2041 (by decide +kernel) ?_
      exact hJ2045 q2019.1 (1 : Int32) x1 q2019.2
  refine V_aload_n (pc := 1997) dL_law__1997 rfl rfl ?_
  refine V_aload_n (pc := 1998) dL_law__1998 rfl rfl ?_
  refine V_iload (pc := 1999) dL_law__1999 rfl ?_
  refine V_iconst (pc := 2001) dL_law__2001 ic_1 ?_
  refine V_iadd (pc := 2002) dL_law__2002 ?_
  refine V_sld (pc := 2003) hX hb0 hbA hi1 hx1 dL_law__2003 ?_
  refine V_aload_n (pc := 2004) dL_law__2004 rfl rfl ?_
  refine V_iload (pc := 2005) dL_law__2005 rfl ?_
  refine V_iconst (pc := 2007) dL_law__2007 ic_2 ?_
  refine V_iadd (pc := 2008) dL_law__2008 ?_
  refine V_sld (pc := 2009) hX hb0 hbA hi2 hx2 dL_law__2009 ?_
  refine V_if_eq (pc := 2010) (tgt := 2017) dL_law__2010 (by decide +kernel) ?_ ?_
  · refine V_iconst (pc := 2017) dL_law__2017 ic_0 ?_
    exact hJ2018 (0 : Int32) x1 σ
  · refine V_iconst (pc := 2013) dL_law__2013 ic_1 ?_
    refine V_goto (pc := 2014) (tgt := 2018) dL_law__2014 (by decide +kernel) ?_
    exact hJ2018 (1 : Int32) x1 σ
theorem cl_261 : csw RL 261 m_L_oath [(0, 17, 20, 24)] 4 := ⟨goodIn_of _ (by decide +kernel), by decide +kernel, by decide +kernel, by decide +kernel⟩
theorem wm_X12_oath : wmp m_X12_oath 2 := ⟨gx 2096 (by decide +kernel) (by decide +kernel), gx 2097 (by decide +kernel) (by decide +kernel), gx 138 (by decide +kernel) (by decide +kernel), gx 2098 (by decide +kernel) (by decide +kernel), by decide +kernel, by decide +kernel, by decide +kernel⟩
theorem cw_L_263 : cwp RL 263 m_X12_oath 2 := cwp_of wm_X12_oath (gx 2095 (by decide +kernel) (by decide +kernel))
def J_L_law__2153 (n : Nat) (x1 x2 x3 x4 x5 : Int32) (σ : MS) : Option (MS) := some σ
def J_L_law__2147 (n : Nat) (x1 x2 x3 x4 x5 : Int32) (t0 : Int32) (t1 : Int32) (σ : MS) : Option (MS) := (if t1 = t0 then J_L_law__2153 n x1 x2 x3 x4 x5 σ else none)
def step_34 (n : Nat) (x1 x2 x3 x4 x5 : Int32) (σ : MS) : Option MS := ((f_L_oath x1 x2 σ).bind (fun q2095 => ((f_X12_oath x1 x2 q2095.2).bind (fun q2113 => ((f_X12_thrown  q2113.2).bind (fun q2119 => (if q2119 = q2095.1 then (if q2095.1 = 0 then (if q2113.1 = 0 then J_L_law__2147 n x1 x2 x3 x4 x5 (0 : Int32) (q2113.2 183 0) q2113.2 else J_L_law__2147 n x1 x2 x3 x4 x5 (1 : Int32) (q2113.2 183 0) q2113.2) else J_L_law__2153 n x1 x2 x3 x4 x5 q2113.2) else none)))))))
set_option maxRecDepth 20000 in
set_option maxHeartbeats 2000000 in
theorem v_case_34 (w : TG) (g : VG) (kc ks : Nat) (Q : State → Prop) (n b0 L : Nat) (xs : Nat → Int32) (i x1 x2 x3 x4 x5 : Int32) (hkc : kc + 40 ≤ 601024) (hks : ks + 240 ≤ 7293034) (hX : va_X b0 L xs (gS g) (gS g).heap) (hb0 : b0 < (gS g).heap.size) (hbA : ¬ wA w b0) (hi1 : inb (i + (1 : Int32)) L = true) (hx1 : xs (ix (i + (1 : Int32))) = x1) (hi2 : inb (i + (2 : Int32)) L = true) (hx2 : xs (ix (i + (2 : Int32))) = x2) (hi3 : inb (i + (3 : Int32)) L = true) (hx3 : xs (ix (i + (3 : Int32))) = x3) (hi4 : inb (i + (4 : Int32)) L = true) (hx4 : xs (ix (i + (4 : Int32))) = x4) (hi5 : inb (i + (5 : Int32)) L = true) (hx5 : xs (ix (i + (5 : Int32))) = x5) (σ : MS) : VV m_L_law_ w g kc ks Q (fun s => VH m_L_law_ w g (kc + 20) (ks + 120) Q 2895 [some (.ref b0), some (.ref (wB w + 0)), some (.ref (wB w + 171)), some (.ref (wB w + 183)), some (.int i), none, none] [] s) 2081 [some (.ref b0), some (.ref (wB w + 0)), some (.ref (wB w + 171)), some (.ref (wB w + 183)), some (.int i), none, none] [] σ (step_34 n x1 x2 x3 x4 x5 σ) := by
  unfold step_34
  have hJ2153 : ∀ (σ : MS), VV m_L_law_ w g (kc + 1) (ks + 6) Q (fun s => VH m_L_law_ w g (kc + 20) (ks + 120) Q 2895 [some (.ref b0), some (.ref (wB w + 0)), some (.ref (wB w + 171)), some (.ref (wB w + 183)), some (.int i), none, none] [] s) 2153 [some (.ref b0), some (.ref (wB w + 0)), some (.ref (wB w + 171)), some (.ref (wB w + 183)), some (.int i), none, none] [] σ (J_L_law__2153 n x1 x2 x3 x4 x5 σ) := by
    intro σ
    refine V_goto (pc := 2153) (tgt := 2895) dL_law__2153 (by decide +kernel) ?_
    refine V_widen (kc' := kc + 20) (ks' := ks + 120) (by omega) (by omega) ?_
    exact V_back (fun h => h)
  have hJ2147 : ∀ (t0 : Int32) (t1 : Int32) (σ : MS), VV m_L_law_ w g (kc + 1) (ks + 6) Q (fun s => VH m_L_law_ w g (kc + 20) (ks + 120) Q 2895 [some (.ref b0), some (.ref (wB w + 0)), some (.ref (wB w + 171)), some (.ref (wB w + 183)), some (.int i), none, none] [] s) 2147 [some (.ref b0), some (.ref (wB w + 0)), some (.ref (wB w + 171)), some (.ref (wB w + 183)), some (.int i), none, none] [.long (t0).toInt64, .long (t1).toInt64] σ (J_L_law__2147 n x1 x2 x3 x4 x5 t0 t1 σ) := by
    intro t0 t1 σ
    refine V_lcmpeq (pc := 2147) (tgt := 2153) dL_law__2147 dL_law__2148 (by decide) ?_ ?_
    · exact hJ2153 σ
    · refine V_iconst (pc := 2151) dL_law__2151 ic_0 ?_
      exact V_none
  refine V_aload_n (pc := 2081) dL_law__2081 rfl rfl ?_
  refine V_aload_n (pc := 2082) dL_law__2082 rfl rfl ?_
  refine V_iload (pc := 2083) dL_law__2083 rfl ?_
  refine V_iconst (pc := 2085) dL_law__2085 ic_1 ?_
  refine V_iadd (pc := 2086) dL_law__2086 ?_
  refine V_sld (pc := 2087) hX hb0 hbA hi1 hx1 dL_law__2087 ?_
  refine V_aload_n (pc := 2088) dL_law__2088 rfl rfl ?_
  refine V_iload (pc := 2089) dL_law__2089 rfl ?_
  refine V_iconst (pc := 2091) dL_law__2091 ic_2 ?_
  refine V_iadd (pc := 2092) dL_law__2092 ?_
  refine V_sld (pc := 2093) hX hb0 hbA hi2 hx2 dL_law__2093 ?_
  refine V_aload_n (pc := 2094) dL_law__2094 rfl rfl ?_
  refine V_callW (pc := 2095) (As := [.ref (wB w + 0), .int x1, .int x2, .ref (wB w + 183)]) (rest := []) (c_L_oath w x1 x2 σ) cl_261 rfl rfl dL_law__2095 ⟨by simp only [m_L_law_, m_L_oath]; omega, by simp only [m_L_law_, m_L_oath]; omega⟩ rfl rfl (Nat.le_of_ble_eq_true rfl) (by simp only [m_L_law_, m_L_oath]; omega) (by simp only [m_L_law_, m_L_oath]; omega) (fun q2095 => ?_)
  show VV m_L_law_ w g (kc + 1) (ks + 6) Q (fun s => VH m_L_law_ w g (kc + 20) (ks + 120) Q 2895 [some (.ref b0), some (.ref (wB w + 0)), some (.ref (wB w + 171)), some (.ref (wB w + 183)), some (.int i), none, none] [] s) 2098 [some (.ref b0), some (.ref (wB w + 0)), some (.ref (wB w + 171)), some (.ref (wB w + 183)), some (.int i), none, none] [.int q2095.1] q2095.2 _
  refine V_istore (pc := 2098) (vs' := [some (.ref b0), some (.ref (wB w + 0)), some (.ref (wB w + 171)), some (.ref (wB w + 183)), some (.int i), some (.int q2095.1), none]) dL_law__2098 (Nat.le_of_ble_eq_true rfl) (Nat.le_of_ble_eq_true rfl) rfl ?_
  refine V_aload_n (pc := 2100) dL_law__2100 rfl rfl ?_
  refine V_aload_n (pc := 2101) dL_law__2101 rfl rfl ?_
  refine V_iload (pc := 2102) dL_law__2102 rfl ?_
  refine V_iconst (pc := 2104) dL_law__2104 ic_1 ?_
  refine V_iadd (pc := 2105) dL_law__2105 ?_
  refine V_sld (pc := 2106) hX hb0 hbA hi1 hx1 dL_law__2106 ?_
  refine V_aload_n (pc := 2107) dL_law__2107 rfl rfl ?_
  refine V_iload (pc := 2108) dL_law__2108 rfl ?_
  refine V_iconst (pc := 2110) dL_law__2110 ic_2 ?_
  refine V_iadd (pc := 2111) dL_law__2111 ?_
  refine V_sld (pc := 2112) hX hb0 hbA hi2 hx2 dL_law__2112 ?_
  refine V_callVi (pc := 2113) (As := [.int x1, .int x2]) (rest := []) (c_X12_oath w x1 x2 q2095.2) cw_L_263 rfl rfl dL_law__2113 kc_171 ci_12 ⟨by simp only [m_L_law_, m_X12_oath]; omega, by simp only [m_L_law_, m_X12_oath]; omega⟩ rfl rfl (Nat.le_of_ble_eq_true rfl) (by simp only [m_L_law_]; omega) (by simp only [m_L_law_]; omega) rfl (fun q2113 => ?_)
  refine V_istore (pc := 2116) (vs' := [some (.ref b0), some (.ref (wB w + 0)), some (.ref (wB w + 171)), some (.ref (wB w + 183)), some (.int i), some (.int q2095.1), some (.int q2113.1)]) dL_law__2116 (Nat.le_of_ble_eq_true rfl) (Nat.le_of_ble_eq_true rfl) rfl ?_
  refine V_aload_n (pc := 2118) dL_law__2118 rfl rfl ?_
  refine V_callVpi (pc := 2119) (As := []) (rest := []) (c_X12_thrown w  q2113.2) cw_L_150 rfl rfl dL_law__2119 kc_171 ci_12 ⟨by simp only [m_L_law_, m_X12_thrown]; omega, by simp only [m_L_law_, m_X12_thrown]; omega⟩ rfl rfl (Nat.le_of_ble_eq_true rfl) (by simp only [m_L_law_]; omega) (by simp only [m_L_law_]; omega) rfl (fun q2119 => ?_)
  refine V_iload (pc := 2122) dL_law__2122 rfl ?_
  refine V_icmp_eq (pc := 2124) (tgt := 2129) dL_law__2124 (by decide +kernel) ?_ ?_
  · refine V_iload (pc := 2129) dL_law__2129 rfl ?_
    refine V_if_ne (pc := 2131) (tgt := 2153) dL_law__2131 (by decide +kernel) ?_ ?_
    · refine V_sub (vs' := [some (.ref b0), some (.ref (wB w + 0)), some (.ref (wB w + 171)), some (.ref (wB w + 183)), some (.int i), none, none]) (show vless _ _ from ⟨rfl, ⟨rfl, ⟨rfl, ⟨rfl, ⟨rfl, trivial⟩⟩⟩⟩⟩) rfl ?_
      exact hJ2153 q2113.2
    · refine V_aload_n (pc := 2134) dL_law__2134 rfl rfl ?_
      refine V_iconst (pc := 2135) dL_law__2135 ic_0 ?_
      refine V_lald (pc := 2136) dL_law__2136 ?_
      refine V_iload (pc := 2137) dL_law__2137 rfl ?_
      refine V_if_eq (pc := 2139) (tgt := 2146) dL_law__2139 (by decide +kernel) ?_ ?_
      · refine V_lconst (pc := 2146) (v := ((0 : Int32)).toInt64) dL_law__2146 rfl ?_
        refine V_sub (vs' := [some (.ref b0), some (.ref (wB w + 0)), some (.ref (wB w + 171)), some (.ref (wB w + 183)), some (.int i), none, none]) (show vless _ _ from ⟨rfl, ⟨rfl, ⟨rfl, ⟨rfl, ⟨rfl, trivial⟩⟩⟩⟩⟩) rfl ?_
        exact hJ2147 (0 : Int32) (q2113.2 183 0) q2113.2
      · refine V_lconst (pc := 2142) (v := ((1 : Int32)).toInt64) dL_law__2142 rfl ?_
        refine V_goto (pc := 2143) (tgt := 2147) dL_law__2143 (by decide +kernel) ?_
        refine V_sub (vs' := [some (.ref b0), some (.ref (wB w + 0)), some (.ref (wB w + 171)), some (.ref (wB w + 183)), some (.int i), none, none]) (show vless _ _ from ⟨rfl, ⟨rfl, ⟨rfl, ⟨rfl, ⟨rfl, trivial⟩⟩⟩⟩⟩) rfl ?_
        exact hJ2147 (1 : Int32) (q2113.2 183 0) q2113.2
  · refine V_iconst (pc := 2127) dL_law__2127 ic_0 ?_
    exact V_none
theorem cl_264 : csw RL 264 m_L_shortest [(0, 9, 12, 24)] 3 := ⟨goodIn_of _ (by decide +kernel), by decide +kernel, by decide +kernel, by decide +kernel⟩
theorem wm_X12_shortest : wmp m_X12_shortest 1 := ⟨gx 2100 (by decide +kernel) (by decide +kernel), gx 2101 (by decide +kernel) (by decide +kernel), gx 138 (by decide +kernel) (by decide +kernel), gx 2102 (by decide +kernel) (by decide +kernel), by decide +kernel, by decide +kernel, by decide +kernel⟩
theorem cw_L_266 : cwp RL 266 m_X12_shortest 1 := cwp_of wm_X12_shortest (gx 2099 (by decide +kernel) (by decide +kernel))
def J_L_law__2209 (n : Nat) (x1 x2 x3 x4 x5 : Int32) (σ : MS) : Option (MS) := some σ
def step_35 (n : Nat) (x1 x2 x3 x4 x5 : Int32) (σ : MS) : Option MS := ((f_L_shortest x1 σ).bind (fun q2164 => ((f_X12_shortest x1 q2164.2).bind (fun q2176 => ((f_X12_thrown  q2176.2).bind (fun q2182 => (if q2182 = q2164.1 then (if q2164.1 = 0 then (if (q2176.2 183 0) = q2176.1 then J_L_law__2209 n x1 x2 x3 x4 x5 q2176.2 else none) else J_L_law__2209 n x1 x2 x3 x4 x5 q2176.2) else none)))))))
set_option maxRecDepth 20000 in
set_option maxHeartbeats 2000000 in
theorem v_case_35 (w : TG) (g : VG) (kc ks : Nat) (Q : State → Prop) (n b0 L : Nat) (xs : Nat → Int32) (i x1 x2 x3 x4 x5 : Int32) (hkc : kc + 40 ≤ 601024) (hks : ks + 240 ≤ 7293034) (hX : va_X b0 L xs (gS g) (gS g).heap) (hb0 : b0 < (gS g).heap.size) (hbA : ¬ wA w b0) (hi1 : inb (i + (1 : Int32)) L = true) (hx1 : xs (ix (i + (1 : Int32))) = x1) (hi2 : inb (i + (2 : Int32)) L = true) (hx2 : xs (ix (i + (2 : Int32))) = x2) (hi3 : inb (i + (3 : Int32)) L = true) (hx3 : xs (ix (i + (3 : Int32))) = x3) (hi4 : inb (i + (4 : Int32)) L = true) (hx4 : xs (ix (i + (4 : Int32))) = x4) (hi5 : inb (i + (5 : Int32)) L = true) (hx5 : xs (ix (i + (5 : Int32))) = x5) (σ : MS) : VV m_L_law_ w g kc ks Q (fun s => VH m_L_law_ w g (kc + 20) (ks + 120) Q 2895 [some (.ref b0), some (.ref (wB w + 0)), some (.ref (wB w + 171)), some (.ref (wB w + 183)), some (.int i), none, none] [] s) 2156 [some (.ref b0), some (.ref (wB w + 0)), some (.ref (wB w + 171)), some (.ref (wB w + 183)), some (.int i), none, none] [] σ (step_35 n x1 x2 x3 x4 x5 σ) := by
  unfold step_35
  have hJ2209 : ∀ (σ : MS), VV m_L_law_ w g (kc + 1) (ks + 6) Q (fun s => VH m_L_law_ w g (kc + 20) (ks + 120) Q 2895 [some (.ref b0), some (.ref (wB w + 0)), some (.ref (wB w + 171)), some (.ref (wB w + 183)), some (.int i), none, none] [] s) 2209 [some (.ref b0), some (.ref (wB w + 0)), some (.ref (wB w + 171)), some (.ref (wB w + 183)), some (.int i), none, none] [] σ (J_L_law__2209 n x1 x2 x3 x4 x5 σ) := by
    intro σ
    refine V_goto (pc := 2209) (tgt := 2895) dL_law__2209 (by decide +kernel) ?_
    refine V_widen (kc' := kc + 20) (ks' := ks + 120) (by omega) (by omega) ?_
    exact V_back (fun h => h)
  refine V_aload_n (pc := 2156) dL_law__2156 rfl rfl ?_
  refine V_aload_n (pc := 2157) dL_law__2157 rfl rfl ?_
  refine V_iload (pc := 2158) dL_law__2158 rfl ?_
  refine V_iconst (pc := 2160) dL_law__2160 ic_1 ?_
  refine V_iadd (pc := 2161) dL_law__2161 ?_
  refine V_sld (pc := 2162) hX hb0 hbA hi1 hx1 dL_law__2162 ?_
  refine V_aload_n (pc := 2163) dL_law__2163 rfl rfl ?_
  refine V_callW (pc := 2164) (As := [.ref (wB w + 0), .int x1, .ref (wB w + 183)]) (rest := []) (c_L_shortest w x1 σ) cl_264 rfl rfl dL_law__2164 ⟨by simp only [m_L_law_, m_L_shortest]; omega, by simp only [m_L_law_, m_L_shortest]; omega⟩ rfl rfl (Nat.le_of_ble_eq_true rfl) (by simp only [m_L_law_, m_L_shortest]; omega) (by simp only [m_L_law_, m_L_shortest]; omega) (fun q2164 => ?_)
  show VV m_L_law_ w g (kc + 1) (ks + 6) Q (fun s => VH m_L_law_ w g (kc + 20) (ks + 120) Q 2895 [some (.ref b0), some (.ref (wB w + 0)), some (.ref (wB w + 171)), some (.ref (wB w + 183)), some (.int i), none, none] [] s) 2167 [some (.ref b0), some (.ref (wB w + 0)), some (.ref (wB w + 171)), some (.ref (wB w + 183)), some (.int i), none, none] [.int q2164.1] q2164.2 _
  refine V_istore (pc := 2167) (vs' := [some (.ref b0), some (.ref (wB w + 0)), some (.ref (wB w + 171)), some (.ref (wB w + 183)), some (.int i), some (.int q2164.1), none]) dL_law__2167 (Nat.le_of_ble_eq_true rfl) (Nat.le_of_ble_eq_true rfl) rfl ?_
  refine V_aload_n (pc := 2169) dL_law__2169 rfl rfl ?_
  refine V_aload_n (pc := 2170) dL_law__2170 rfl rfl ?_
  refine V_iload (pc := 2171) dL_law__2171 rfl ?_
  refine V_iconst (pc := 2173) dL_law__2173 ic_1 ?_
  refine V_iadd (pc := 2174) dL_law__2174 ?_
  refine V_sld (pc := 2175) hX hb0 hbA hi1 hx1 dL_law__2175 ?_
  refine V_callVi (pc := 2176) (As := [.int x1]) (rest := []) (c_X12_shortest w x1 q2164.2) cw_L_266 rfl rfl dL_law__2176 kc_171 ci_12 ⟨by simp only [m_L_law_, m_X12_shortest]; omega, by simp only [m_L_law_, m_X12_shortest]; omega⟩ rfl rfl (Nat.le_of_ble_eq_true rfl) (by simp only [m_L_law_]; omega) (by simp only [m_L_law_]; omega) rfl (fun q2176 => ?_)
  refine V_istore (pc := 2179) (vs' := [some (.ref b0), some (.ref (wB w + 0)), some (.ref (wB w + 171)), some (.ref (wB w + 183)), some (.int i), some (.int q2164.1), some (.int q2176.1)]) dL_law__2179 (Nat.le_of_ble_eq_true rfl) (Nat.le_of_ble_eq_true rfl) rfl ?_
  refine V_aload_n (pc := 2181) dL_law__2181 rfl rfl ?_
  refine V_callVpi (pc := 2182) (As := []) (rest := []) (c_X12_thrown w  q2176.2) cw_L_150 rfl rfl dL_law__2182 kc_171 ci_12 ⟨by simp only [m_L_law_, m_X12_thrown]; omega, by simp only [m_L_law_, m_X12_thrown]; omega⟩ rfl rfl (Nat.le_of_ble_eq_true rfl) (by simp only [m_L_law_]; omega) (by simp only [m_L_law_]; omega) rfl (fun q2182 => ?_)
  refine V_iload (pc := 2185) dL_law__2185 rfl ?_
  refine V_icmp_eq (pc := 2187) (tgt := 2192) dL_law__2187 (by decide +kernel) ?_ ?_
  · refine V_iload (pc := 2192) dL_law__2192 rfl ?_
    refine V_if_ne (pc := 2194) (tgt := 2209) dL_law__2194 (by decide +kernel) ?_ ?_
    · refine V_sub (vs' := [some (.ref b0), some (.ref (wB w + 0)), some (.ref (wB w + 171)), some (.ref (wB w + 183)), some (.int i), none, none]) (show vless _ _ from ⟨rfl, ⟨rfl, ⟨rfl, ⟨rfl, ⟨rfl, trivial⟩⟩⟩⟩⟩) rfl ?_
      exact hJ2209 q2176.2
    · refine V_aload_n (pc := 2197) dL_law__2197 rfl rfl ?_
      refine V_iconst (pc := 2198) dL_law__2198 ic_0 ?_
      refine V_lald (pc := 2199) dL_law__2199 ?_
      refine V_iload (pc := 2200) dL_law__2200 rfl ?_
      refine V_i2l (pc := 2202) dL_law__2202 ?_
      refine V_lcmpeq (pc := 2203) (tgt := 2209) dL_law__2203 dL_law__2204 (by decide) ?_ ?_
      · refine V_sub (vs' := [some (.ref b0), some (.ref (wB w + 0)), some (.ref (wB w + 171)), some (.ref (wB w + 183)), some (.int i), none, none]) (show vless _ _ from ⟨rfl, ⟨rfl, ⟨rfl, ⟨rfl, ⟨rfl, trivial⟩⟩⟩⟩⟩) rfl ?_
        exact hJ2209 q2176.2
      · refine V_iconst (pc := 2207) dL_law__2207 ic_0 ?_
        exact V_none
  · refine V_iconst (pc := 2190) dL_law__2190 ic_0 ?_
    exact V_none
theorem cl_267 : csw RL 267 m_L_alibi [(0, 9, 12, 24)] 3 := ⟨goodIn_of _ (by decide +kernel), by decide +kernel, by decide +kernel, by decide +kernel⟩
theorem wm_X12_alibi : wmp m_X12_alibi 1 := ⟨gx 2104 (by decide +kernel) (by decide +kernel), gx 2105 (by decide +kernel) (by decide +kernel), gx 138 (by decide +kernel) (by decide +kernel), gx 2106 (by decide +kernel) (by decide +kernel), by decide +kernel, by decide +kernel, by decide +kernel⟩
theorem cw_L_269 : cwp RL 269 m_X12_alibi 1 := cwp_of wm_X12_alibi (gx 2103 (by decide +kernel) (by decide +kernel))
def J_L_law__2265 (n : Nat) (x1 x2 x3 x4 x5 : Int32) (σ : MS) : Option (MS) := some σ
def step_36 (n : Nat) (x1 x2 x3 x4 x5 : Int32) (σ : MS) : Option MS := ((f_L_alibi n x1 σ).bind (fun q2220 => ((f_X12_alibi n x1 q2220.2).bind (fun q2232 => ((f_X12_thrown  q2232.2).bind (fun q2238 => (if q2238 = q2220.1 then (if q2220.1 = 0 then (if (q2232.2 183 0) = q2232.1 then J_L_law__2265 n x1 x2 x3 x4 x5 q2232.2 else none) else J_L_law__2265 n x1 x2 x3 x4 x5 q2232.2) else none)))))))
set_option maxRecDepth 20000 in
set_option maxHeartbeats 2000000 in
theorem v_case_36 (w : TG) (g : VG) (kc ks : Nat) (Q : State → Prop) (n b0 L : Nat) (xs : Nat → Int32) (i x1 x2 x3 x4 x5 : Int32) (hkc : kc + 40 ≤ 601024) (hks : ks + 240 ≤ 7293034) (hX : va_X b0 L xs (gS g) (gS g).heap) (hb0 : b0 < (gS g).heap.size) (hbA : ¬ wA w b0) (hi1 : inb (i + (1 : Int32)) L = true) (hx1 : xs (ix (i + (1 : Int32))) = x1) (hi2 : inb (i + (2 : Int32)) L = true) (hx2 : xs (ix (i + (2 : Int32))) = x2) (hi3 : inb (i + (3 : Int32)) L = true) (hx3 : xs (ix (i + (3 : Int32))) = x3) (hi4 : inb (i + (4 : Int32)) L = true) (hx4 : xs (ix (i + (4 : Int32))) = x4) (hi5 : inb (i + (5 : Int32)) L = true) (hx5 : xs (ix (i + (5 : Int32))) = x5) (σ : MS) : VV m_L_law_ w g kc ks Q (fun s => VH m_L_law_ w g (kc + 20) (ks + 120) Q 2895 [some (.ref b0), some (.ref (wB w + 0)), some (.ref (wB w + 171)), some (.ref (wB w + 183)), some (.int i), none, none] [] s) 2212 [some (.ref b0), some (.ref (wB w + 0)), some (.ref (wB w + 171)), some (.ref (wB w + 183)), some (.int i), none, none] [] σ (step_36 n x1 x2 x3 x4 x5 σ) := by
  unfold step_36
  have hJ2265 : ∀ (σ : MS), VV m_L_law_ w g (kc + 1) (ks + 6) Q (fun s => VH m_L_law_ w g (kc + 20) (ks + 120) Q 2895 [some (.ref b0), some (.ref (wB w + 0)), some (.ref (wB w + 171)), some (.ref (wB w + 183)), some (.int i), none, none] [] s) 2265 [some (.ref b0), some (.ref (wB w + 0)), some (.ref (wB w + 171)), some (.ref (wB w + 183)), some (.int i), none, none] [] σ (J_L_law__2265 n x1 x2 x3 x4 x5 σ) := by
    intro σ
    refine V_goto (pc := 2265) (tgt := 2895) dL_law__2265 (by decide +kernel) ?_
    refine V_widen (kc' := kc + 20) (ks' := ks + 120) (by omega) (by omega) ?_
    exact V_back (fun h => h)
  refine V_aload_n (pc := 2212) dL_law__2212 rfl rfl ?_
  refine V_aload_n (pc := 2213) dL_law__2213 rfl rfl ?_
  refine V_iload (pc := 2214) dL_law__2214 rfl ?_
  refine V_iconst (pc := 2216) dL_law__2216 ic_1 ?_
  refine V_iadd (pc := 2217) dL_law__2217 ?_
  refine V_sld (pc := 2218) hX hb0 hbA hi1 hx1 dL_law__2218 ?_
  refine V_aload_n (pc := 2219) dL_law__2219 rfl rfl ?_
  refine V_callW (pc := 2220) (As := [.ref (wB w + 0), .int x1, .ref (wB w + 183)]) (rest := []) (c_L_alibi w n x1 σ) cl_267 rfl rfl dL_law__2220 ⟨by simp only [m_L_law_, m_L_alibi]; omega, by simp only [m_L_law_, m_L_alibi]; omega⟩ rfl rfl (Nat.le_of_ble_eq_true rfl) (by simp only [m_L_law_, m_L_alibi]; omega) (by simp only [m_L_law_, m_L_alibi]; omega) (fun q2220 => ?_)
  show VV m_L_law_ w g (kc + 1) (ks + 6) Q (fun s => VH m_L_law_ w g (kc + 20) (ks + 120) Q 2895 [some (.ref b0), some (.ref (wB w + 0)), some (.ref (wB w + 171)), some (.ref (wB w + 183)), some (.int i), none, none] [] s) 2223 [some (.ref b0), some (.ref (wB w + 0)), some (.ref (wB w + 171)), some (.ref (wB w + 183)), some (.int i), none, none] [.int q2220.1] q2220.2 _
  refine V_istore (pc := 2223) (vs' := [some (.ref b0), some (.ref (wB w + 0)), some (.ref (wB w + 171)), some (.ref (wB w + 183)), some (.int i), some (.int q2220.1), none]) dL_law__2223 (Nat.le_of_ble_eq_true rfl) (Nat.le_of_ble_eq_true rfl) rfl ?_
  refine V_aload_n (pc := 2225) dL_law__2225 rfl rfl ?_
  refine V_aload_n (pc := 2226) dL_law__2226 rfl rfl ?_
  refine V_iload (pc := 2227) dL_law__2227 rfl ?_
  refine V_iconst (pc := 2229) dL_law__2229 ic_1 ?_
  refine V_iadd (pc := 2230) dL_law__2230 ?_
  refine V_sld (pc := 2231) hX hb0 hbA hi1 hx1 dL_law__2231 ?_
  refine V_callVi (pc := 2232) (As := [.int x1]) (rest := []) (c_X12_alibi w n x1 q2220.2) cw_L_269 rfl rfl dL_law__2232 kc_171 ci_12 ⟨by simp only [m_L_law_, m_X12_alibi]; omega, by simp only [m_L_law_, m_X12_alibi]; omega⟩ rfl rfl (Nat.le_of_ble_eq_true rfl) (by simp only [m_L_law_]; omega) (by simp only [m_L_law_]; omega) rfl (fun q2232 => ?_)
  refine V_istore (pc := 2235) (vs' := [some (.ref b0), some (.ref (wB w + 0)), some (.ref (wB w + 171)), some (.ref (wB w + 183)), some (.int i), some (.int q2220.1), some (.int q2232.1)]) dL_law__2235 (Nat.le_of_ble_eq_true rfl) (Nat.le_of_ble_eq_true rfl) rfl ?_
  refine V_aload_n (pc := 2237) dL_law__2237 rfl rfl ?_
  refine V_callVpi (pc := 2238) (As := []) (rest := []) (c_X12_thrown w  q2232.2) cw_L_150 rfl rfl dL_law__2238 kc_171 ci_12 ⟨by simp only [m_L_law_, m_X12_thrown]; omega, by simp only [m_L_law_, m_X12_thrown]; omega⟩ rfl rfl (Nat.le_of_ble_eq_true rfl) (by simp only [m_L_law_]; omega) (by simp only [m_L_law_]; omega) rfl (fun q2238 => ?_)
  refine V_iload (pc := 2241) dL_law__2241 rfl ?_
  refine V_icmp_eq (pc := 2243) (tgt := 2248) dL_law__2243 (by decide +kernel) ?_ ?_
  · refine V_iload (pc := 2248) dL_law__2248 rfl ?_
    refine V_if_ne (pc := 2250) (tgt := 2265) dL_law__2250 (by decide +kernel) ?_ ?_
    · refine V_sub (vs' := [some (.ref b0), some (.ref (wB w + 0)), some (.ref (wB w + 171)), some (.ref (wB w + 183)), some (.int i), none, none]) (show vless _ _ from ⟨rfl, ⟨rfl, ⟨rfl, ⟨rfl, ⟨rfl, trivial⟩⟩⟩⟩⟩) rfl ?_
      exact hJ2265 q2232.2
    · refine V_aload_n (pc := 2253) dL_law__2253 rfl rfl ?_
      refine V_iconst (pc := 2254) dL_law__2254 ic_0 ?_
      refine V_lald (pc := 2255) dL_law__2255 ?_
      refine V_iload (pc := 2256) dL_law__2256 rfl ?_
      refine V_i2l (pc := 2258) dL_law__2258 ?_
      refine V_lcmpeq (pc := 2259) (tgt := 2265) dL_law__2259 dL_law__2260 (by decide) ?_ ?_
      · refine V_sub (vs' := [some (.ref b0), some (.ref (wB w + 0)), some (.ref (wB w + 171)), some (.ref (wB w + 183)), some (.int i), none, none]) (show vless _ _ from ⟨rfl, ⟨rfl, ⟨rfl, ⟨rfl, ⟨rfl, trivial⟩⟩⟩⟩⟩) rfl ?_
        exact hJ2265 q2232.2
      · refine V_iconst (pc := 2263) dL_law__2263 ic_0 ?_
        exact V_none
  · refine V_iconst (pc := 2246) dL_law__2246 ic_0 ?_
    exact V_none
theorem cl_270 : csw RL 270 m_L_odds [(0, 10, 13, 24), (0, 10, 17, 13)] 4 := ⟨goodIn_of _ (by decide +kernel), by decide +kernel, by decide +kernel, by decide +kernel⟩
theorem wm_X12_odds : wmp m_X12_odds 2 := ⟨gx 2108 (by decide +kernel) (by decide +kernel), gx 2109 (by decide +kernel) (by decide +kernel), gx 138 (by decide +kernel) (by decide +kernel), gx 2110 (by decide +kernel) (by decide +kernel), by decide +kernel, by decide +kernel, by decide +kernel⟩
theorem cw_L_272 : cwp RL 272 m_X12_odds 2 := cwp_of wm_X12_odds (gx 2107 (by decide +kernel) (by decide +kernel))
def J_L_law__2333 (n : Nat) (x1 x2 x3 x4 x5 : Int32) (σ : MS) : Option (MS) := some σ
def step_37 (n : Nat) (x1 x2 x3 x4 x5 : Int32) (σ : MS) : Option MS := ((f_L_odds n x1 x2 σ).bind (fun q2282 => ((f_X12_odds n x1 x2 q2282.2).bind (fun q2300 => ((f_X12_thrown  q2300.2).bind (fun q2306 => (if q2306 = q2282.1 then (if q2282.1 = 0 then (if (q2300.2 183 0) = q2300.1 then J_L_law__2333 n x1 x2 x3 x4 x5 q2300.2 else none) else J_L_law__2333 n x1 x2 x3 x4 x5 q2300.2) else none)))))))
set_option maxRecDepth 20000 in
set_option maxHeartbeats 2000000 in
theorem v_case_37 (w : TG) (g : VG) (kc ks : Nat) (Q : State → Prop) (n b0 L : Nat) (xs : Nat → Int32) (i x1 x2 x3 x4 x5 : Int32) (hkc : kc + 40 ≤ 601024) (hks : ks + 240 ≤ 7293034) (hX : va_X b0 L xs (gS g) (gS g).heap) (hb0 : b0 < (gS g).heap.size) (hbA : ¬ wA w b0) (hi1 : inb (i + (1 : Int32)) L = true) (hx1 : xs (ix (i + (1 : Int32))) = x1) (hi2 : inb (i + (2 : Int32)) L = true) (hx2 : xs (ix (i + (2 : Int32))) = x2) (hi3 : inb (i + (3 : Int32)) L = true) (hx3 : xs (ix (i + (3 : Int32))) = x3) (hi4 : inb (i + (4 : Int32)) L = true) (hx4 : xs (ix (i + (4 : Int32))) = x4) (hi5 : inb (i + (5 : Int32)) L = true) (hx5 : xs (ix (i + (5 : Int32))) = x5) (σ : MS) : VV m_L_law_ w g kc ks Q (fun s => VH m_L_law_ w g (kc + 20) (ks + 120) Q 2895 [some (.ref b0), some (.ref (wB w + 0)), some (.ref (wB w + 171)), some (.ref (wB w + 183)), some (.int i), none, none] [] s) 2268 [some (.ref b0), some (.ref (wB w + 0)), some (.ref (wB w + 171)), some (.ref (wB w + 183)), some (.int i), none, none] [] σ (step_37 n x1 x2 x3 x4 x5 σ) := by
  unfold step_37
  have hJ2333 : ∀ (σ : MS), VV m_L_law_ w g (kc + 3) (ks + 18) Q (fun s => VH m_L_law_ w g (kc + 20) (ks + 120) Q 2895 [some (.ref b0), some (.ref (wB w + 0)), some (.ref (wB w + 171)), some (.ref (wB w + 183)), some (.int i), none, none] [] s) 2333 [some (.ref b0), some (.ref (wB w + 0)), some (.ref (wB w + 171)), some (.ref (wB w + 183)), some (.int i), none, none] [] σ (J_L_law__2333 n x1 x2 x3 x4 x5 σ) := by
    intro σ
    refine V_goto (pc := 2333) (tgt := 2895) dL_law__2333 (by decide +kernel) ?_
    refine V_widen (kc' := kc + 20) (ks' := ks + 120) (by omega) (by omega) ?_
    exact V_back (fun h => h)
  refine V_aload_n (pc := 2268) dL_law__2268 rfl rfl ?_
  refine V_aload_n (pc := 2269) dL_law__2269 rfl rfl ?_
  refine V_iload (pc := 2270) dL_law__2270 rfl ?_
  refine V_iconst (pc := 2272) dL_law__2272 ic_1 ?_
  refine V_iadd (pc := 2273) dL_law__2273 ?_
  refine V_sld (pc := 2274) hX hb0 hbA hi1 hx1 dL_law__2274 ?_
  refine V_aload_n (pc := 2275) dL_law__2275 rfl rfl ?_
  refine V_iload (pc := 2276) dL_law__2276 rfl ?_
  refine V_iconst (pc := 2278) dL_law__2278 ic_2 ?_
  refine V_iadd (pc := 2279) dL_law__2279 ?_
  refine V_sld (pc := 2280) hX hb0 hbA hi2 hx2 dL_law__2280 ?_
  refine V_aload_n (pc := 2281) dL_law__2281 rfl rfl ?_
  refine V_callW (pc := 2282) (As := [.ref (wB w + 0), .int x1, .int x2, .ref (wB w + 183)]) (rest := []) (c_L_odds w n x1 x2 σ) cl_270 rfl rfl dL_law__2282 ⟨by simp only [m_L_law_, m_L_odds]; omega, by simp only [m_L_law_, m_L_odds]; omega⟩ rfl rfl (Nat.le_of_ble_eq_true rfl) (by simp only [m_L_law_, m_L_odds]; omega) (by simp only [m_L_law_, m_L_odds]; omega) (fun q2282 => ?_)
  show VV m_L_law_ w g (kc + 3) (ks + 18) Q (fun s => VH m_L_law_ w g (kc + 20) (ks + 120) Q 2895 [some (.ref b0), some (.ref (wB w + 0)), some (.ref (wB w + 171)), some (.ref (wB w + 183)), some (.int i), none, none] [] s) 2285 [some (.ref b0), some (.ref (wB w + 0)), some (.ref (wB w + 171)), some (.ref (wB w + 183)), some (.int i), none, none] [.int q2282.1] q2282.2 _
  refine V_istore (pc := 2285) (vs' := [some (.ref b0), some (.ref (wB w + 0)), some (.ref (wB w + 171)), some (.ref (wB w + 183)), some (.int i), some (.int q2282.1), none]) dL_law__2285 (Nat.le_of_ble_eq_true rfl) (Nat.le_of_ble_eq_true rfl) rfl ?_
  refine V_aload_n (pc := 2287) dL_law__2287 rfl rfl ?_
  refine V_aload_n (pc := 2288) dL_law__2288 rfl rfl ?_
  refine V_iload (pc := 2289) dL_law__2289 rfl ?_
  refine V_iconst (pc := 2291) dL_law__2291 ic_1 ?_
  refine V_iadd (pc := 2292) dL_law__2292 ?_
  refine V_sld (pc := 2293) hX hb0 hbA hi1 hx1 dL_law__2293 ?_
  refine V_aload_n (pc := 2294) dL_law__2294 rfl rfl ?_
  refine V_iload (pc := 2295) dL_law__2295 rfl ?_
  refine V_iconst (pc := 2297) dL_law__2297 ic_2 ?_
  refine V_iadd (pc := 2298) dL_law__2298 ?_
  refine V_sld (pc := 2299) hX hb0 hbA hi2 hx2 dL_law__2299 ?_
  refine V_callVi (pc := 2300) (As := [.int x1, .int x2]) (rest := []) (c_X12_odds w n x1 x2 q2282.2) cw_L_272 rfl rfl dL_law__2300 kc_171 ci_12 ⟨by simp only [m_L_law_, m_X12_odds]; omega, by simp only [m_L_law_, m_X12_odds]; omega⟩ rfl rfl (Nat.le_of_ble_eq_true rfl) (by simp only [m_L_law_]; omega) (by simp only [m_L_law_]; omega) rfl (fun q2300 => ?_)
  refine V_istore (pc := 2303) (vs' := [some (.ref b0), some (.ref (wB w + 0)), some (.ref (wB w + 171)), some (.ref (wB w + 183)), some (.int i), some (.int q2282.1), some (.int q2300.1)]) dL_law__2303 (Nat.le_of_ble_eq_true rfl) (Nat.le_of_ble_eq_true rfl) rfl ?_
  refine V_aload_n (pc := 2305) dL_law__2305 rfl rfl ?_
  refine V_callVpi (pc := 2306) (As := []) (rest := []) (c_X12_thrown w  q2300.2) cw_L_150 rfl rfl dL_law__2306 kc_171 ci_12 ⟨by simp only [m_L_law_, m_X12_thrown]; omega, by simp only [m_L_law_, m_X12_thrown]; omega⟩ rfl rfl (Nat.le_of_ble_eq_true rfl) (by simp only [m_L_law_]; omega) (by simp only [m_L_law_]; omega) rfl (fun q2306 => ?_)
  refine V_iload (pc := 2309) dL_law__2309 rfl ?_
  refine V_icmp_eq (pc := 2311) (tgt := 2316) dL_law__2311 (by decide +kernel) ?_ ?_
  · refine V_iload (pc := 2316) dL_law__2316 rfl ?_
    refine V_if_ne (pc := 2318) (tgt := 2333) dL_law__2318 (by decide +kernel) ?_ ?_
    · refine V_sub (vs' := [some (.ref b0), some (.ref (wB w + 0)), some (.ref (wB w + 171)), some (.ref (wB w + 183)), some (.int i), none, none]) (show vless _ _ from ⟨rfl, ⟨rfl, ⟨rfl, ⟨rfl, ⟨rfl, trivial⟩⟩⟩⟩⟩) rfl ?_
      exact hJ2333 q2300.2
    · refine V_aload_n (pc := 2321) dL_law__2321 rfl rfl ?_
      refine V_iconst (pc := 2322) dL_law__2322 ic_0 ?_
      refine V_lald (pc := 2323) dL_law__2323 ?_
      refine V_iload (pc := 2324) dL_law__2324 rfl ?_
      refine V_i2l (pc := 2326) dL_law__2326 ?_
      refine V_lcmpeq (pc := 2327) (tgt := 2333) dL_law__2327 dL_law__2328 (by decide) ?_ ?_
      · refine V_sub (vs' := [some (.ref b0), some (.ref (wB w + 0)), some (.ref (wB w + 171)), some (.ref (wB w + 183)), some (.int i), none, none]) (show vless _ _ from ⟨rfl, ⟨rfl, ⟨rfl, ⟨rfl, ⟨rfl, trivial⟩⟩⟩⟩⟩) rfl ?_
        exact hJ2333 q2300.2
      · refine V_iconst (pc := 2331) dL_law__2331 ic_0 ?_
        exact V_none
  · refine V_iconst (pc := 2314) dL_law__2314 ic_0 ?_
    exact V_none
theorem wm_X12_ahead : wmp m_X12_ahead 3 := ⟨gx 2048 (by decide +kernel) (by decide +kernel), gx 2049 (by decide +kernel) (by decide +kernel), gx 138 (by decide +kernel) (by decide +kernel), gx 2050 (by decide +kernel) (by decide +kernel), by decide +kernel, by decide +kernel, by decide +kernel⟩
theorem cw_L_275 : cwp RL 275 m_X12_ahead 3 := cwp_of wm_X12_ahead (gx 2047 (by decide +kernel) (by decide +kernel))
theorem cl_273 : csw RL 273 m_L_ahead [(0, 12, 15, 24), (0, 12, 19, 13)] 5 := ⟨goodIn_of _ (by decide +kernel), by decide +kernel, by decide +kernel, by decide +kernel⟩
def J_L_law__2429 (n : Nat) (x1 x2 x3 x4 x5 : Int32) (σ : MS) : Option (MS) := some σ
def J_L_law__2396 (n : Nat) (v5 : Int32) (x1 x2 x3 x4 x5 : Int32) (t0 : Int32) (t1 : Int32) (t2 : Int32) (σ : MS) : Option (MS) := ((f_X12_ahead n t2 t1 t0 σ).bind (fun q2396 => ((f_X12_thrown  q2396.2).bind (fun q2402 => (if q2402 = v5 then (if v5 = 0 then (if (q2396.2 183 0) = q2396.1 then J_L_law__2429 n x1 x2 x3 x4 x5 q2396.2 else none) else J_L_law__2429 n x1 x2 x3 x4 x5 q2396.2) else none)))))
def J_L_law__2363 (n : Nat) (x1 x2 x3 x4 x5 : Int32) (t0 : Int32) (t1 : Int32) (t2 : Int32) (σ : MS) : Option (MS) := ((f_L_ahead n t2 t1 t0 σ).bind (fun q2364 => (if x3 = 0 then J_L_law__2396 n q2364.1 x1 x2 x3 x4 x5 (0 : Int32) x2 x1 q2364.2 else J_L_law__2396 n q2364.1 x1 x2 x3 x4 x5 (1 : Int32) x2 x1 q2364.2)))
def step_38 (n : Nat) (x1 x2 x3 x4 x5 : Int32) (σ : MS) : Option MS := (if x3 = 0 then J_L_law__2363 n x1 x2 x3 x4 x5 (0 : Int32) x2 x1 σ else J_L_law__2363 n x1 x2 x3 x4 x5 (1 : Int32) x2 x1 σ)
set_option maxRecDepth 20000 in
set_option maxHeartbeats 2000000 in
theorem v_case_38 (w : TG) (g : VG) (kc ks : Nat) (Q : State → Prop) (n b0 L : Nat) (xs : Nat → Int32) (i x1 x2 x3 x4 x5 : Int32) (hkc : kc + 40 ≤ 601024) (hks : ks + 240 ≤ 7293034) (hX : va_X b0 L xs (gS g) (gS g).heap) (hb0 : b0 < (gS g).heap.size) (hbA : ¬ wA w b0) (hi1 : inb (i + (1 : Int32)) L = true) (hx1 : xs (ix (i + (1 : Int32))) = x1) (hi2 : inb (i + (2 : Int32)) L = true) (hx2 : xs (ix (i + (2 : Int32))) = x2) (hi3 : inb (i + (3 : Int32)) L = true) (hx3 : xs (ix (i + (3 : Int32))) = x3) (hi4 : inb (i + (4 : Int32)) L = true) (hx4 : xs (ix (i + (4 : Int32))) = x4) (hi5 : inb (i + (5 : Int32)) L = true) (hx5 : xs (ix (i + (5 : Int32))) = x5) (σ : MS) : VV m_L_law_ w g kc ks Q (fun s => VH m_L_law_ w g (kc + 20) (ks + 120) Q 2895 [some (.ref b0), some (.ref (wB w + 0)), some (.ref (wB w + 171)), some (.ref (wB w + 183)), some (.int i), none, none] [] s) 2336 [some (.ref b0), some (.ref (wB w + 0)), some (.ref (wB w + 171)), some (.ref (wB w + 183)), some (.int i), none, none] [] σ (step_38 n x1 x2 x3 x4 x5 σ) := by
  unfold step_38
  have hJ2429 : ∀ (σ : MS), VV m_L_law_ w g (kc + 2) (ks + 12) Q (fun s => VH m_L_law_ w g (kc + 20) (ks + 120) Q 2895 [some (.ref b0), some (.ref (wB w + 0)), some (.ref (wB w + 171)), some (.ref (wB w + 183)), some (.int i), none, none] [] s) 2429 [some (.ref b0), some (.ref (wB w + 0)), some (.ref (wB w + 171)), some (.ref (wB w + 183)), some (.int i), none, none] [] σ (J_L_law__2429 n x1 x2 x3 x4 x5 σ) := by
    intro σ
    refine V_goto (pc := 2429) (tgt := 2895) dL_law__2429 (by decide +kernel) ?_
    refine V_widen (kc' := kc + 20) (ks' := ks + 120) (by omega) (by omega) ?_
    exact V_back (fun h => h)
  have hJ2396 : ∀ (v5 : Int32) (t0 : Int32) (t1 : Int32) (t2 : Int32) (σ : MS), VV m_L_law_ w g (kc + 2) (ks + 12) Q (fun s => VH m_L_law_ w g (kc + 20) (ks + 120) Q 2895 [some (.ref b0), some (.ref (wB w + 0)), some (.ref (wB w + 171)), some (.ref (wB w + 183)), some (.int i), none, none] [] s) 2396 [some (.ref b0), some (.ref (wB w + 0)), some (.ref (wB w + 171)), some (.ref (wB w + 183)), some (.int i), some (.int v5), none] [.int t0, .int t1, .int t2, .ref (wB w + 171)] σ (J_L_law__2396 n v5 x1 x2 x3 x4 x5 t0 t1 t2 σ) := by
    intro v5 t0 t1 t2 σ
    refine V_callVi (pc := 2396) (As := [.int t2, .int t1, .int t0]) (rest := []) (c_X12_ahead w n t2 t1 t0 σ) cw_L_275 rfl rfl dL_law__2396 kc_171 ci_12 ⟨by simp only [m_L_law_, m_X12_ahead]; omega, by simp only [m_L_law_, m_X12_ahead]; omega⟩ rfl rfl (Nat.le_of_ble_eq_true rfl) (by simp only [m_L_law_]; omega) (by simp only [m_L_law_]; omega) rfl (fun q2396 => ?_)
    refine V_istore (pc := 2399) (vs' := [some (.ref b0), some (.ref (wB w + 0)), some (.ref (wB w + 171)), some (.ref (wB w + 183)), some (.int i), some (.int v5), some (.int q2396.1)]) dL_law__2399 (Nat.le_of_ble_eq_true rfl) (Nat.le_of_ble_eq_true rfl) rfl ?_
    refine V_aload_n (pc := 2401) dL_law__2401 rfl rfl ?_
    refine V_callVpi (pc := 2402) (As := []) (rest := []) (c_X12_thrown w  q2396.2) cw_L_150 rfl rfl dL_law__2402 kc_171 ci_12 ⟨by simp only [m_L_law_, m_X12_thrown]; omega, by simp only [m_L_law_, m_X12_thrown]; omega⟩ rfl rfl (Nat.le_of_ble_eq_true rfl) (by simp only [m_L_law_]; omega) (by simp only [m_L_law_]; omega) rfl (fun q2402 => ?_)
    refine V_iload (pc := 2405) dL_law__2405 rfl ?_
    refine V_icmp_eq (pc := 2407) (tgt := 2412) dL_law__2407 (by decide +kernel) ?_ ?_
    · refine V_iload (pc := 2412) dL_law__2412 rfl ?_
      refine V_if_ne (pc := 2414) (tgt := 2429) dL_law__2414 (by decide +kernel) ?_ ?_
      · refine V_sub (vs' := [some (.ref b0), some (.ref (wB w + 0)), some (.ref (wB w + 171)), some (.ref (wB w + 183)), some (.int i), none, none]) (show vless _ _ from ⟨rfl, ⟨rfl, ⟨rfl, ⟨rfl, ⟨rfl, trivial⟩⟩⟩⟩⟩) rfl ?_
        exact hJ2429 q2396.2
      · refine V_aload_n (pc := 2417) dL_law__2417 rfl rfl ?_
        refine V_iconst (pc := 2418) dL_law__2418 ic_0 ?_
        refine V_lald (pc := 2419) dL_law__2419 ?_
        refine V_iload (pc := 2420) dL_law__2420 rfl ?_
        refine V_i2l (pc := 2422) dL_law__2422 ?_
        refine V_lcmpeq (pc := 2423) (tgt := 2429) dL_law__2423 dL_law__2424 (by decide) ?_ ?_
        · refine V_sub (vs' := [some (.ref b0), some (.ref (wB w + 0)), some (.ref (wB w + 171)), some (.ref (wB w + 183)), some (.int i), none, none]) (show vless _ _ from ⟨rfl, ⟨rfl, ⟨rfl, ⟨rfl, ⟨rfl, trivial⟩⟩⟩⟩⟩) rfl ?_
          exact hJ2429 q2396.2
        · refine V_iconst (pc := 2427) dL_law__2427 ic_0 ?_
          exact V_none
    · refine V_iconst (pc := 2410) dL_law__2410 ic_0 ?_
      exact V_none
  have hJ2363 : ∀ (t0 : Int32) (t1 : Int32) (t2 : Int32) (σ : MS), VV m_L_law_ w g kc ks Q (fun s => VH m_L_law_ w g (kc + 20) (ks + 120) Q 2895 [some (.ref b0), some (.ref (wB w + 0)), some (.ref (wB w + 171)), some (.ref (wB w + 183)), some (.int i), none, none] [] s) 2363 [some (.ref b0), some (.ref (wB w + 0)), some (.ref (wB w + 171)), some (.ref (wB w + 183)), some (.int i), none, none] [.int t0, .int t1, .int t2, .ref (wB w + 0)] σ (J_L_law__2363 n x1 x2 x3 x4 x5 t0 t1 t2 σ) := by
    intro t0 t1 t2 σ
    refine V_aload_n (pc := 2363) dL_law__2363 rfl rfl ?_
    refine V_callW (pc := 2364) (As := [.ref (wB w + 0), .int t2, .int t1, .int t0, .ref (wB w + 183)]) (rest := []) (c_L_ahead w n t2 t1 t0 σ) cl_273 rfl rfl dL_law__2364 ⟨by simp only [m_L_law_, m_L_ahead]; omega, by simp only [m_L_law_, m_L_ahead]; omega⟩ rfl rfl (Nat.le_of_ble_eq_true rfl) (by simp only [m_L_law_, m_L_ahead]; omega) (by simp only [m_L_law_, m_L_ahead]; omega) (fun q2364 => ?_)
    show VV m_L_law_ w g (kc + 2) (ks + 12) Q (fun s => VH m_L_law_ w g (kc + 20) (ks + 120) Q 2895 [some (.ref b0), some (.ref (wB w + 0)), some (.ref (wB w + 171)), some (.ref (wB w + 183)), some (.int i), none, none] [] s) 2367 [some (.ref b0), some (.ref (wB w + 0)), some (.ref (wB w + 171)), some (.ref (wB w + 183)), some (.int i), none, none] [.int q2364.1] q2364.2 _
    refine V_istore (pc := 2367) (vs' := [some (.ref b0), some (.ref (wB w + 0)), some (.ref (wB w + 171)), some (.ref (wB w + 183)), some (.int i), some (.int q2364.1), none]) dL_law__2367 (Nat.le_of_ble_eq_true rfl) (Nat.le_of_ble_eq_true rfl) rfl ?_
    refine V_aload_n (pc := 2369) dL_law__2369 rfl rfl ?_
    refine V_aload_n (pc := 2370) dL_law__2370 rfl rfl ?_
    refine V_iload (pc := 2371) dL_law__2371 rfl ?_
    refine V_iconst (pc := 2373) dL_law__2373 ic_1 ?_
    refine V_iadd (pc := 2374) dL_law__2374 ?_
    refine V_sld (pc := 2375) hX hb0 hbA hi1 hx1 dL_law__2375 ?_
    refine V_aload_n (pc := 2376) dL_law__2376 rfl rfl ?_
    refine V_iload (pc := 2377) dL_law__2377 rfl ?_
    refine V_iconst (pc := 2379) dL_law__2379 ic_2 ?_
    refine V_iadd (pc := 2380) dL_law__2380 ?_
    refine V_sld (pc := 2381) hX hb0 hbA hi2 hx2 dL_law__2381 ?_
    refine V_aload_n (pc := 2382) dL_law__2382 rfl rfl ?_
    refine V_iload (pc := 2383) dL_law__2383 rfl ?_
    refine V_iconst (pc := 2385) dL_law__2385 ic_3 ?_
    refine V_iadd (pc := 2386) dL_law__2386 ?_
    refine V_sld (pc := 2387) hX hb0 hbA hi3 hx3 dL_law__2387 ?_
    refine V_if_eq (pc := 2388) (tgt := 2395) dL_law__2388 (by decide +kernel) ?_ ?_
    · refine V_iconst (pc := 2395) dL_law__2395 ic_0 ?_
      exact hJ2396 q2364.1 (0 : Int32) x2 x1 q2364.2
    · refine V_iconst (pc := 2391) dL_law__2391 ic_1 ?_
      refine V_goto (pc := 2392) (tgt := 2396) dL_law__2392 (by decide +kernel) ?_
      exact hJ2396 q2364.1 (1 : Int32) x2 x1 q2364.2
  refine V_aload_n (pc := 2336) dL_law__2336 rfl rfl ?_
  refine V_aload_n (pc := 2337) dL_law__2337 rfl rfl ?_
  refine V_iload (pc := 2338) dL_law__2338 rfl ?_
  refine V_iconst (pc := 2340) dL_law__2340 ic_1 ?_
  refine V_iadd (pc := 2341) dL_law__2341 ?_
  refine V_sld (pc := 2342) hX hb0 hbA hi1 hx1 dL_law__2342 ?_
  refine V_aload_n (pc := 2343) dL_law__2343 rfl rfl ?_
  refine V_iload (pc := 2344) dL_law__2344 rfl ?_
  refine V_iconst (pc := 2346) dL_law__2346 ic_2 ?_
  refine V_iadd (pc := 2347) dL_law__2347 ?_
  refine V_sld (pc := 2348) hX hb0 hbA hi2 hx2 dL_law__2348 ?_
  refine V_aload_n (pc := 2349) dL_law__2349 rfl rfl ?_
  refine V_iload (pc := 2350) dL_law__2350 rfl ?_
  refine V_iconst (pc := 2352) dL_law__2352 ic_3 ?_
  refine V_iadd (pc := 2353) dL_law__2353 ?_
  refine V_sld (pc := 2354) hX hb0 hbA hi3 hx3 dL_law__2354 ?_
  refine V_if_eq (pc := 2355) (tgt := 2362) dL_law__2355 (by decide +kernel) ?_ ?_
  · refine V_iconst (pc := 2362) dL_law__2362 ic_0 ?_
    exact hJ2363 (0 : Int32) x2 x1 σ
  · refine V_iconst (pc := 2358) dL_law__2358 ic_1 ?_
    refine V_goto (pc := 2359) (tgt := 2363) dL_law__2359 (by decide +kernel) ?_
    exact hJ2363 (1 : Int32) x2 x1 σ
theorem cl_276 : csw RL 276 m_L_calm [(0, 9, 12, 13)] 3 := ⟨goodIn_of _ (by decide +kernel), by decide +kernel, by decide +kernel, by decide +kernel⟩
theorem wm_X12_calm : wmp m_X12_calm 1 := ⟨gx 2052 (by decide +kernel) (by decide +kernel), gx 2053 (by decide +kernel) (by decide +kernel), gx 138 (by decide +kernel) (by decide +kernel), gx 2054 (by decide +kernel) (by decide +kernel), by decide +kernel, by decide +kernel, by decide +kernel⟩
theorem cw_L_278 : cwp RL 278 m_X12_calm 1 := cwp_of wm_X12_calm (gx 2051 (by decide +kernel) (by decide +kernel))
def J_L_law__2485 (n : Nat) (x1 x2 x3 x4 x5 : Int32) (σ : MS) : Option (MS) := some σ
def step_39 (n : Nat) (x1 x2 x3 x4 x5 : Int32) (σ : MS) : Option MS := ((f_L_calm n x1 σ).bind (fun q2440 => ((f_X12_calm n x1 q2440.2).bind (fun q2452 => ((f_X12_thrown  q2452.2).bind (fun q2458 => (if q2458 = q2440.1 then (if q2440.1 = 0 then (if (q2452.2 183 0) = q2452.1 then J_L_law__2485 n x1 x2 x3 x4 x5 q2452.2 else none) else J_L_law__2485 n x1 x2 x3 x4 x5 q2452.2) else none)))))))
set_option maxRecDepth 20000 in
set_option maxHeartbeats 2000000 in
theorem v_case_39 (w : TG) (g : VG) (kc ks : Nat) (Q : State → Prop) (n b0 L : Nat) (xs : Nat → Int32) (i x1 x2 x3 x4 x5 : Int32) (hkc : kc + 40 ≤ 601024) (hks : ks + 240 ≤ 7293034) (hX : va_X b0 L xs (gS g) (gS g).heap) (hb0 : b0 < (gS g).heap.size) (hbA : ¬ wA w b0) (hi1 : inb (i + (1 : Int32)) L = true) (hx1 : xs (ix (i + (1 : Int32))) = x1) (hi2 : inb (i + (2 : Int32)) L = true) (hx2 : xs (ix (i + (2 : Int32))) = x2) (hi3 : inb (i + (3 : Int32)) L = true) (hx3 : xs (ix (i + (3 : Int32))) = x3) (hi4 : inb (i + (4 : Int32)) L = true) (hx4 : xs (ix (i + (4 : Int32))) = x4) (hi5 : inb (i + (5 : Int32)) L = true) (hx5 : xs (ix (i + (5 : Int32))) = x5) (σ : MS) : VV m_L_law_ w g kc ks Q (fun s => VH m_L_law_ w g (kc + 20) (ks + 120) Q 2895 [some (.ref b0), some (.ref (wB w + 0)), some (.ref (wB w + 171)), some (.ref (wB w + 183)), some (.int i), none, none] [] s) 2432 [some (.ref b0), some (.ref (wB w + 0)), some (.ref (wB w + 171)), some (.ref (wB w + 183)), some (.int i), none, none] [] σ (step_39 n x1 x2 x3 x4 x5 σ) := by
  unfold step_39
  have hJ2485 : ∀ (σ : MS), VV m_L_law_ w g (kc + 1) (ks + 6) Q (fun s => VH m_L_law_ w g (kc + 20) (ks + 120) Q 2895 [some (.ref b0), some (.ref (wB w + 0)), some (.ref (wB w + 171)), some (.ref (wB w + 183)), some (.int i), none, none] [] s) 2485 [some (.ref b0), some (.ref (wB w + 0)), some (.ref (wB w + 171)), some (.ref (wB w + 183)), some (.int i), none, none] [] σ (J_L_law__2485 n x1 x2 x3 x4 x5 σ) := by
    intro σ
    refine V_goto (pc := 2485) (tgt := 2895) dL_law__2485 (by decide +kernel) ?_
    refine V_widen (kc' := kc + 20) (ks' := ks + 120) (by omega) (by omega) ?_
    exact V_back (fun h => h)
  refine V_aload_n (pc := 2432) dL_law__2432 rfl rfl ?_
  refine V_aload_n (pc := 2433) dL_law__2433 rfl rfl ?_
  refine V_iload (pc := 2434) dL_law__2434 rfl ?_
  refine V_iconst (pc := 2436) dL_law__2436 ic_1 ?_
  refine V_iadd (pc := 2437) dL_law__2437 ?_
  refine V_sld (pc := 2438) hX hb0 hbA hi1 hx1 dL_law__2438 ?_
  refine V_aload_n (pc := 2439) dL_law__2439 rfl rfl ?_
  refine V_callW (pc := 2440) (As := [.ref (wB w + 0), .int x1, .ref (wB w + 183)]) (rest := []) (c_L_calm w n x1 σ) cl_276 rfl rfl dL_law__2440 ⟨by simp only [m_L_law_, m_L_calm]; omega, by simp only [m_L_law_, m_L_calm]; omega⟩ rfl rfl (Nat.le_of_ble_eq_true rfl) (by simp only [m_L_law_, m_L_calm]; omega) (by simp only [m_L_law_, m_L_calm]; omega) (fun q2440 => ?_)
  show VV m_L_law_ w g (kc + 1) (ks + 6) Q (fun s => VH m_L_law_ w g (kc + 20) (ks + 120) Q 2895 [some (.ref b0), some (.ref (wB w + 0)), some (.ref (wB w + 171)), some (.ref (wB w + 183)), some (.int i), none, none] [] s) 2443 [some (.ref b0), some (.ref (wB w + 0)), some (.ref (wB w + 171)), some (.ref (wB w + 183)), some (.int i), none, none] [.int q2440.1] q2440.2 _
  refine V_istore (pc := 2443) (vs' := [some (.ref b0), some (.ref (wB w + 0)), some (.ref (wB w + 171)), some (.ref (wB w + 183)), some (.int i), some (.int q2440.1), none]) dL_law__2443 (Nat.le_of_ble_eq_true rfl) (Nat.le_of_ble_eq_true rfl) rfl ?_
  refine V_aload_n (pc := 2445) dL_law__2445 rfl rfl ?_
  refine V_aload_n (pc := 2446) dL_law__2446 rfl rfl ?_
  refine V_iload (pc := 2447) dL_law__2447 rfl ?_
  refine V_iconst (pc := 2449) dL_law__2449 ic_1 ?_
  refine V_iadd (pc := 2450) dL_law__2450 ?_
  refine V_sld (pc := 2451) hX hb0 hbA hi1 hx1 dL_law__2451 ?_
  refine V_callVi (pc := 2452) (As := [.int x1]) (rest := []) (c_X12_calm w n x1 q2440.2) cw_L_278 rfl rfl dL_law__2452 kc_171 ci_12 ⟨by simp only [m_L_law_, m_X12_calm]; omega, by simp only [m_L_law_, m_X12_calm]; omega⟩ rfl rfl (Nat.le_of_ble_eq_true rfl) (by simp only [m_L_law_]; omega) (by simp only [m_L_law_]; omega) rfl (fun q2452 => ?_)
  refine V_istore (pc := 2455) (vs' := [some (.ref b0), some (.ref (wB w + 0)), some (.ref (wB w + 171)), some (.ref (wB w + 183)), some (.int i), some (.int q2440.1), some (.int q2452.1)]) dL_law__2455 (Nat.le_of_ble_eq_true rfl) (Nat.le_of_ble_eq_true rfl) rfl ?_
  refine V_aload_n (pc := 2457) dL_law__2457 rfl rfl ?_
  refine V_callVpi (pc := 2458) (As := []) (rest := []) (c_X12_thrown w  q2452.2) cw_L_150 rfl rfl dL_law__2458 kc_171 ci_12 ⟨by simp only [m_L_law_, m_X12_thrown]; omega, by simp only [m_L_law_, m_X12_thrown]; omega⟩ rfl rfl (Nat.le_of_ble_eq_true rfl) (by simp only [m_L_law_]; omega) (by simp only [m_L_law_]; omega) rfl (fun q2458 => ?_)
  refine V_iload (pc := 2461) dL_law__2461 rfl ?_
  refine V_icmp_eq (pc := 2463) (tgt := 2468) dL_law__2463 (by decide +kernel) ?_ ?_
  · refine V_iload (pc := 2468) dL_law__2468 rfl ?_
    refine V_if_ne (pc := 2470) (tgt := 2485) dL_law__2470 (by decide +kernel) ?_ ?_
    · refine V_sub (vs' := [some (.ref b0), some (.ref (wB w + 0)), some (.ref (wB w + 171)), some (.ref (wB w + 183)), some (.int i), none, none]) (show vless _ _ from ⟨rfl, ⟨rfl, ⟨rfl, ⟨rfl, ⟨rfl, trivial⟩⟩⟩⟩⟩) rfl ?_
      exact hJ2485 q2452.2
    · refine V_aload_n (pc := 2473) dL_law__2473 rfl rfl ?_
      refine V_iconst (pc := 2474) dL_law__2474 ic_0 ?_
      refine V_lald (pc := 2475) dL_law__2475 ?_
      refine V_iload (pc := 2476) dL_law__2476 rfl ?_
      refine V_i2l (pc := 2478) dL_law__2478 ?_
      refine V_lcmpeq (pc := 2479) (tgt := 2485) dL_law__2479 dL_law__2480 (by decide) ?_ ?_
      · refine V_sub (vs' := [some (.ref b0), some (.ref (wB w + 0)), some (.ref (wB w + 171)), some (.ref (wB w + 183)), some (.int i), none, none]) (show vless _ _ from ⟨rfl, ⟨rfl, ⟨rfl, ⟨rfl, ⟨rfl, trivial⟩⟩⟩⟩⟩) rfl ?_
        exact hJ2485 q2452.2
      · refine V_iconst (pc := 2483) dL_law__2483 ic_0 ?_
        exact V_none
  · refine V_iconst (pc := 2466) dL_law__2466 ic_0 ?_
    exact V_none
theorem wm_X12_trial : wmp m_X12_trial 2 := ⟨gx 2116 (by decide +kernel) (by decide +kernel), gx 2117 (by decide +kernel) (by decide +kernel), gx 138 (by decide +kernel) (by decide +kernel), gx 2118 (by decide +kernel) (by decide +kernel), by decide +kernel, by decide +kernel, by decide +kernel⟩
theorem cw_L_281 : cwp RL 281 m_X12_trial 2 := cwp_of wm_X12_trial (gx 2115 (by decide +kernel) (by decide +kernel))
theorem cl_279 : csw RL 279 m_L_trial [(0, 10, 13, 13)] 4 := ⟨goodIn_of _ (by decide +kernel), by decide +kernel, by decide +kernel, by decide +kernel⟩
def J_L_law__2569 (n : Nat) (x1 x2 x3 x4 x5 : Int32) (σ : MS) : Option (MS) := some σ
def J_L_law__2536 (n : Nat) (v5 : Int32) (x1 x2 x3 x4 x5 : Int32) (t0 : Int32) (t1 : Int32) (σ : MS) : Option (MS) := ((f_X12_trial n t1 t0 σ).bind (fun q2536 => ((f_X12_thrown  q2536.2).bind (fun q2542 => (if q2542 = v5 then (if v5 = 0 then (if (q2536.2 183 0) = q2536.1 then J_L_law__2569 n x1 x2 x3 x4 x5 q2536.2 else none) else J_L_law__2569 n x1 x2 x3 x4 x5 q2536.2) else none)))))
def J_L_law__2509 (n : Nat) (x1 x2 x3 x4 x5 : Int32) (t0 : Int32) (t1 : Int32) (σ : MS) : Option (MS) := ((f_L_trial n t1 t0 σ).bind (fun q2510 => (if x2 = 0 then J_L_law__2536 n q2510.1 x1 x2 x3 x4 x5 (0 : Int32) x1 q2510.2 else J_L_law__2536 n q2510.1 x1 x2 x3 x4 x5 (1 : Int32) x1 q2510.2)))
def step_40 (n : Nat) (x1 x2 x3 x4 x5 : Int32) (σ : MS) : Option MS := (if x2 = 0 then J_L_law__2509 n x1 x2 x3 x4 x5 (0 : Int32) x1 σ else J_L_law__2509 n x1 x2 x3 x4 x5 (1 : Int32) x1 σ)
set_option maxRecDepth 20000 in
set_option maxHeartbeats 2000000 in
theorem v_case_40 (w : TG) (g : VG) (kc ks : Nat) (Q : State → Prop) (n b0 L : Nat) (xs : Nat → Int32) (i x1 x2 x3 x4 x5 : Int32) (hkc : kc + 40 ≤ 601024) (hks : ks + 240 ≤ 7293034) (hX : va_X b0 L xs (gS g) (gS g).heap) (hb0 : b0 < (gS g).heap.size) (hbA : ¬ wA w b0) (hi1 : inb (i + (1 : Int32)) L = true) (hx1 : xs (ix (i + (1 : Int32))) = x1) (hi2 : inb (i + (2 : Int32)) L = true) (hx2 : xs (ix (i + (2 : Int32))) = x2) (hi3 : inb (i + (3 : Int32)) L = true) (hx3 : xs (ix (i + (3 : Int32))) = x3) (hi4 : inb (i + (4 : Int32)) L = true) (hx4 : xs (ix (i + (4 : Int32))) = x4) (hi5 : inb (i + (5 : Int32)) L = true) (hx5 : xs (ix (i + (5 : Int32))) = x5) (σ : MS) : VV m_L_law_ w g kc ks Q (fun s => VH m_L_law_ w g (kc + 20) (ks + 120) Q 2895 [some (.ref b0), some (.ref (wB w + 0)), some (.ref (wB w + 171)), some (.ref (wB w + 183)), some (.int i), none, none] [] s) 2488 [some (.ref b0), some (.ref (wB w + 0)), some (.ref (wB w + 171)), some (.ref (wB w + 183)), some (.int i), none, none] [] σ (step_40 n x1 x2 x3 x4 x5 σ) := by
  unfold step_40
  have hJ2569 : ∀ (σ : MS), VV m_L_law_ w g (kc + 1) (ks + 6) Q (fun s => VH m_L_law_ w g (kc + 20) (ks + 120) Q 2895 [some (.ref b0), some (.ref (wB w + 0)), some (.ref (wB w + 171)), some (.ref (wB w + 183)), some (.int i), none, none] [] s) 2569 [some (.ref b0), some (.ref (wB w + 0)), some (.ref (wB w + 171)), some (.ref (wB w + 183)), some (.int i), none, none] [] σ (J_L_law__2569 n x1 x2 x3 x4 x5 σ) := by
    intro σ
    refine V_goto (pc := 2569) (tgt := 2895) dL_law__2569 (by decide +kernel) ?_
    refine V_widen (kc' := kc + 20) (ks' := ks + 120) (by omega) (by omega) ?_
    exact V_back (fun h => h)
  have hJ2536 : ∀ (v5 : Int32) (t0 : Int32) (t1 : Int32) (σ : MS), VV m_L_law_ w g (kc + 1) (ks + 6) Q (fun s => VH m_L_law_ w g (kc + 20) (ks + 120) Q 2895 [some (.ref b0), some (.ref (wB w + 0)), some (.ref (wB w + 171)), some (.ref (wB w + 183)), some (.int i), none, none] [] s) 2536 [some (.ref b0), some (.ref (wB w + 0)), some (.ref (wB w + 171)), some (.ref (wB w + 183)), some (.int i), some (.int v5), none] [.int t0, .int t1, .ref (wB w + 171)] σ (J_L_law__2536 n v5 x1 x2 x3 x4 x5 t0 t1 σ) := by
    intro v5 t0 t1 σ
    refine V_callVi (pc := 2536) (As := [.int t1, .int t0]) (rest := []) (c_X12_trial w n t1 t0 σ) cw_L_281 rfl rfl dL_law__2536 kc_171 ci_12 ⟨by simp only [m_L_law_, m_X12_trial]; omega, by simp only [m_L_law_, m_X12_trial]; omega⟩ rfl rfl (Nat.le_of_ble_eq_true rfl) (by simp only [m_L_law_]; omega) (by simp only [m_L_law_]; omega) rfl (fun q2536 => ?_)
    refine V_istore (pc := 2539) (vs' := [some (.ref b0), some (.ref (wB w + 0)), some (.ref (wB w + 171)), some (.ref (wB w + 183)), some (.int i), some (.int v5), some (.int q2536.1)]) dL_law__2539 (Nat.le_of_ble_eq_true rfl) (Nat.le_of_ble_eq_true rfl) rfl ?_
    refine V_aload_n (pc := 2541) dL_law__2541 rfl rfl ?_
    refine V_callVpi (pc := 2542) (As := []) (rest := []) (c_X12_thrown w  q2536.2) cw_L_150 rfl rfl dL_law__2542 kc_171 ci_12 ⟨by simp only [m_L_law_, m_X12_thrown]; omega, by simp only [m_L_law_, m_X12_thrown]; omega⟩ rfl rfl (Nat.le_of_ble_eq_true rfl) (by simp only [m_L_law_]; omega) (by simp only [m_L_law_]; omega) rfl (fun q2542 => ?_)
    refine V_iload (pc := 2545) dL_law__2545 rfl ?_
    refine V_icmp_eq (pc := 2547) (tgt := 2552) dL_law__2547 (by decide +kernel) ?_ ?_
    · refine V_iload (pc := 2552) dL_law__2552 rfl ?_
      refine V_if_ne (pc := 2554) (tgt := 2569) dL_law__2554 (by decide +kernel) ?_ ?_
      · refine V_sub (vs' := [some (.ref b0), some (.ref (wB w + 0)), some (.ref (wB w + 171)), some (.ref (wB w + 183)), some (.int i), none, none]) (show vless _ _ from ⟨rfl, ⟨rfl, ⟨rfl, ⟨rfl, ⟨rfl, trivial⟩⟩⟩⟩⟩) rfl ?_
        exact hJ2569 q2536.2
      · refine V_aload_n (pc := 2557) dL_law__2557 rfl rfl ?_
        refine V_iconst (pc := 2558) dL_law__2558 ic_0 ?_
        refine V_lald (pc := 2559) dL_law__2559 ?_
        refine V_iload (pc := 2560) dL_law__2560 rfl ?_
        refine V_i2l (pc := 2562) dL_law__2562 ?_
        refine V_lcmpeq (pc := 2563) (tgt := 2569) dL_law__2563 dL_law__2564 (by decide) ?_ ?_
        · refine V_sub (vs' := [some (.ref b0), some (.ref (wB w + 0)), some (.ref (wB w + 171)), some (.ref (wB w + 183)), some (.int i), none, none]) (show vless _ _ from ⟨rfl, ⟨rfl, ⟨rfl, ⟨rfl, ⟨rfl, trivial⟩⟩⟩⟩⟩) rfl ?_
          exact hJ2569 q2536.2
        · refine V_iconst (pc := 2567) dL_law__2567 ic_0 ?_
          exact V_none
    · refine V_iconst (pc := 2550) dL_law__2550 ic_0 ?_
      exact V_none
  have hJ2509 : ∀ (t0 : Int32) (t1 : Int32) (σ : MS), VV m_L_law_ w g kc ks Q (fun s => VH m_L_law_ w g (kc + 20) (ks + 120) Q 2895 [some (.ref b0), some (.ref (wB w + 0)), some (.ref (wB w + 171)), some (.ref (wB w + 183)), some (.int i), none, none] [] s) 2509 [some (.ref b0), some (.ref (wB w + 0)), some (.ref (wB w + 171)), some (.ref (wB w + 183)), some (.int i), none, none] [.int t0, .int t1, .ref (wB w + 0)] σ (J_L_law__2509 n x1 x2 x3 x4 x5 t0 t1 σ) := by
    intro t0 t1 σ
    refine V_aload_n (pc := 2509) dL_law__2509 rfl rfl ?_
    refine V_callW (pc := 2510) (As := [.ref (wB w + 0), .int t1, .int t0, .ref (wB w + 183)]) (rest := []) (c_L_trial w n t1 t0 σ) cl_279 rfl rfl dL_law__2510 ⟨by simp only [m_L_law_, m_L_trial]; omega, by simp only [m_L_law_, m_L_trial]; omega⟩ rfl rfl (Nat.le_of_ble_eq_true rfl) (by simp only [m_L_law_, m_L_trial]; omega) (by simp only [m_L_law_, m_L_trial]; omega) (fun q2510 => ?_)
    show VV m_L_law_ w g (kc + 1) (ks + 6) Q (fun s => VH m_L_law_ w g (kc + 20) (ks + 120) Q 2895 [some (.ref b0), some (.ref (wB w + 0)), some (.ref (wB w + 171)), some (.ref (wB w + 183)), some (.int i), none, none] [] s) 2513 [some (.ref b0), some (.ref (wB w + 0)), some (.ref (wB w + 171)), some (.ref (wB w + 183)), some (.int i), none, none] [.int q2510.1] q2510.2 _
    refine V_istore (pc := 2513) (vs' := [some (.ref b0), some (.ref (wB w + 0)), some (.ref (wB w + 171)), some (.ref (wB w + 183)), some (.int i), some (.int q2510.1), none]) dL_law__2513 (Nat.le_of_ble_eq_true rfl) (Nat.le_of_ble_eq_true rfl) rfl ?_
    refine V_aload_n (pc := 2515) dL_law__2515 rfl rfl ?_
    refine V_aload_n (pc := 2516) dL_law__2516 rfl rfl ?_
    refine V_iload (pc := 2517) dL_law__2517 rfl ?_
    refine V_iconst (pc := 2519) dL_law__2519 ic_1 ?_
    refine V_iadd (pc := 2520) dL_law__2520 ?_
    refine V_sld (pc := 2521) hX hb0 hbA hi1 hx1 dL_law__2521 ?_
    refine V_aload_n (pc := 2522) dL_law__2522 rfl rfl ?_
    refine V_iload (pc := 2523) dL_law__2523 rfl ?_
    refine V_iconst (pc := 2525) dL_law__2525 ic_2 ?_
    refine V_iadd (pc := 2526) dL_law__2526 ?_
    refine V_sld (pc := 2527) hX hb0 hbA hi2 hx2 dL_law__2527 ?_
    refine V_if_eq (pc := 2528) (tgt := 2535) dL_law__2528 (by decide +kernel) ?_ ?_
    · refine V_iconst (pc := 2535) dL_law__2535 ic_0 ?_
      exact hJ2536 q2510.1 (0 : Int32) x1 q2510.2
    · refine V_iconst (pc := 2531) dL_law__2531 ic_1 ?_
      refine V_goto (pc := 2532) (tgt := 2536) dL_law__2532 (by decide +kernel) ?_
      exact hJ2536 q2510.1 (1 : Int32) x1 q2510.2
  refine V_aload_n (pc := 2488) dL_law__2488 rfl rfl ?_
  refine V_aload_n (pc := 2489) dL_law__2489 rfl rfl ?_
  refine V_iload (pc := 2490) dL_law__2490 rfl ?_
  refine V_iconst (pc := 2492) dL_law__2492 ic_1 ?_
  refine V_iadd (pc := 2493) dL_law__2493 ?_
  refine V_sld (pc := 2494) hX hb0 hbA hi1 hx1 dL_law__2494 ?_
  refine V_aload_n (pc := 2495) dL_law__2495 rfl rfl ?_
  refine V_iload (pc := 2496) dL_law__2496 rfl ?_
  refine V_iconst (pc := 2498) dL_law__2498 ic_2 ?_
  refine V_iadd (pc := 2499) dL_law__2499 ?_
  refine V_sld (pc := 2500) hX hb0 hbA hi2 hx2 dL_law__2500 ?_
  refine V_if_eq (pc := 2501) (tgt := 2508) dL_law__2501 (by decide +kernel) ?_ ?_
  · refine V_iconst (pc := 2508) dL_law__2508 ic_0 ?_
    exact hJ2509 (0 : Int32) x1 σ
  · refine V_iconst (pc := 2504) dL_law__2504 ic_1 ?_
    refine V_goto (pc := 2505) (tgt := 2509) dL_law__2505 (by decide +kernel) ?_
    exact hJ2509 (1 : Int32) x1 σ
theorem wm_X12_span : wmp m_X12_span 2 := ⟨gx 2124 (by decide +kernel) (by decide +kernel), gx 2125 (by decide +kernel) (by decide +kernel), gx 138 (by decide +kernel) (by decide +kernel), gx 2126 (by decide +kernel) (by decide +kernel), by decide +kernel, by decide +kernel, by decide +kernel⟩
theorem cw_L_284 : cwp RL 284 m_X12_span 2 := cwp_of wm_X12_span (gx 2123 (by decide +kernel) (by decide +kernel))
theorem cl_282 : csw RL 282 m_L_span [(0, 10, 13, 13)] 4 := ⟨goodIn_of _ (by decide +kernel), by decide +kernel, by decide +kernel, by decide +kernel⟩
def J_L_law__2653 (n : Nat) (x1 x2 x3 x4 x5 : Int32) (σ : MS) : Option (MS) := some σ
def J_L_law__2620 (n : Nat) (v5 : Int32) (x1 x2 x3 x4 x5 : Int32) (t0 : Int32) (t1 : Int32) (σ : MS) : Option (MS) := ((f_X12_span n t1 t0 σ).bind (fun q2620 => ((f_X12_thrown  q2620.2).bind (fun q2626 => (if q2626 = v5 then (if v5 = 0 then (if (q2620.2 183 0) = q2620.1 then J_L_law__2653 n x1 x2 x3 x4 x5 q2620.2 else none) else J_L_law__2653 n x1 x2 x3 x4 x5 q2620.2) else none)))))
def J_L_law__2593 (n : Nat) (x1 x2 x3 x4 x5 : Int32) (t0 : Int32) (t1 : Int32) (σ : MS) : Option (MS) := ((f_L_span n t1 t0 σ).bind (fun q2594 => (if x2 = 0 then J_L_law__2620 n q2594.1 x1 x2 x3 x4 x5 (0 : Int32) x1 q2594.2 else J_L_law__2620 n q2594.1 x1 x2 x3 x4 x5 (1 : Int32) x1 q2594.2)))
def step_41 (n : Nat) (x1 x2 x3 x4 x5 : Int32) (σ : MS) : Option MS := (if x2 = 0 then J_L_law__2593 n x1 x2 x3 x4 x5 (0 : Int32) x1 σ else J_L_law__2593 n x1 x2 x3 x4 x5 (1 : Int32) x1 σ)
set_option maxRecDepth 20000 in
set_option maxHeartbeats 2000000 in
theorem v_case_41 (w : TG) (g : VG) (kc ks : Nat) (Q : State → Prop) (n b0 L : Nat) (xs : Nat → Int32) (i x1 x2 x3 x4 x5 : Int32) (hkc : kc + 40 ≤ 601024) (hks : ks + 240 ≤ 7293034) (hX : va_X b0 L xs (gS g) (gS g).heap) (hb0 : b0 < (gS g).heap.size) (hbA : ¬ wA w b0) (hi1 : inb (i + (1 : Int32)) L = true) (hx1 : xs (ix (i + (1 : Int32))) = x1) (hi2 : inb (i + (2 : Int32)) L = true) (hx2 : xs (ix (i + (2 : Int32))) = x2) (hi3 : inb (i + (3 : Int32)) L = true) (hx3 : xs (ix (i + (3 : Int32))) = x3) (hi4 : inb (i + (4 : Int32)) L = true) (hx4 : xs (ix (i + (4 : Int32))) = x4) (hi5 : inb (i + (5 : Int32)) L = true) (hx5 : xs (ix (i + (5 : Int32))) = x5) (σ : MS) : VV m_L_law_ w g kc ks Q (fun s => VH m_L_law_ w g (kc + 20) (ks + 120) Q 2895 [some (.ref b0), some (.ref (wB w + 0)), some (.ref (wB w + 171)), some (.ref (wB w + 183)), some (.int i), none, none] [] s) 2572 [some (.ref b0), some (.ref (wB w + 0)), some (.ref (wB w + 171)), some (.ref (wB w + 183)), some (.int i), none, none] [] σ (step_41 n x1 x2 x3 x4 x5 σ) := by
  unfold step_41
  have hJ2653 : ∀ (σ : MS), VV m_L_law_ w g (kc + 1) (ks + 6) Q (fun s => VH m_L_law_ w g (kc + 20) (ks + 120) Q 2895 [some (.ref b0), some (.ref (wB w + 0)), some (.ref (wB w + 171)), some (.ref (wB w + 183)), some (.int i), none, none] [] s) 2653 [some (.ref b0), some (.ref (wB w + 0)), some (.ref (wB w + 171)), some (.ref (wB w + 183)), some (.int i), none, none] [] σ (J_L_law__2653 n x1 x2 x3 x4 x5 σ) := by
    intro σ
    refine V_goto (pc := 2653) (tgt := 2895) dL_law__2653 (by decide +kernel) ?_
    refine V_widen (kc' := kc + 20) (ks' := ks + 120) (by omega) (by omega) ?_
    exact V_back (fun h => h)
  have hJ2620 : ∀ (v5 : Int32) (t0 : Int32) (t1 : Int32) (σ : MS), VV m_L_law_ w g (kc + 1) (ks + 6) Q (fun s => VH m_L_law_ w g (kc + 20) (ks + 120) Q 2895 [some (.ref b0), some (.ref (wB w + 0)), some (.ref (wB w + 171)), some (.ref (wB w + 183)), some (.int i), none, none] [] s) 2620 [some (.ref b0), some (.ref (wB w + 0)), some (.ref (wB w + 171)), some (.ref (wB w + 183)), some (.int i), some (.int v5), none] [.int t0, .int t1, .ref (wB w + 171)] σ (J_L_law__2620 n v5 x1 x2 x3 x4 x5 t0 t1 σ) := by
    intro v5 t0 t1 σ
    refine V_callVi (pc := 2620) (As := [.int t1, .int t0]) (rest := []) (c_X12_span w n t1 t0 σ) cw_L_284 rfl rfl dL_law__2620 kc_171 ci_12 ⟨by simp only [m_L_law_, m_X12_span]; omega, by simp only [m_L_law_, m_X12_span]; omega⟩ rfl rfl (Nat.le_of_ble_eq_true rfl) (by simp only [m_L_law_]; omega) (by simp only [m_L_law_]; omega) rfl (fun q2620 => ?_)
    refine V_istore (pc := 2623) (vs' := [some (.ref b0), some (.ref (wB w + 0)), some (.ref (wB w + 171)), some (.ref (wB w + 183)), some (.int i), some (.int v5), some (.int q2620.1)]) dL_law__2623 (Nat.le_of_ble_eq_true rfl) (Nat.le_of_ble_eq_true rfl) rfl ?_
    refine V_aload_n (pc := 2625) dL_law__2625 rfl rfl ?_
    refine V_callVpi (pc := 2626) (As := []) (rest := []) (c_X12_thrown w  q2620.2) cw_L_150 rfl rfl dL_law__2626 kc_171 ci_12 ⟨by simp only [m_L_law_, m_X12_thrown]; omega, by simp only [m_L_law_, m_X12_thrown]; omega⟩ rfl rfl (Nat.le_of_ble_eq_true rfl) (by simp only [m_L_law_]; omega) (by simp only [m_L_law_]; omega) rfl (fun q2626 => ?_)
    refine V_iload (pc := 2629) dL_law__2629 rfl ?_
    refine V_icmp_eq (pc := 2631) (tgt := 2636) dL_law__2631 (by decide +kernel) ?_ ?_
    · refine V_iload (pc := 2636) dL_law__2636 rfl ?_
      refine V_if_ne (pc := 2638) (tgt := 2653) dL_law__2638 (by decide +kernel) ?_ ?_
      · refine V_sub (vs' := [some (.ref b0), some (.ref (wB w + 0)), some (.ref (wB w + 171)), some (.ref (wB w + 183)), some (.int i), none, none]) (show vless _ _ from ⟨rfl, ⟨rfl, ⟨rfl, ⟨rfl, ⟨rfl, trivial⟩⟩⟩⟩⟩) rfl ?_
        exact hJ2653 q2620.2
      · refine V_aload_n (pc := 2641) dL_law__2641 rfl rfl ?_
        refine V_iconst (pc := 2642) dL_law__2642 ic_0 ?_
        refine V_lald (pc := 2643) dL_law__2643 ?_
        refine V_iload (pc := 2644) dL_law__2644 rfl ?_
        refine V_i2l (pc := 2646) dL_law__2646 ?_
        refine V_lcmpeq (pc := 2647) (tgt := 2653) dL_law__2647 dL_law__2648 (by decide) ?_ ?_
        · refine V_sub (vs' := [some (.ref b0), some (.ref (wB w + 0)), some (.ref (wB w + 171)), some (.ref (wB w + 183)), some (.int i), none, none]) (show vless _ _ from ⟨rfl, ⟨rfl, ⟨rfl, ⟨rfl, ⟨rfl, trivial⟩⟩⟩⟩⟩) rfl ?_
          exact hJ2653 q2620.2
        · refine V_iconst (pc := 2651) dL_law__2651 ic_0 ?_
          exact V_none
    · refine V_iconst (pc := 2634) dL_law__2634 ic_0 ?_
      exact V_none
  have hJ2593 : ∀ (t0 : Int32) (t1 : Int32) (σ : MS), VV m_L_law_ w g kc ks Q (fun s => VH m_L_law_ w g (kc + 20) (ks + 120) Q 2895 [some (.ref b0), some (.ref (wB w + 0)), some (.ref (wB w + 171)), some (.ref (wB w + 183)), some (.int i), none, none] [] s) 2593 [some (.ref b0), some (.ref (wB w + 0)), some (.ref (wB w + 171)), some (.ref (wB w + 183)), some (.int i), none, none] [.int t0, .int t1, .ref (wB w + 0)] σ (J_L_law__2593 n x1 x2 x3 x4 x5 t0 t1 σ) := by
    intro t0 t1 σ
    refine V_aload_n (pc := 2593) dL_law__2593 rfl rfl ?_
    refine V_callW (pc := 2594) (As := [.ref (wB w + 0), .int t1, .int t0, .ref (wB w + 183)]) (rest := []) (c_L_span w n t1 t0 σ) cl_282 rfl rfl dL_law__2594 ⟨by simp only [m_L_law_, m_L_span]; omega, by simp only [m_L_law_, m_L_span]; omega⟩ rfl rfl (Nat.le_of_ble_eq_true rfl) (by simp only [m_L_law_, m_L_span]; omega) (by simp only [m_L_law_, m_L_span]; omega) (fun q2594 => ?_)
    show VV m_L_law_ w g (kc + 1) (ks + 6) Q (fun s => VH m_L_law_ w g (kc + 20) (ks + 120) Q 2895 [some (.ref b0), some (.ref (wB w + 0)), some (.ref (wB w + 171)), some (.ref (wB w + 183)), some (.int i), none, none] [] s) 2597 [some (.ref b0), some (.ref (wB w + 0)), some (.ref (wB w + 171)), some (.ref (wB w + 183)), some (.int i), none, none] [.int q2594.1] q2594.2 _
    refine V_istore (pc := 2597) (vs' := [some (.ref b0), some (.ref (wB w + 0)), some (.ref (wB w + 171)), some (.ref (wB w + 183)), some (.int i), some (.int q2594.1), none]) dL_law__2597 (Nat.le_of_ble_eq_true rfl) (Nat.le_of_ble_eq_true rfl) rfl ?_
    refine V_aload_n (pc := 2599) dL_law__2599 rfl rfl ?_
    refine V_aload_n (pc := 2600) dL_law__2600 rfl rfl ?_
    refine V_iload (pc := 2601) dL_law__2601 rfl ?_
    refine V_iconst (pc := 2603) dL_law__2603 ic_1 ?_
    refine V_iadd (pc := 2604) dL_law__2604 ?_
    refine V_sld (pc := 2605) hX hb0 hbA hi1 hx1 dL_law__2605 ?_
    refine V_aload_n (pc := 2606) dL_law__2606 rfl rfl ?_
    refine V_iload (pc := 2607) dL_law__2607 rfl ?_
    refine V_iconst (pc := 2609) dL_law__2609 ic_2 ?_
    refine V_iadd (pc := 2610) dL_law__2610 ?_
    refine V_sld (pc := 2611) hX hb0 hbA hi2 hx2 dL_law__2611 ?_
    refine V_if_eq (pc := 2612) (tgt := 2619) dL_law__2612 (by decide +kernel) ?_ ?_
    · refine V_iconst (pc := 2619) dL_law__2619 ic_0 ?_
      exact hJ2620 q2594.1 (0 : Int32) x1 q2594.2
    · refine V_iconst (pc := 2615) dL_law__2615 ic_1 ?_
      refine V_goto (pc := 2616) (tgt := 2620) dL_law__2616 (by decide +kernel) ?_
      exact hJ2620 q2594.1 (1 : Int32) x1 q2594.2
  refine V_aload_n (pc := 2572) dL_law__2572 rfl rfl ?_
  refine V_aload_n (pc := 2573) dL_law__2573 rfl rfl ?_
  refine V_iload (pc := 2574) dL_law__2574 rfl ?_
  refine V_iconst (pc := 2576) dL_law__2576 ic_1 ?_
  refine V_iadd (pc := 2577) dL_law__2577 ?_
  refine V_sld (pc := 2578) hX hb0 hbA hi1 hx1 dL_law__2578 ?_
  refine V_aload_n (pc := 2579) dL_law__2579 rfl rfl ?_
  refine V_iload (pc := 2580) dL_law__2580 rfl ?_
  refine V_iconst (pc := 2582) dL_law__2582 ic_2 ?_
  refine V_iadd (pc := 2583) dL_law__2583 ?_
  refine V_sld (pc := 2584) hX hb0 hbA hi2 hx2 dL_law__2584 ?_
  refine V_if_eq (pc := 2585) (tgt := 2592) dL_law__2585 (by decide +kernel) ?_ ?_
  · refine V_iconst (pc := 2592) dL_law__2592 ic_0 ?_
    exact hJ2593 (0 : Int32) x1 σ
  · refine V_iconst (pc := 2588) dL_law__2588 ic_1 ?_
    refine V_goto (pc := 2589) (tgt := 2593) dL_law__2589 (by decide +kernel) ?_
    exact hJ2593 (1 : Int32) x1 σ
theorem wm_X12_led : wmp m_X12_led 2 := ⟨gx 2128 (by decide +kernel) (by decide +kernel), gx 2129 (by decide +kernel) (by decide +kernel), gx 138 (by decide +kernel) (by decide +kernel), gx 2130 (by decide +kernel) (by decide +kernel), by decide +kernel, by decide +kernel, by decide +kernel⟩
theorem cw_L_287 : cwp RL 287 m_X12_led 2 := cwp_of wm_X12_led (gx 2127 (by decide +kernel) (by decide +kernel))
theorem cl_285 : csw RL 285 m_L_led [(0, 10, 13, 24)] 4 := ⟨goodIn_of _ (by decide +kernel), by decide +kernel, by decide +kernel, by decide +kernel⟩
def J_L_law__2737 (n : Nat) (x1 x2 x3 x4 x5 : Int32) (σ : MS) : Option (MS) := some σ
def J_L_law__2704 (n : Nat) (v5 : Int32) (x1 x2 x3 x4 x5 : Int32) (t0 : Int32) (t1 : Int32) (σ : MS) : Option (MS) := ((f_X12_led n t1 t0 σ).bind (fun q2704 => ((f_X12_thrown  q2704.2).bind (fun q2710 => (if q2710 = v5 then (if v5 = 0 then (if (q2704.2 183 0) = q2704.1 then J_L_law__2737 n x1 x2 x3 x4 x5 q2704.2 else none) else J_L_law__2737 n x1 x2 x3 x4 x5 q2704.2) else none)))))
def J_L_law__2677 (n : Nat) (x1 x2 x3 x4 x5 : Int32) (t0 : Int32) (t1 : Int32) (σ : MS) : Option (MS) := ((f_L_led n t1 t0 σ).bind (fun q2678 => (if x2 = 0 then J_L_law__2704 n q2678.1 x1 x2 x3 x4 x5 (0 : Int32) x1 q2678.2 else J_L_law__2704 n q2678.1 x1 x2 x3 x4 x5 (1 : Int32) x1 q2678.2)))
def step_42 (n : Nat) (x1 x2 x3 x4 x5 : Int32) (σ : MS) : Option MS := (if x2 = 0 then J_L_law__2677 n x1 x2 x3 x4 x5 (0 : Int32) x1 σ else J_L_law__2677 n x1 x2 x3 x4 x5 (1 : Int32) x1 σ)
set_option maxRecDepth 20000 in
set_option maxHeartbeats 2000000 in
theorem v_case_42 (w : TG) (g : VG) (kc ks : Nat) (Q : State → Prop) (n b0 L : Nat) (xs : Nat → Int32) (i x1 x2 x3 x4 x5 : Int32) (hkc : kc + 40 ≤ 601024) (hks : ks + 240 ≤ 7293034) (hX : va_X b0 L xs (gS g) (gS g).heap) (hb0 : b0 < (gS g).heap.size) (hbA : ¬ wA w b0) (hi1 : inb (i + (1 : Int32)) L = true) (hx1 : xs (ix (i + (1 : Int32))) = x1) (hi2 : inb (i + (2 : Int32)) L = true) (hx2 : xs (ix (i + (2 : Int32))) = x2) (hi3 : inb (i + (3 : Int32)) L = true) (hx3 : xs (ix (i + (3 : Int32))) = x3) (hi4 : inb (i + (4 : Int32)) L = true) (hx4 : xs (ix (i + (4 : Int32))) = x4) (hi5 : inb (i + (5 : Int32)) L = true) (hx5 : xs (ix (i + (5 : Int32))) = x5) (σ : MS) : VV m_L_law_ w g kc ks Q (fun s => VH m_L_law_ w g (kc + 20) (ks + 120) Q 2895 [some (.ref b0), some (.ref (wB w + 0)), some (.ref (wB w + 171)), some (.ref (wB w + 183)), some (.int i), none, none] [] s) 2656 [some (.ref b0), some (.ref (wB w + 0)), some (.ref (wB w + 171)), some (.ref (wB w + 183)), some (.int i), none, none] [] σ (step_42 n x1 x2 x3 x4 x5 σ) := by
  unfold step_42
  have hJ2737 : ∀ (σ : MS), VV m_L_law_ w g (kc + 1) (ks + 6) Q (fun s => VH m_L_law_ w g (kc + 20) (ks + 120) Q 2895 [some (.ref b0), some (.ref (wB w + 0)), some (.ref (wB w + 171)), some (.ref (wB w + 183)), some (.int i), none, none] [] s) 2737 [some (.ref b0), some (.ref (wB w + 0)), some (.ref (wB w + 171)), some (.ref (wB w + 183)), some (.int i), none, none] [] σ (J_L_law__2737 n x1 x2 x3 x4 x5 σ) := by
    intro σ
    refine V_goto (pc := 2737) (tgt := 2895) dL_law__2737 (by decide +kernel) ?_
    refine V_widen (kc' := kc + 20) (ks' := ks + 120) (by omega) (by omega) ?_
    exact V_back (fun h => h)
  have hJ2704 : ∀ (v5 : Int32) (t0 : Int32) (t1 : Int32) (σ : MS), VV m_L_law_ w g (kc + 1) (ks + 6) Q (fun s => VH m_L_law_ w g (kc + 20) (ks + 120) Q 2895 [some (.ref b0), some (.ref (wB w + 0)), some (.ref (wB w + 171)), some (.ref (wB w + 183)), some (.int i), none, none] [] s) 2704 [some (.ref b0), some (.ref (wB w + 0)), some (.ref (wB w + 171)), some (.ref (wB w + 183)), some (.int i), some (.int v5), none] [.int t0, .int t1, .ref (wB w + 171)] σ (J_L_law__2704 n v5 x1 x2 x3 x4 x5 t0 t1 σ) := by
    intro v5 t0 t1 σ
    refine V_callVi (pc := 2704) (As := [.int t1, .int t0]) (rest := []) (c_X12_led w n t1 t0 σ) cw_L_287 rfl rfl dL_law__2704 kc_171 ci_12 ⟨by simp only [m_L_law_, m_X12_led]; omega, by simp only [m_L_law_, m_X12_led]; omega⟩ rfl rfl (Nat.le_of_ble_eq_true rfl) (by simp only [m_L_law_]; omega) (by simp only [m_L_law_]; omega) rfl (fun q2704 => ?_)
    refine V_istore (pc := 2707) (vs' := [some (.ref b0), some (.ref (wB w + 0)), some (.ref (wB w + 171)), some (.ref (wB w + 183)), some (.int i), some (.int v5), some (.int q2704.1)]) dL_law__2707 (Nat.le_of_ble_eq_true rfl) (Nat.le_of_ble_eq_true rfl) rfl ?_
    refine V_aload_n (pc := 2709) dL_law__2709 rfl rfl ?_
    refine V_callVpi (pc := 2710) (As := []) (rest := []) (c_X12_thrown w  q2704.2) cw_L_150 rfl rfl dL_law__2710 kc_171 ci_12 ⟨by simp only [m_L_law_, m_X12_thrown]; omega, by simp only [m_L_law_, m_X12_thrown]; omega⟩ rfl rfl (Nat.le_of_ble_eq_true rfl) (by simp only [m_L_law_]; omega) (by simp only [m_L_law_]; omega) rfl (fun q2710 => ?_)
    refine V_iload (pc := 2713) dL_law__2713 rfl ?_
    refine V_icmp_eq (pc := 2715) (tgt := 2720) dL_law__2715 (by decide +kernel) ?_ ?_
    · refine V_iload (pc := 2720) dL_law__2720 rfl ?_
      refine V_if_ne (pc := 2722) (tgt := 2737) dL_law__2722 (by decide +kernel) ?_ ?_
      · refine V_sub (vs' := [some (.ref b0), some (.ref (wB w + 0)), some (.ref (wB w + 171)), some (.ref (wB w + 183)), some (.int i), none, none]) (show vless _ _ from ⟨rfl, ⟨rfl, ⟨rfl, ⟨rfl, ⟨rfl, trivial⟩⟩⟩⟩⟩) rfl ?_
        exact hJ2737 q2704.2
      · refine V_aload_n (pc := 2725) dL_law__2725 rfl rfl ?_
        refine V_iconst (pc := 2726) dL_law__2726 ic_0 ?_
        refine V_lald (pc := 2727) dL_law__2727 ?_
        refine V_iload (pc := 2728) dL_law__2728 rfl ?_
        refine V_i2l (pc := 2730) dL_law__2730 ?_
        refine V_lcmpeq (pc := 2731) (tgt := 2737) dL_law__2731 dL_law__2732 (by decide) ?_ ?_
        · refine V_sub (vs' := [some (.ref b0), some (.ref (wB w + 0)), some (.ref (wB w + 171)), some (.ref (wB w + 183)), some (.int i), none, none]) (show vless _ _ from ⟨rfl, ⟨rfl, ⟨rfl, ⟨rfl, ⟨rfl, trivial⟩⟩⟩⟩⟩) rfl ?_
          exact hJ2737 q2704.2
        · refine V_iconst (pc := 2735) dL_law__2735 ic_0 ?_
          exact V_none
    · refine V_iconst (pc := 2718) dL_law__2718 ic_0 ?_
      exact V_none
  have hJ2677 : ∀ (t0 : Int32) (t1 : Int32) (σ : MS), VV m_L_law_ w g kc ks Q (fun s => VH m_L_law_ w g (kc + 20) (ks + 120) Q 2895 [some (.ref b0), some (.ref (wB w + 0)), some (.ref (wB w + 171)), some (.ref (wB w + 183)), some (.int i), none, none] [] s) 2677 [some (.ref b0), some (.ref (wB w + 0)), some (.ref (wB w + 171)), some (.ref (wB w + 183)), some (.int i), none, none] [.int t0, .int t1, .ref (wB w + 0)] σ (J_L_law__2677 n x1 x2 x3 x4 x5 t0 t1 σ) := by
    intro t0 t1 σ
    refine V_aload_n (pc := 2677) dL_law__2677 rfl rfl ?_
    refine V_callW (pc := 2678) (As := [.ref (wB w + 0), .int t1, .int t0, .ref (wB w + 183)]) (rest := []) (c_L_led w n t1 t0 σ) cl_285 rfl rfl dL_law__2678 ⟨by simp only [m_L_law_, m_L_led]; omega, by simp only [m_L_law_, m_L_led]; omega⟩ rfl rfl (Nat.le_of_ble_eq_true rfl) (by simp only [m_L_law_, m_L_led]; omega) (by simp only [m_L_law_, m_L_led]; omega) (fun q2678 => ?_)
    show VV m_L_law_ w g (kc + 1) (ks + 6) Q (fun s => VH m_L_law_ w g (kc + 20) (ks + 120) Q 2895 [some (.ref b0), some (.ref (wB w + 0)), some (.ref (wB w + 171)), some (.ref (wB w + 183)), some (.int i), none, none] [] s) 2681 [some (.ref b0), some (.ref (wB w + 0)), some (.ref (wB w + 171)), some (.ref (wB w + 183)), some (.int i), none, none] [.int q2678.1] q2678.2 _
    refine V_istore (pc := 2681) (vs' := [some (.ref b0), some (.ref (wB w + 0)), some (.ref (wB w + 171)), some (.ref (wB w + 183)), some (.int i), some (.int q2678.1), none]) dL_law__2681 (Nat.le_of_ble_eq_true rfl) (Nat.le_of_ble_eq_true rfl) rfl ?_
    refine V_aload_n (pc := 2683) dL_law__2683 rfl rfl ?_
    refine V_aload_n (pc := 2684) dL_law__2684 rfl rfl ?_
    refine V_iload (pc := 2685) dL_law__2685 rfl ?_
    refine V_iconst (pc := 2687) dL_law__2687 ic_1 ?_
    refine V_iadd (pc := 2688) dL_law__2688 ?_
    refine V_sld (pc := 2689) hX hb0 hbA hi1 hx1 dL_law__2689 ?_
    refine V_aload_n (pc := 2690) dL_law__2690 rfl rfl ?_
    refine V_iload (pc := 2691) dL_law__2691 rfl ?_
    refine V_iconst (pc := 2693) dL_law__2693 ic_2 ?_
    refine V_iadd (pc := 2694) dL_law__2694 ?_
    refine V_sld (pc := 2695) hX hb0 hbA hi2 hx2 dL_law__2695 ?_
    refine V_if_eq (pc := 2696) (tgt := 2703) dL_law__2696 (by decide +kernel) ?_ ?_
    · refine V_iconst (pc := 2703) dL_law__2703 ic_0 ?_
      exact hJ2704 q2678.1 (0 : Int32) x1 q2678.2
    · refine V_iconst (pc := 2699) dL_law__2699 ic_1 ?_
      refine V_goto (pc := 2700) (tgt := 2704) dL_law__2700 (by decide +kernel) ?_
      exact hJ2704 q2678.1 (1 : Int32) x1 q2678.2
  refine V_aload_n (pc := 2656) dL_law__2656 rfl rfl ?_
  refine V_aload_n (pc := 2657) dL_law__2657 rfl rfl ?_
  refine V_iload (pc := 2658) dL_law__2658 rfl ?_
  refine V_iconst (pc := 2660) dL_law__2660 ic_1 ?_
  refine V_iadd (pc := 2661) dL_law__2661 ?_
  refine V_sld (pc := 2662) hX hb0 hbA hi1 hx1 dL_law__2662 ?_
  refine V_aload_n (pc := 2663) dL_law__2663 rfl rfl ?_
  refine V_iload (pc := 2664) dL_law__2664 rfl ?_
  refine V_iconst (pc := 2666) dL_law__2666 ic_2 ?_
  refine V_iadd (pc := 2667) dL_law__2667 ?_
  refine V_sld (pc := 2668) hX hb0 hbA hi2 hx2 dL_law__2668 ?_
  refine V_if_eq (pc := 2669) (tgt := 2676) dL_law__2669 (by decide +kernel) ?_ ?_
  · refine V_iconst (pc := 2676) dL_law__2676 ic_0 ?_
    exact hJ2677 (0 : Int32) x1 σ
  · refine V_iconst (pc := 2672) dL_law__2672 ic_1 ?_
    refine V_goto (pc := 2673) (tgt := 2677) dL_law__2673 (by decide +kernel) ?_
    exact hJ2677 (1 : Int32) x1 σ
theorem cl_288 : csw RL 288 m_L_log [(0, 10, 13, 26)] 4 := ⟨goodIn_of _ (by decide +kernel), by decide +kernel, by decide +kernel, by decide +kernel⟩
theorem wm_X12_log : wmp m_X12_log 2 := ⟨gx 2136 (by decide +kernel) (by decide +kernel), gx 2137 (by decide +kernel) (by decide +kernel), gx 138 (by decide +kernel) (by decide +kernel), gx 2138 (by decide +kernel) (by decide +kernel), by decide +kernel, by decide +kernel, by decide +kernel⟩
theorem cw_L_290 : cwp RL 290 m_X12_log 2 := cwp_of wm_X12_log (gx 2135 (by decide +kernel) (by decide +kernel))
def J_L_law__2805 (n : Nat) (x1 x2 x3 x4 x5 : Int32) (σ : MS) : Option (MS) := some σ
def step_43 (n : Nat) (x1 x2 x3 x4 x5 : Int32) (σ : MS) : Option MS := ((f_L_log x1 x2 σ).bind (fun q2754 => ((f_X12_log x1 x2 q2754.2).bind (fun q2772 => ((f_X12_thrown  q2772.2).bind (fun q2778 => (if q2778 = q2754.1 then (if q2754.1 = 0 then (if (q2772.2 183 0) = q2772.1 then J_L_law__2805 n x1 x2 x3 x4 x5 q2772.2 else none) else J_L_law__2805 n x1 x2 x3 x4 x5 q2772.2) else none)))))))
set_option maxRecDepth 20000 in
set_option maxHeartbeats 2000000 in
theorem v_case_43 (w : TG) (g : VG) (kc ks : Nat) (Q : State → Prop) (n b0 L : Nat) (xs : Nat → Int32) (i x1 x2 x3 x4 x5 : Int32) (hkc : kc + 40 ≤ 601024) (hks : ks + 240 ≤ 7293034) (hX : va_X b0 L xs (gS g) (gS g).heap) (hb0 : b0 < (gS g).heap.size) (hbA : ¬ wA w b0) (hi1 : inb (i + (1 : Int32)) L = true) (hx1 : xs (ix (i + (1 : Int32))) = x1) (hi2 : inb (i + (2 : Int32)) L = true) (hx2 : xs (ix (i + (2 : Int32))) = x2) (hi3 : inb (i + (3 : Int32)) L = true) (hx3 : xs (ix (i + (3 : Int32))) = x3) (hi4 : inb (i + (4 : Int32)) L = true) (hx4 : xs (ix (i + (4 : Int32))) = x4) (hi5 : inb (i + (5 : Int32)) L = true) (hx5 : xs (ix (i + (5 : Int32))) = x5) (σ : MS) : VV m_L_law_ w g kc ks Q (fun s => VH m_L_law_ w g (kc + 20) (ks + 120) Q 2895 [some (.ref b0), some (.ref (wB w + 0)), some (.ref (wB w + 171)), some (.ref (wB w + 183)), some (.int i), none, none] [] s) 2740 [some (.ref b0), some (.ref (wB w + 0)), some (.ref (wB w + 171)), some (.ref (wB w + 183)), some (.int i), none, none] [] σ (step_43 n x1 x2 x3 x4 x5 σ) := by
  unfold step_43
  have hJ2805 : ∀ (σ : MS), VV m_L_law_ w g (kc + 1) (ks + 6) Q (fun s => VH m_L_law_ w g (kc + 20) (ks + 120) Q 2895 [some (.ref b0), some (.ref (wB w + 0)), some (.ref (wB w + 171)), some (.ref (wB w + 183)), some (.int i), none, none] [] s) 2805 [some (.ref b0), some (.ref (wB w + 0)), some (.ref (wB w + 171)), some (.ref (wB w + 183)), some (.int i), none, none] [] σ (J_L_law__2805 n x1 x2 x3 x4 x5 σ) := by
    intro σ
    refine V_goto (pc := 2805) (tgt := 2895) dL_law__2805 (by decide +kernel) ?_
    refine V_widen (kc' := kc + 20) (ks' := ks + 120) (by omega) (by omega) ?_
    exact V_back (fun h => h)
  refine V_aload_n (pc := 2740) dL_law__2740 rfl rfl ?_
  refine V_aload_n (pc := 2741) dL_law__2741 rfl rfl ?_
  refine V_iload (pc := 2742) dL_law__2742 rfl ?_
  refine V_iconst (pc := 2744) dL_law__2744 ic_1 ?_
  refine V_iadd (pc := 2745) dL_law__2745 ?_
  refine V_sld (pc := 2746) hX hb0 hbA hi1 hx1 dL_law__2746 ?_
  refine V_aload_n (pc := 2747) dL_law__2747 rfl rfl ?_
  refine V_iload (pc := 2748) dL_law__2748 rfl ?_
  refine V_iconst (pc := 2750) dL_law__2750 ic_2 ?_
  refine V_iadd (pc := 2751) dL_law__2751 ?_
  refine V_sld (pc := 2752) hX hb0 hbA hi2 hx2 dL_law__2752 ?_
  refine V_aload_n (pc := 2753) dL_law__2753 rfl rfl ?_
  refine V_callW (pc := 2754) (As := [.ref (wB w + 0), .int x1, .int x2, .ref (wB w + 183)]) (rest := []) (c_L_log w x1 x2 σ) cl_288 rfl rfl dL_law__2754 ⟨by simp only [m_L_law_, m_L_log]; omega, by simp only [m_L_law_, m_L_log]; omega⟩ rfl rfl (Nat.le_of_ble_eq_true rfl) (by simp only [m_L_law_, m_L_log]; omega) (by simp only [m_L_law_, m_L_log]; omega) (fun q2754 => ?_)
  show VV m_L_law_ w g (kc + 1) (ks + 6) Q (fun s => VH m_L_law_ w g (kc + 20) (ks + 120) Q 2895 [some (.ref b0), some (.ref (wB w + 0)), some (.ref (wB w + 171)), some (.ref (wB w + 183)), some (.int i), none, none] [] s) 2757 [some (.ref b0), some (.ref (wB w + 0)), some (.ref (wB w + 171)), some (.ref (wB w + 183)), some (.int i), none, none] [.int q2754.1] q2754.2 _
  refine V_istore (pc := 2757) (vs' := [some (.ref b0), some (.ref (wB w + 0)), some (.ref (wB w + 171)), some (.ref (wB w + 183)), some (.int i), some (.int q2754.1), none]) dL_law__2757 (Nat.le_of_ble_eq_true rfl) (Nat.le_of_ble_eq_true rfl) rfl ?_
  refine V_aload_n (pc := 2759) dL_law__2759 rfl rfl ?_
  refine V_aload_n (pc := 2760) dL_law__2760 rfl rfl ?_
  refine V_iload (pc := 2761) dL_law__2761 rfl ?_
  refine V_iconst (pc := 2763) dL_law__2763 ic_1 ?_
  refine V_iadd (pc := 2764) dL_law__2764 ?_
  refine V_sld (pc := 2765) hX hb0 hbA hi1 hx1 dL_law__2765 ?_
  refine V_aload_n (pc := 2766) dL_law__2766 rfl rfl ?_
  refine V_iload (pc := 2767) dL_law__2767 rfl ?_
  refine V_iconst (pc := 2769) dL_law__2769 ic_2 ?_
  refine V_iadd (pc := 2770) dL_law__2770 ?_
  refine V_sld (pc := 2771) hX hb0 hbA hi2 hx2 dL_law__2771 ?_
  refine V_callVi (pc := 2772) (As := [.int x1, .int x2]) (rest := []) (c_X12_log w x1 x2 q2754.2) cw_L_290 rfl rfl dL_law__2772 kc_171 ci_12 ⟨by simp only [m_L_law_, m_X12_log]; omega, by simp only [m_L_law_, m_X12_log]; omega⟩ rfl rfl (Nat.le_of_ble_eq_true rfl) (by simp only [m_L_law_]; omega) (by simp only [m_L_law_]; omega) rfl (fun q2772 => ?_)
  refine V_istore (pc := 2775) (vs' := [some (.ref b0), some (.ref (wB w + 0)), some (.ref (wB w + 171)), some (.ref (wB w + 183)), some (.int i), some (.int q2754.1), some (.int q2772.1)]) dL_law__2775 (Nat.le_of_ble_eq_true rfl) (Nat.le_of_ble_eq_true rfl) rfl ?_
  refine V_aload_n (pc := 2777) dL_law__2777 rfl rfl ?_
  refine V_callVpi (pc := 2778) (As := []) (rest := []) (c_X12_thrown w  q2772.2) cw_L_150 rfl rfl dL_law__2778 kc_171 ci_12 ⟨by simp only [m_L_law_, m_X12_thrown]; omega, by simp only [m_L_law_, m_X12_thrown]; omega⟩ rfl rfl (Nat.le_of_ble_eq_true rfl) (by simp only [m_L_law_]; omega) (by simp only [m_L_law_]; omega) rfl (fun q2778 => ?_)
  refine V_iload (pc := 2781) dL_law__2781 rfl ?_
  refine V_icmp_eq (pc := 2783) (tgt := 2788) dL_law__2783 (by decide +kernel) ?_ ?_
  · refine V_iload (pc := 2788) dL_law__2788 rfl ?_
    refine V_if_ne (pc := 2790) (tgt := 2805) dL_law__2790 (by decide +kernel) ?_ ?_
    · refine V_sub (vs' := [some (.ref b0), some (.ref (wB w + 0)), some (.ref (wB w + 171)), some (.ref (wB w + 183)), some (.int i), none, none]) (show vless _ _ from ⟨rfl, ⟨rfl, ⟨rfl, ⟨rfl, ⟨rfl, trivial⟩⟩⟩⟩⟩) rfl ?_
      exact hJ2805 q2772.2
    · refine V_aload_n (pc := 2793) dL_law__2793 rfl rfl ?_
      refine V_iconst (pc := 2794) dL_law__2794 ic_0 ?_
      refine V_lald (pc := 2795) dL_law__2795 ?_
      refine V_iload (pc := 2796) dL_law__2796 rfl ?_
      refine V_i2l (pc := 2798) dL_law__2798 ?_
      refine V_lcmpeq (pc := 2799) (tgt := 2805) dL_law__2799 dL_law__2800 (by decide) ?_ ?_
      · refine V_sub (vs' := [some (.ref b0), some (.ref (wB w + 0)), some (.ref (wB w + 171)), some (.ref (wB w + 183)), some (.int i), none, none]) (show vless _ _ from ⟨rfl, ⟨rfl, ⟨rfl, ⟨rfl, ⟨rfl, trivial⟩⟩⟩⟩⟩) rfl ?_
        exact hJ2805 q2772.2
      · refine V_iconst (pc := 2803) dL_law__2803 ic_0 ?_
        exact V_none
  · refine V_iconst (pc := 2786) dL_law__2786 ic_0 ?_
    exact V_none
theorem wm_X11_seed : wmp m_X11_seed 1 := ⟨gx 629 (by decide +kernel) (by decide +kernel), gx 630 (by decide +kernel) (by decide +kernel), gx 127 (by decide +kernel) (by decide +kernel), gx 631 (by decide +kernel) (by decide +kernel), by decide +kernel, by decide +kernel, by decide +kernel⟩
theorem cw_L_291 : cwp RL 291 m_X11_seed 1 := cwp_of wm_X11_seed (gx 628 (by decide +kernel) (by decide +kernel))
theorem wm_X12_seed : wmp m_X12_seed 1 := ⟨gx 2140 (by decide +kernel) (by decide +kernel), gx 2141 (by decide +kernel) (by decide +kernel), gx 138 (by decide +kernel) (by decide +kernel), gx 2142 (by decide +kernel) (by decide +kernel), by decide +kernel, by decide +kernel, by decide +kernel⟩
theorem cw_L_294 : cwp RL 294 m_X12_seed 1 := cwp_of wm_X12_seed (gx 2139 (by decide +kernel) (by decide +kernel))
def step_44 (n : Nat) (x1 x2 x3 x4 x5 : Int32) (σ : MS) : Option MS := ((f_X11_seed x1 σ).bind (fun q2815 => ((f_X12_seed x1 q2815.2).bind (fun q2825 => (if q2815.1 = q2825.1 then some q2825.2 else none)))))
set_option maxRecDepth 20000 in
set_option maxHeartbeats 2000000 in
theorem v_case_44 (w : TG) (g : VG) (kc ks : Nat) (Q : State → Prop) (n b0 L : Nat) (xs : Nat → Int32) (i x1 x2 x3 x4 x5 : Int32) (hkc : kc + 40 ≤ 601024) (hks : ks + 240 ≤ 7293034) (hX : va_X b0 L xs (gS g) (gS g).heap) (hb0 : b0 < (gS g).heap.size) (hbA : ¬ wA w b0) (hi1 : inb (i + (1 : Int32)) L = true) (hx1 : xs (ix (i + (1 : Int32))) = x1) (hi2 : inb (i + (2 : Int32)) L = true) (hx2 : xs (ix (i + (2 : Int32))) = x2) (hi3 : inb (i + (3 : Int32)) L = true) (hx3 : xs (ix (i + (3 : Int32))) = x3) (hi4 : inb (i + (4 : Int32)) L = true) (hx4 : xs (ix (i + (4 : Int32))) = x4) (hi5 : inb (i + (5 : Int32)) L = true) (hx5 : xs (ix (i + (5 : Int32))) = x5) (σ : MS) : VV m_L_law_ w g kc ks Q (fun s => VH m_L_law_ w g (kc + 20) (ks + 120) Q 2895 [some (.ref b0), some (.ref (wB w + 0)), some (.ref (wB w + 171)), some (.ref (wB w + 183)), some (.int i), none, none] [] s) 2808 [some (.ref b0), some (.ref (wB w + 0)), some (.ref (wB w + 171)), some (.ref (wB w + 183)), some (.int i), none, none] [] σ (step_44 n x1 x2 x3 x4 x5 σ) := by
  unfold step_44
  refine V_aload_n (pc := 2808) dL_law__2808 rfl rfl ?_
  refine V_aload_n (pc := 2809) dL_law__2809 rfl rfl ?_
  refine V_iload (pc := 2810) dL_law__2810 rfl ?_
  refine V_iconst (pc := 2812) dL_law__2812 ic_1 ?_
  refine V_iadd (pc := 2813) dL_law__2813 ?_
  refine V_sld (pc := 2814) hX hb0 hbA hi1 hx1 dL_law__2814 ?_
  refine V_callVi (pc := 2815) (As := [.int x1]) (rest := []) (c_X11_seed w x1 σ) cw_L_291 rfl rfl dL_law__2815 kc_0 ci_11 ⟨by simp only [m_L_law_, m_X11_seed]; omega, by simp only [m_L_law_, m_X11_seed]; omega⟩ rfl rfl (Nat.le_of_ble_eq_true rfl) (by simp only [m_L_law_]; omega) (by simp only [m_L_law_]; omega) rfl (fun q2815 => ?_)
  refine V_aload_n (pc := 2818) dL_law__2818 rfl rfl ?_
  refine V_aload_n (pc := 2819) dL_law__2819 rfl rfl ?_
  refine V_iload (pc := 2820) dL_law__2820 rfl ?_
  refine V_iconst (pc := 2822) dL_law__2822 ic_1 ?_
  refine V_iadd (pc := 2823) dL_law__2823 ?_
  refine V_sld (pc := 2824) hX hb0 hbA hi1 hx1 dL_law__2824 ?_
  refine V_callVi (pc := 2825) (As := [.int x1]) (rest := [.int q2815.1]) (c_X12_seed w x1 q2815.2) cw_L_294 rfl rfl dL_law__2825 kc_171 ci_12 ⟨by simp only [m_L_law_, m_X12_seed]; omega, by simp only [m_L_law_, m_X12_seed]; omega⟩ rfl rfl (Nat.le_of_ble_eq_true rfl) (by simp only [m_L_law_]; omega) (by simp only [m_L_law_]; omega) rfl (fun q2825 => ?_)
  refine V_icmp_eq (pc := 2828) (tgt := 2895) dL_law__2828 (by decide +kernel) ?_ ?_
  · refine V_widen (kc' := kc + 20) (ks' := ks + 120) (by omega) (by omega) ?_
    exact V_back (fun h => h)
  · refine V_iconst (pc := 2831) dL_law__2831 ic_0 ?_
    exact V_none
theorem wm_X11_undo : wmp m_X11_undo 0 := ⟨gx 633 (by decide +kernel) (by decide +kernel), gx 634 (by decide +kernel) (by decide +kernel), gx 127 (by decide +kernel) (by decide +kernel), gx 635 (by decide +kernel) (by decide +kernel), by decide +kernel, by decide +kernel, by decide +kernel⟩
theorem cw_L_295 : cwp RL 295 m_X11_undo 0 := cwp_of wm_X11_undo (gx 632 (by decide +kernel) (by decide +kernel))
theorem wm_X12_undo : wmp m_X12_undo 0 := ⟨gx 1580 (by decide +kernel) (by decide +kernel), gx 1581 (by decide +kernel) (by decide +kernel), gx 138 (by decide +kernel) (by decide +kernel), gx 1582 (by decide +kernel) (by decide +kernel), by decide +kernel, by decide +kernel, by decide +kernel⟩
theorem cw_L_299 : cwp RL 299 m_X12_undo 0 := cwp_of wm_X12_undo (gx 1579 (by decide +kernel) (by decide +kernel))
def step_45 (n : Nat) (x1 x2 x3 x4 x5 : Int32) (σ : MS) : Option MS := ((f_X11_undo  σ).bind (fun q2834 => ((f_X12_undo n  q2834.2).bind (fun q2838 => (if q2834.1 = q2838.1 then some q2838.2 else none)))))
set_option maxRecDepth 20000 in
set_option maxHeartbeats 2000000 in
theorem v_case_45 (w : TG) (g : VG) (kc ks : Nat) (Q : State → Prop) (n b0 L : Nat) (xs : Nat → Int32) (i x1 x2 x3 x4 x5 : Int32) (hkc : kc + 40 ≤ 601024) (hks : ks + 240 ≤ 7293034) (hX : va_X b0 L xs (gS g) (gS g).heap) (hb0 : b0 < (gS g).heap.size) (hbA : ¬ wA w b0) (hi1 : inb (i + (1 : Int32)) L = true) (hx1 : xs (ix (i + (1 : Int32))) = x1) (hi2 : inb (i + (2 : Int32)) L = true) (hx2 : xs (ix (i + (2 : Int32))) = x2) (hi3 : inb (i + (3 : Int32)) L = true) (hx3 : xs (ix (i + (3 : Int32))) = x3) (hi4 : inb (i + (4 : Int32)) L = true) (hx4 : xs (ix (i + (4 : Int32))) = x4) (hi5 : inb (i + (5 : Int32)) L = true) (hx5 : xs (ix (i + (5 : Int32))) = x5) (σ : MS) : VV m_L_law_ w g kc ks Q (fun s => VH m_L_law_ w g (kc + 20) (ks + 120) Q 2895 [some (.ref b0), some (.ref (wB w + 0)), some (.ref (wB w + 171)), some (.ref (wB w + 183)), some (.int i), none, none] [] s) 2833 [some (.ref b0), some (.ref (wB w + 0)), some (.ref (wB w + 171)), some (.ref (wB w + 183)), some (.int i), none, none] [] σ (step_45 n x1 x2 x3 x4 x5 σ) := by
  unfold step_45
  refine V_aload_n (pc := 2833) dL_law__2833 rfl rfl ?_
  refine V_callVi (pc := 2834) (As := []) (rest := []) (c_X11_undo w  σ) cw_L_295 rfl rfl dL_law__2834 kc_0 ci_11 ⟨by simp only [m_L_law_, m_X11_undo]; omega, by simp only [m_L_law_, m_X11_undo]; omega⟩ rfl rfl (Nat.le_of_ble_eq_true rfl) (by simp only [m_L_law_]; omega) (by simp only [m_L_law_]; omega) rfl (fun q2834 => ?_)
  refine V_aload_n (pc := 2837) dL_law__2837 rfl rfl ?_
  refine V_callVi (pc := 2838) (As := []) (rest := [.int q2834.1]) (c_X12_undo w n  q2834.2) cw_L_299 rfl rfl dL_law__2838 kc_171 ci_12 ⟨by simp only [m_L_law_, m_X12_undo]; omega, by simp only [m_L_law_, m_X12_undo]; omega⟩ rfl rfl (Nat.le_of_ble_eq_true rfl) (by simp only [m_L_law_]; omega) (by simp only [m_L_law_]; omega) rfl (fun q2838 => ?_)
  refine V_icmp_eq (pc := 2841) (tgt := 2895) dL_law__2841 (by decide +kernel) ?_ ?_
  · refine V_widen (kc' := kc + 20) (ks' := ks + 120) (by omega) (by omega) ?_
    exact V_back (fun h => h)
  · refine V_iconst (pc := 2844) dL_law__2844 ic_0 ?_
    exact V_none
theorem wm_X11_image : wmp m_X11_image 0 := ⟨gx 644 (by decide +kernel) (by decide +kernel), gx 645 (by decide +kernel) (by decide +kernel), gx 127 (by decide +kernel) (by decide +kernel), gx 646 (by decide +kernel) (by decide +kernel), by decide +kernel, by decide +kernel, by decide +kernel⟩
theorem cw_L_300 : cwp RL 300 m_X11_image 0 := cwp_of wm_X11_image (gx 643 (by decide +kernel) (by decide +kernel))
theorem wm_X12_image : wmp m_X12_image 0 := ⟨gx 1572 (by decide +kernel) (by decide +kernel), gx 1573 (by decide +kernel) (by decide +kernel), gx 138 (by decide +kernel) (by decide +kernel), gx 1574 (by decide +kernel) (by decide +kernel), by decide +kernel, by decide +kernel, by decide +kernel⟩
theorem cw_L_303 : cwp RL 303 m_X12_image 0 := cwp_of wm_X12_image (gx 1571 (by decide +kernel) (by decide +kernel))
def step_46 (n : Nat) (x1 x2 x3 x4 x5 : Int32) (σ : MS) : Option MS := ((f_X11_image  σ).bind (fun q2847 => ((f_X12_image n  q2847.2).bind (fun q2851 => some q2851.2))))
set_option maxRecDepth 20000 in
set_option maxHeartbeats 2000000 in
theorem v_case_46 (w : TG) (g : VG) (kc ks : Nat) (Q : State → Prop) (n b0 L : Nat) (xs : Nat → Int32) (i x1 x2 x3 x4 x5 : Int32) (hkc : kc + 40 ≤ 601024) (hks : ks + 240 ≤ 7293034) (hX : va_X b0 L xs (gS g) (gS g).heap) (hb0 : b0 < (gS g).heap.size) (hbA : ¬ wA w b0) (hi1 : inb (i + (1 : Int32)) L = true) (hx1 : xs (ix (i + (1 : Int32))) = x1) (hi2 : inb (i + (2 : Int32)) L = true) (hx2 : xs (ix (i + (2 : Int32))) = x2) (hi3 : inb (i + (3 : Int32)) L = true) (hx3 : xs (ix (i + (3 : Int32))) = x3) (hi4 : inb (i + (4 : Int32)) L = true) (hx4 : xs (ix (i + (4 : Int32))) = x4) (hi5 : inb (i + (5 : Int32)) L = true) (hx5 : xs (ix (i + (5 : Int32))) = x5) (σ : MS) : VV m_L_law_ w g kc ks Q (fun s => VH m_L_law_ w g (kc + 20) (ks + 120) Q 2895 [some (.ref b0), some (.ref (wB w + 0)), some (.ref (wB w + 171)), some (.ref (wB w + 183)), some (.int i), none, none] [] s) 2846 [some (.ref b0), some (.ref (wB w + 0)), some (.ref (wB w + 171)), some (.ref (wB w + 183)), some (.int i), none, none] [] σ (step_46 n x1 x2 x3 x4 x5 σ) := by
  unfold step_46
  refine V_aload_n (pc := 2846) dL_law__2846 rfl rfl ?_
  refine V_callVv (pc := 2847) (As := []) (rest := []) (c_X11_image w  σ) cw_L_300 rfl rfl dL_law__2847 kc_0 ci_11 ⟨by simp only [m_L_law_, m_X11_image]; omega, by simp only [m_L_law_, m_X11_image]; omega⟩ rfl rfl (Nat.le_of_ble_eq_true rfl) (by simp only [m_L_law_]; omega) (by simp only [m_L_law_]; omega) rfl (fun q2847 => ?_)
  refine V_aload_n (pc := 2850) dL_law__2850 rfl rfl ?_
  refine V_callVv (pc := 2851) (As := []) (rest := []) (c_X12_image w n  q2847.2) cw_L_303 rfl rfl dL_law__2851 kc_171 ci_12 ⟨by simp only [m_L_law_, m_X12_image]; omega, by simp only [m_L_law_, m_X12_image]; omega⟩ rfl rfl (Nat.le_of_ble_eq_true rfl) (by simp only [m_L_law_]; omega) (by simp only [m_L_law_]; omega) rfl (fun q2851 => ?_)
  refine V_goto (pc := 2854) (tgt := 2895) dL_law__2854 (by decide +kernel) ?_
  refine V_widen (kc' := kc + 20) (ks' := ks + 120) (by omega) (by omega) ?_
  exact V_back (fun h => h)
theorem wm_X11_back : wmp m_X11_back 0 := ⟨gx 653 (by decide +kernel) (by decide +kernel), gx 654 (by decide +kernel) (by decide +kernel), gx 127 (by decide +kernel) (by decide +kernel), gx 655 (by decide +kernel) (by decide +kernel), by decide +kernel, by decide +kernel, by decide +kernel⟩
theorem cw_L_304 : cwp RL 304 m_X11_back 0 := cwp_of wm_X11_back (gx 652 (by decide +kernel) (by decide +kernel))
theorem wm_X12_back : wmp m_X12_back 0 := ⟨gx 1576 (by decide +kernel) (by decide +kernel), gx 1577 (by decide +kernel) (by decide +kernel), gx 138 (by decide +kernel) (by decide +kernel), gx 1578 (by decide +kernel) (by decide +kernel), by decide +kernel, by decide +kernel, by decide +kernel⟩
theorem cw_L_307 : cwp RL 307 m_X12_back 0 := cwp_of wm_X12_back (gx 1575 (by decide +kernel) (by decide +kernel))
def step_47 (n : Nat) (x1 x2 x3 x4 x5 : Int32) (σ : MS) : Option MS := ((f_X11_back  σ).bind (fun q2858 => ((f_X12_back n  q2858.2).bind (fun q2862 => (if q2858.1 = q2862.1 then some q2862.2 else none)))))
set_option maxRecDepth 20000 in
set_option maxHeartbeats 2000000 in
theorem v_case_47 (w : TG) (g : VG) (kc ks : Nat) (Q : State → Prop) (n b0 L : Nat) (xs : Nat → Int32) (i x1 x2 x3 x4 x5 : Int32) (hkc : kc + 40 ≤ 601024) (hks : ks + 240 ≤ 7293034) (hX : va_X b0 L xs (gS g) (gS g).heap) (hb0 : b0 < (gS g).heap.size) (hbA : ¬ wA w b0) (hi1 : inb (i + (1 : Int32)) L = true) (hx1 : xs (ix (i + (1 : Int32))) = x1) (hi2 : inb (i + (2 : Int32)) L = true) (hx2 : xs (ix (i + (2 : Int32))) = x2) (hi3 : inb (i + (3 : Int32)) L = true) (hx3 : xs (ix (i + (3 : Int32))) = x3) (hi4 : inb (i + (4 : Int32)) L = true) (hx4 : xs (ix (i + (4 : Int32))) = x4) (hi5 : inb (i + (5 : Int32)) L = true) (hx5 : xs (ix (i + (5 : Int32))) = x5) (σ : MS) : VV m_L_law_ w g kc ks Q (fun s => VH m_L_law_ w g (kc + 20) (ks + 120) Q 2895 [some (.ref b0), some (.ref (wB w + 0)), some (.ref (wB w + 171)), some (.ref (wB w + 183)), some (.int i), none, none] [] s) 2857 [some (.ref b0), some (.ref (wB w + 0)), some (.ref (wB w + 171)), some (.ref (wB w + 183)), some (.int i), none, none] [] σ (step_47 n x1 x2 x3 x4 x5 σ) := by
  unfold step_47
  refine V_aload_n (pc := 2857) dL_law__2857 rfl rfl ?_
  refine V_callVi (pc := 2858) (As := []) (rest := []) (c_X11_back w  σ) cw_L_304 rfl rfl dL_law__2858 kc_0 ci_11 ⟨by simp only [m_L_law_, m_X11_back]; omega, by simp only [m_L_law_, m_X11_back]; omega⟩ rfl rfl (Nat.le_of_ble_eq_true rfl) (by simp only [m_L_law_]; omega) (by simp only [m_L_law_]; omega) rfl (fun q2858 => ?_)
  refine V_aload_n (pc := 2861) dL_law__2861 rfl rfl ?_
  refine V_callVi (pc := 2862) (As := []) (rest := [.int q2858.1]) (c_X12_back w n  q2858.2) cw_L_307 rfl rfl dL_law__2862 kc_171 ci_12 ⟨by simp only [m_L_law_, m_X12_back]; omega, by simp only [m_L_law_, m_X12_back]; omega⟩ rfl rfl (Nat.le_of_ble_eq_true rfl) (by simp only [m_L_law_]; omega) (by simp only [m_L_law_]; omega) rfl (fun q2862 => ?_)
  refine V_icmp_eq (pc := 2865) (tgt := 2895) dL_law__2865 (by decide +kernel) ?_ ?_
  · refine V_widen (kc' := kc + 20) (ks' := ks + 120) (by omega) (by omega) ?_
    exact V_back (fun h => h)
  · refine V_iconst (pc := 2868) dL_law__2868 ic_0 ?_
    exact V_none
theorem wm_X11_count : wmp m_X11_count 1 := ⟨gx 657 (by decide +kernel) (by decide +kernel), gx 658 (by decide +kernel) (by decide +kernel), gx 127 (by decide +kernel) (by decide +kernel), gx 659 (by decide +kernel) (by decide +kernel), by decide +kernel, by decide +kernel, by decide +kernel⟩
theorem cw_L_308 : cwp RL 308 m_X11_count 1 := cwp_of wm_X11_count (gx 656 (by decide +kernel) (by decide +kernel))
theorem wm_X12_count : wmp m_X12_count 1 := ⟨gx 2144 (by decide +kernel) (by decide +kernel), gx 2145 (by decide +kernel) (by decide +kernel), gx 138 (by decide +kernel) (by decide +kernel), gx 2146 (by decide +kernel) (by decide +kernel), by decide +kernel, by decide +kernel, by decide +kernel⟩
theorem cw_L_311 : cwp RL 311 m_X12_count 1 := cwp_of wm_X12_count (gx 2143 (by decide +kernel) (by decide +kernel))
def step_48 (n : Nat) (x1 x2 x3 x4 x5 : Int32) (σ : MS) : Option MS := ((f_X11_count n x1 σ).bind (fun q2877 => ((f_X12_count n x1 σ).bind (fun q2887 => (if q2877 = q2887.1 then some q2887.2 else none)))))
set_option maxRecDepth 20000 in
set_option maxHeartbeats 2000000 in
theorem v_case_48 (w : TG) (g : VG) (kc ks : Nat) (Q : State → Prop) (n b0 L : Nat) (xs : Nat → Int32) (i x1 x2 x3 x4 x5 : Int32) (hkc : kc + 40 ≤ 601024) (hks : ks + 240 ≤ 7293034) (hX : va_X b0 L xs (gS g) (gS g).heap) (hb0 : b0 < (gS g).heap.size) (hbA : ¬ wA w b0) (hi1 : inb (i + (1 : Int32)) L = true) (hx1 : xs (ix (i + (1 : Int32))) = x1) (hi2 : inb (i + (2 : Int32)) L = true) (hx2 : xs (ix (i + (2 : Int32))) = x2) (hi3 : inb (i + (3 : Int32)) L = true) (hx3 : xs (ix (i + (3 : Int32))) = x3) (hi4 : inb (i + (4 : Int32)) L = true) (hx4 : xs (ix (i + (4 : Int32))) = x4) (hi5 : inb (i + (5 : Int32)) L = true) (hx5 : xs (ix (i + (5 : Int32))) = x5) (σ : MS) : VV m_L_law_ w g kc ks Q (fun s => VH m_L_law_ w g (kc + 20) (ks + 120) Q 2895 [some (.ref b0), some (.ref (wB w + 0)), some (.ref (wB w + 171)), some (.ref (wB w + 183)), some (.int i), none, none] [] s) 2870 [some (.ref b0), some (.ref (wB w + 0)), some (.ref (wB w + 171)), some (.ref (wB w + 183)), some (.int i), none, none] [] σ (step_48 n x1 x2 x3 x4 x5 σ) := by
  unfold step_48
  refine V_aload_n (pc := 2870) dL_law__2870 rfl rfl ?_
  refine V_aload_n (pc := 2871) dL_law__2871 rfl rfl ?_
  refine V_iload (pc := 2872) dL_law__2872 rfl ?_
  refine V_iconst (pc := 2874) dL_law__2874 ic_1 ?_
  refine V_iadd (pc := 2875) dL_law__2875 ?_
  refine V_sld (pc := 2876) hX hb0 hbA hi1 hx1 dL_law__2876 ?_
  refine V_callVpi (pc := 2877) (As := [.int x1]) (rest := []) (c_X11_count w n x1 σ) cw_L_308 rfl rfl dL_law__2877 kc_0 ci_11 ⟨by simp only [m_L_law_, m_X11_count]; omega, by simp only [m_L_law_, m_X11_count]; omega⟩ rfl rfl (Nat.le_of_ble_eq_true rfl) (by simp only [m_L_law_]; omega) (by simp only [m_L_law_]; omega) rfl (fun q2877 => ?_)
  refine V_aload_n (pc := 2880) dL_law__2880 rfl rfl ?_
  refine V_aload_n (pc := 2881) dL_law__2881 rfl rfl ?_
  refine V_iload (pc := 2882) dL_law__2882 rfl ?_
  refine V_iconst (pc := 2884) dL_law__2884 ic_1 ?_
  refine V_iadd (pc := 2885) dL_law__2885 ?_
  refine V_sld (pc := 2886) hX hb0 hbA hi1 hx1 dL_law__2886 ?_
  refine V_callVi (pc := 2887) (As := [.int x1]) (rest := [.int q2877]) (c_X12_count w n x1 σ) cw_L_311 rfl rfl dL_law__2887 kc_171 ci_12 ⟨by simp only [m_L_law_, m_X12_count]; omega, by simp only [m_L_law_, m_X12_count]; omega⟩ rfl rfl (Nat.le_of_ble_eq_true rfl) (by simp only [m_L_law_]; omega) (by simp only [m_L_law_]; omega) rfl (fun q2887 => ?_)
  refine V_icmp_eq (pc := 2890) (tgt := 2895) dL_law__2890 (by decide +kernel) ?_ ?_
  · refine V_widen (kc' := kc + 20) (ks' := ks + 120) (by omega) (by omega) ?_
    exact V_back (fun h => h)
  · refine V_iconst (pc := 2893) dL_law__2893 ic_0 ?_
    exact V_none
