def m_X11_seed : MD := (yX11_seed, cX11_seed, 3, (some .int), 0, 0, 0, 0)
def m_X11_undo : MD := (yX11_undo, cX11_undo, 1, (some .boolean), 5, 221, 0, 0)
def m_X11_image : MD := (yX11_image, cX11_image, 1, none, 5, 221, 0, 0)
def m_X11_back : MD := (yX11_back, cX11_back, 1, (some .boolean), 5, 221, 0, 0)
def m_X11_count : MD := (yX11_count, cX11_count, 2, (some .int), 5, 220, 0, 0)
theorem fk_X11_26 : fk RX11 26 11 3 := ⟨_, _, _, rfl, in_11, by decide, rfl, by decide, gx 423 (by decide +kernel) (by decide +kernel)⟩
theorem fk_X11_39 : fk RX11 39 11 6 := ⟨_, _, _, rfl, in_11, by decide, rfl, by decide, gx 426 (by decide +kernel) (by decide +kernel)⟩
theorem fp_X11_357 : fp RX11 357 11 17 .boolean := ⟨_, _, _, tyX11, rfl, in_11, by decide, rfl, by decide, gx 437 (by decide +kernel) (by decide +kernel), rfl, by decide +kernel, tyX11_ok, nmX11⟩
theorem fk_X11_357 : fk RX11 357 11 17 := ⟨_, _, _, rfl, in_11, by decide, rfl, by decide, gx 437 (by decide +kernel) (by decide +kernel)⟩
theorem fk_X11_361 : fk RX11 361 4 5 := ⟨_, _, _, rfl, in_4, by decide, rfl, by decide, gx 229 (by decide +kernel) (by decide +kernel)⟩
theorem fk_X11_364 : fk RX11 364 4 3 := ⟨_, _, _, rfl, in_4, by decide, rfl, by decide, gx 218 (by decide +kernel) (by decide +kernel)⟩
theorem fk_X11_367 : fk RX11 367 4 4 := ⟨_, _, _, rfl, in_4, by decide, rfl, by decide, gx 222 (by decide +kernel) (by decide +kernel)⟩
theorem wm_X4_couples : wmp m_X4_couples 0 := ⟨gx 665 (by decide +kernel) (by decide +kernel), gx 666 (by decide +kernel) (by decide +kernel), gx 129 (by decide +kernel) (by decide +kernel), gx 667 (by decide +kernel) (by decide +kernel), by decide +kernel, by decide +kernel, by decide +kernel⟩
theorem cw_X11_370 : cwp RX11 370 m_X4_couples 0 := cwp_of wm_X4_couples (gx 664 (by decide +kernel) (by decide +kernel))
theorem wm_X10_holding : wmp m_X10_holding 0 := ⟨gx 669 (by decide +kernel) (by decide +kernel), gx 670 (by decide +kernel) (by decide +kernel), gx 134 (by decide +kernel) (by decide +kernel), gx 671 (by decide +kernel) (by decide +kernel), by decide +kernel, by decide +kernel, by decide +kernel⟩
theorem cw_X11_373 : cwp RX11 373 m_X10_holding 0 := cwp_of wm_X10_holding (gx 668 (by decide +kernel) (by decide +kernel))
def f_X11_seed (p1 : Int32) (σ : MS) : Option (Int32 × MS) := (ltM (mu σ 3 6 p1) (fun s13 => some ((σ 3 6), s13)))
set_option maxRecDepth 20000 in
set_option maxHeartbeats 2000000 in
theorem c_X11_seed (w : TG) (p1 : Int32) (σ : MS) : MC m_X11_seed w [.ref (wB w + 0), .int p1] σ (f_X11_seed p1 σ) := by
  refine V_meth (by decide +kernel) (Nat.le_of_ble_eq_true rfl) (by intro v hv; simp only [List.mem_cons, List.not_mem_nil, or_false] at hv; rcases hv with rfl | rfl <;> rfl) (fun g x => ?_)
  show VV m_X11_seed w g 0 0 (QM m_X11_seed w g x) (fun b : Int32 × MS => b = x) 0 [some (.ref (wB w + 0)), some (.int p1), none] [] σ (f_X11_seed p1 σ)
  refine V_aload_n (pc := 0) dX11_seed_0 rfl rfl ?_
  refine V_getr (pc := 1) (t := 3) fk_X11_19 rfl dX11_seed_1 kc_0 rf_11_1_0 ?_
  refine V_geti (pc := 4) fk_X11_332 rfl dX11_seed_4 kc_3 rf_4_6_3 ?_
  refine V_istore_n (pc := 7) (vs' := [some (.ref (wB w + 0)), some (.int p1), some (.int (σ 3 6))]) dX11_seed_7 rfl (Nat.le_of_ble_eq_true rfl) (Nat.le_of_ble_eq_true rfl) rfl ?_
  refine V_aload_n (pc := 8) dX11_seed_8 rfl rfl ?_
  refine V_getr (pc := 9) (t := 3) fk_X11_19 rfl dX11_seed_9 kc_0 rf_11_1_0 ?_
  refine V_iload_n (pc := 12) dX11_seed_12 rfl rfl ?_
  refine V_puti (pc := 13) fp_X11_332 rfl dX11_seed_13 kc_3 rf_4_6_3 (fun s13 => ?_)
  refine V_iload_n (pc := 16) dX11_seed_16 rfl rfl ?_
  exact V_ireti (pc := 17) dX11_seed_17 rfl (hk := fun h => h)
def f_X11_undo  (σ : MS) : Option (Int32 × MS) := (if 0 < (σ 0 16) then (ltM (mu σ 0 16 ((σ 0 16) - (1 : Int32))) (fun s16 => (if inb (remI ((s16 0 15) + (s16 0 16)) (12 : Int32)) 12 then ((f_X4_become 3 (63 + 9 * ix (remI ((s16 0 15) + (s16 0 16)) (12 : Int32))) s16).bind (fun q40 => some ((1 : Int32), q40.2))) else none))) else some ((0 : Int32), σ))
set_option maxRecDepth 20000 in
set_option maxHeartbeats 2000000 in
theorem c_X11_undo (w : TG)  (σ : MS) : MC m_X11_undo w [.ref (wB w + 0)] σ (f_X11_undo  σ) := by
  refine V_meth (by decide +kernel) (Nat.le_of_ble_eq_true rfl) (by intro v hv; simp only [List.mem_cons, List.not_mem_nil, or_false] at hv; subst hv; rfl) (fun g x => ?_)
  show VV m_X11_undo w g 0 0 (QM m_X11_undo w g x) (fun b : Int32 × MS => b = x) 0 [some (.ref (wB w + 0))] [] σ (f_X11_undo  σ)
  refine V_aload_n (pc := 0) dX11_undo_0 rfl rfl ?_
  refine V_geti (pc := 1) fk_X11_134 rfl dX11_undo_1 kc_0 rf_11_16_0 ?_
  refine V_if_gt (pc := 4) (tgt := 9) dX11_undo_4 (by decide +kernel) ?_ ?_
  · refine V_aload_n (pc := 9) dX11_undo_9 rfl rfl ?_
    refine V_dup (pc := 10) dX11_undo_10 rfl ?_
    refine V_geti (pc := 11) fk_X11_134 rfl dX11_undo_11 kc_0 rf_11_16_0 ?_
    refine V_iconst (pc := 14) dX11_undo_14 ic_1 ?_
    refine V_isub (pc := 15) dX11_undo_15 ?_
    refine V_puti (pc := 16) fp_X11_134 rfl dX11_undo_16 kc_0 rf_11_16_0 (fun s16 => ?_)
    refine V_aload_n (pc := 19) dX11_undo_19 rfl rfl ?_
    refine V_getr (pc := 20) (t := 3) fk_X11_19 rfl dX11_undo_20 kc_0 rf_11_1_0 ?_
    refine V_aload_n (pc := 23) dX11_undo_23 rfl rfl ?_
    refine V_getr (pc := 24) (t := 62) fk_X11_99 rfl dX11_undo_24 kc_0 rf_11_14_0 ?_
    refine V_aload_n (pc := 27) dX11_undo_27 rfl rfl ?_
    refine V_geti (pc := 28) fk_X11_354 rfl dX11_undo_28 kc_0 rf_11_15_0 ?_
    refine V_aload_n (pc := 31) dX11_undo_31 rfl rfl ?_
    refine V_geti (pc := 32) fk_X11_134 rfl dX11_undo_32 kc_0 rf_11_16_0 ?_
    refine V_iadd (pc := 35) dX11_undo_35 ?_
    refine V_bipush (pc := 36) dX11_undo_36 bp_12 ?_
    refine V_irem (pc := 38) dX11_undo_38 (by decide +kernel) ?_
    refine V_aaldH (pc := 39) dX11_undo_39 (fun hin => ?_)
    refine V_callVv (pc := 40) (As := [.ref (wB w + (63 + 9 * ix (remI ((s16 0 15) + (s16 0 16)) (12 : Int32))))]) (rest := []) (c_X4_become w 3 (63 + 9 * ix (remI ((s16 0 15) + (s16 0 16)) (12 : Int32))) kc_3 (kpast hin) s16) cw_X11_114 rfl rfl dX11_undo_40 kc_3 ci_4 ⟨Nat.le_of_ble_eq_true rfl, Nat.le_of_ble_eq_true rfl⟩ rfl rfl (Nat.le_of_ble_eq_true rfl) (Nat.le_of_ble_eq_true rfl) (Nat.le_of_ble_eq_true rfl) rfl (fun q40 => ?_)
    refine V_iconst (pc := 43) dX11_undo_43 ic_1 ?_
    exact V_iretz (pc := 44) dX11_undo_44 rfl rfl (hk := fun h => h)
  · refine V_iconst (pc := 7) dX11_undo_7 ic_0 ?_
    exact V_iretz (pc := 8) dX11_undo_8 rfl rfl (hk := fun h => h)
def f_X11_image  (σ : MS) : Option (Int32 × MS) := ((f_X4_become 21 3 σ).bind (fun q8 => ((f_X6_become 44 30 q8.2).bind (fun q19 => (ltM (mu q19.2 0 17 (1 : Int32)) (fun s24 => some (0, s24)))))))
set_option maxRecDepth 20000 in
set_option maxHeartbeats 2000000 in
theorem c_X11_image (w : TG)  (σ : MS) : MC m_X11_image w [.ref (wB w + 0)] σ (f_X11_image  σ) := by
  refine V_meth (by decide +kernel) (Nat.le_of_ble_eq_true rfl) (by intro v hv; simp only [List.mem_cons, List.not_mem_nil, or_false] at hv; subst hv; rfl) (fun g x => ?_)
  show VV m_X11_image w g 0 0 (QM m_X11_image w g x) (fun b : Int32 × MS => b = x) 0 [some (.ref (wB w + 0))] [] σ (f_X11_image  σ)
  refine V_aload_n (pc := 0) dX11_image_0 rfl rfl ?_
  refine V_getr (pc := 1) (t := 21) fk_X11_26 rfl dX11_image_1 kc_0 rf_11_3_0 ?_
  refine V_aload_n (pc := 4) dX11_image_4 rfl rfl ?_
  refine V_getr (pc := 5) (t := 3) fk_X11_19 rfl dX11_image_5 kc_0 rf_11_1_0 ?_
  refine V_callVv (pc := 8) (As := [.ref (wB w + 3)]) (rest := []) (c_X4_become w 21 3 kc_21 kc_3 σ) cw_X11_114 rfl rfl dX11_image_8 kc_21 ci_4 ⟨Nat.le_of_ble_eq_true rfl, Nat.le_of_ble_eq_true rfl⟩ rfl rfl (Nat.le_of_ble_eq_true rfl) (Nat.le_of_ble_eq_true rfl) (Nat.le_of_ble_eq_true rfl) rfl (fun q8 => ?_)
  refine V_aload_n (pc := 11) dX11_image_11 rfl rfl ?_
  refine V_getr (pc := 12) (t := 44) fk_X11_39 rfl dX11_image_12 kc_0 rf_11_6_0 ?_
  refine V_aload_n (pc := 15) dX11_image_15 rfl rfl ?_
  refine V_getr (pc := 16) (t := 30) fk_X11_32 rfl dX11_image_16 kc_0 rf_11_4_0 ?_
  refine V_callVv (pc := 19) (As := [.ref (wB w + 30)]) (rest := []) (c_X6_become w 44 30 kc_44 kc_30 q8.2) cw_X11_140 rfl rfl dX11_image_19 kc_44 ci_6 ⟨Nat.le_of_ble_eq_true rfl, Nat.le_of_ble_eq_true rfl⟩ rfl rfl (Nat.le_of_ble_eq_true rfl) (Nat.le_of_ble_eq_true rfl) (Nat.le_of_ble_eq_true rfl) rfl (fun q19 => ?_)
  refine V_aload_n (pc := 22) dX11_image_22 rfl rfl ?_
  refine V_iconst (pc := 23) dX11_image_23 ic_1 ?_
  refine V_put (pc := 24) fp_X11_357 rfl dX11_image_24 kc_0 rfl rfl rfl (fun s24 => ?_)
  exact V_ret (pc := 27) dX11_image_27 rfl (hk := fun h => h)
def f_X11_back  (σ : MS) : Option (Int32 × MS) := (if (σ 0 17) = 0 then some ((0 : Int32), σ) else ((f_X4_become 3 21 σ).bind (fun q17 => ((f_X6_become 30 44 q17.2).bind (fun q28 => (ltM (mu q28.2 0 16 (0 : Int32)) (fun s33 => some ((1 : Int32), s33))))))))
set_option maxRecDepth 20000 in
set_option maxHeartbeats 2000000 in
theorem c_X11_back (w : TG)  (σ : MS) : MC m_X11_back w [.ref (wB w + 0)] σ (f_X11_back  σ) := by
  refine V_meth (by decide +kernel) (Nat.le_of_ble_eq_true rfl) (by intro v hv; simp only [List.mem_cons, List.not_mem_nil, or_false] at hv; subst hv; rfl) (fun g x => ?_)
  show VV m_X11_back w g 0 0 (QM m_X11_back w g x) (fun b : Int32 × MS => b = x) 0 [some (.ref (wB w + 0))] [] σ (f_X11_back  σ)
  refine V_aload_n (pc := 0) dX11_back_0 rfl rfl ?_
  refine V_geti (pc := 1) fk_X11_357 rfl dX11_back_1 kc_0 rf_11_17_0 ?_
  refine V_if_ne (pc := 4) (tgt := 9) dX11_back_4 (by decide +kernel) ?_ ?_
  · refine V_aload_n (pc := 9) dX11_back_9 rfl rfl ?_
    refine V_getr (pc := 10) (t := 3) fk_X11_19 rfl dX11_back_10 kc_0 rf_11_1_0 ?_
    refine V_aload_n (pc := 13) dX11_back_13 rfl rfl ?_
    refine V_getr (pc := 14) (t := 21) fk_X11_26 rfl dX11_back_14 kc_0 rf_11_3_0 ?_
    refine V_callVv (pc := 17) (As := [.ref (wB w + 21)]) (rest := []) (c_X4_become w 3 21 kc_3 kc_21 σ) cw_X11_114 rfl rfl dX11_back_17 kc_3 ci_4 ⟨Nat.le_of_ble_eq_true rfl, Nat.le_of_ble_eq_true rfl⟩ rfl rfl (Nat.le_of_ble_eq_true rfl) (Nat.le_of_ble_eq_true rfl) (Nat.le_of_ble_eq_true rfl) rfl (fun q17 => ?_)
    refine V_aload_n (pc := 20) dX11_back_20 rfl rfl ?_
    refine V_getr (pc := 21) (t := 30) fk_X11_32 rfl dX11_back_21 kc_0 rf_11_4_0 ?_
    refine V_aload_n (pc := 24) dX11_back_24 rfl rfl ?_
    refine V_getr (pc := 25) (t := 44) fk_X11_39 rfl dX11_back_25 kc_0 rf_11_6_0 ?_
    refine V_callVv (pc := 28) (As := [.ref (wB w + 44)]) (rest := []) (c_X6_become w 30 44 kc_30 kc_44 q17.2) cw_X11_140 rfl rfl dX11_back_28 kc_30 ci_6 ⟨Nat.le_of_ble_eq_true rfl, Nat.le_of_ble_eq_true rfl⟩ rfl rfl (Nat.le_of_ble_eq_true rfl) (Nat.le_of_ble_eq_true rfl) (Nat.le_of_ble_eq_true rfl) rfl (fun q28 => ?_)
    refine V_aload_n (pc := 31) dX11_back_31 rfl rfl ?_
    refine V_iconst (pc := 32) dX11_back_32 ic_0 ?_
    refine V_puti (pc := 33) fp_X11_134 rfl dX11_back_33 kc_0 rf_11_16_0 (fun s33 => ?_)
    refine V_iconst (pc := 36) dX11_back_36 ic_1 ?_
    exact V_iretz (pc := 37) dX11_back_37 rfl rfl (hk := fun h => h)
  · refine V_iconst (pc := 7) dX11_back_7 ic_0 ?_
    exact V_iretz (pc := 8) dX11_back_8 rfl rfl (hk := fun h => h)
def f_X11_count (n : Nat) (p1 : Int32) (σ : MS) : Option (Int32) := (if p1 = (0 : Int32) then some (σ 3 0) else (if p1 = (1 : Int32) then some (σ 3 1) else (if p1 = (2 : Int32) then some (σ 30 0) else (if p1 = (3 : Int32) then some (σ 3 5) else (if p1 = (4 : Int32) then some (σ 3 2) else (if p1 = (5 : Int32) then some (σ 3 3) else (if p1 = (6 : Int32) then some (σ 3 4) else (if p1 = (7 : Int32) then ((f_X4_allSuspicion n 3 σ).bind (fun q128 => some q128)) else (if p1 = (8 : Int32) then ((f_X4_couples n 3 σ).bind (fun q136 => some q136)) else (if p1 = (9 : Int32) then ((f_X10_holding n  σ).bind (fun q144 => some q144)) else (if p1 = (10 : Int32) then some (σ 3 7) else (if p1 = (11 : Int32) then ((f_X4_rows 3 σ).bind (fun q160 => some q160)) else (if p1 = (12 : Int32) then some (σ 0 16) else some (-1 : Int32))))))))))))))
set_option maxRecDepth 20000 in
set_option maxHeartbeats 2000000 in
theorem c_X11_count (w : TG) (n : Nat) (p1 : Int32) (σ : MS) : MC m_X11_count w [.ref (wB w + 0), .int p1] σ ((f_X11_count n p1 σ).map (fun r => (r, σ))) := by
  refine V_methp (by decide +kernel) (Nat.le_of_ble_eq_true rfl) (by intro v hv; simp only [List.mem_cons, List.not_mem_nil, or_false] at hv; rcases hv with rfl | rfl <;> rfl) (fun g x => ?_)
  show VV m_X11_count w g 0 0 (QM m_X11_count w g x) (fun b : Int32 => (b, σ) = x) 0 [some (.ref (wB w + 0)), some (.int p1)] [] σ (f_X11_count n p1 σ)
  refine V_iload_n (pc := 0) dX11_count_0 rfl rfl ?_
  refine V_ite (c := p1 = (0 : Int32)) (fun hx => ?_) (fun hx0 => ?_)
  · refine V_tabIn (pc := 1) (x := p1) (tgt := 68) dX11_count_1 (by rw [hx]; decide) (by rw [hx]; decide) (by rw [hx]; rfl) (by decide) ?_
    refine V_aload_n (pc := 68) dX11_count_68 rfl rfl ?_
    refine V_getr (pc := 69) (t := 3) fk_X11_19 rfl dX11_count_69 kc_0 rf_11_1_0 ?_
    refine V_geti (pc := 72) fk_X11_326 rfl dX11_count_72 kc_3 rf_4_0_3 ?_
    exact V_ireti (pc := 75) dX11_count_75 rfl (hk := fun h => h)
  refine V_ite (c := p1 = (1 : Int32)) (fun hx => ?_) (fun hx1 => ?_)
  · refine V_tabIn (pc := 1) (x := p1) (tgt := 76) dX11_count_1 (by rw [hx]; decide) (by rw [hx]; decide) (by rw [hx]; rfl) (by decide) ?_
    refine V_aload_n (pc := 76) dX11_count_76 rfl rfl ?_
    refine V_getr (pc := 77) (t := 3) fk_X11_19 rfl dX11_count_77 kc_0 rf_11_1_0 ?_
    refine V_geti (pc := 80) fk_X11_128 rfl dX11_count_80 kc_3 rf_4_1_3 ?_
    exact V_ireti (pc := 83) dX11_count_83 rfl (hk := fun h => h)
  refine V_ite (c := p1 = (2 : Int32)) (fun hx => ?_) (fun hx2 => ?_)
  · refine V_tabIn (pc := 1) (x := p1) (tgt := 84) dX11_count_1 (by rw [hx]; decide) (by rw [hx]; decide) (by rw [hx]; rfl) (by decide) ?_
    refine V_aload_n (pc := 84) dX11_count_84 rfl rfl ?_
    refine V_getr (pc := 85) (t := 30) fk_X11_32 rfl dX11_count_85 kc_0 rf_11_4_0 ?_
    refine V_geti (pc := 88) fk_X11_143 rfl dX11_count_88 kc_30 rf_6_0_30 ?_
    exact V_ireti (pc := 91) dX11_count_91 rfl (hk := fun h => h)
  refine V_ite (c := p1 = (3 : Int32)) (fun hx => ?_) (fun hx3 => ?_)
  · refine V_tabIn (pc := 1) (x := p1) (tgt := 92) dX11_count_1 (by rw [hx]; decide) (by rw [hx]; decide) (by rw [hx]; rfl) (by decide) ?_
    refine V_aload_n (pc := 92) dX11_count_92 rfl rfl ?_
    refine V_getr (pc := 93) (t := 3) fk_X11_19 rfl dX11_count_93 kc_0 rf_11_1_0 ?_
    refine V_geti (pc := 96) fk_X11_361 rfl dX11_count_96 kc_3 rf_4_5_3 ?_
    exact V_ireti (pc := 99) dX11_count_99 rfl (hk := fun h => h)
  refine V_ite (c := p1 = (4 : Int32)) (fun hx => ?_) (fun hx4 => ?_)
  · refine V_tabIn (pc := 1) (x := p1) (tgt := 100) dX11_count_1 (by rw [hx]; decide) (by rw [hx]; decide) (by rw [hx]; rfl) (by decide) ?_
    refine V_aload_n (pc := 100) dX11_count_100 rfl rfl ?_
    refine V_getr (pc := 101) (t := 3) fk_X11_19 rfl dX11_count_101 kc_0 rf_11_1_0 ?_
    refine V_geti (pc := 104) fk_X11_236 rfl dX11_count_104 kc_3 rf_4_2_3 ?_
    exact V_ireti (pc := 107) dX11_count_107 rfl (hk := fun h => h)
  refine V_ite (c := p1 = (5 : Int32)) (fun hx => ?_) (fun hx5 => ?_)
  · refine V_tabIn (pc := 1) (x := p1) (tgt := 108) dX11_count_1 (by rw [hx]; decide) (by rw [hx]; decide) (by rw [hx]; rfl) (by decide) ?_
    refine V_aload_n (pc := 108) dX11_count_108 rfl rfl ?_
    refine V_getr (pc := 109) (t := 3) fk_X11_19 rfl dX11_count_109 kc_0 rf_11_1_0 ?_
    refine V_geti (pc := 112) fk_X11_364 rfl dX11_count_112 kc_3 rf_4_3_3 ?_
    exact V_ireti (pc := 115) dX11_count_115 rfl (hk := fun h => h)
  refine V_ite (c := p1 = (6 : Int32)) (fun hx => ?_) (fun hx6 => ?_)
  · refine V_tabIn (pc := 1) (x := p1) (tgt := 116) dX11_count_1 (by rw [hx]; decide) (by rw [hx]; decide) (by rw [hx]; rfl) (by decide) ?_
    refine V_aload_n (pc := 116) dX11_count_116 rfl rfl ?_
    refine V_getr (pc := 117) (t := 3) fk_X11_19 rfl dX11_count_117 kc_0 rf_11_1_0 ?_
    refine V_geti (pc := 120) fk_X11_367 rfl dX11_count_120 kc_3 rf_4_4_3 ?_
    exact V_ireti (pc := 123) dX11_count_123 rfl (hk := fun h => h)
  refine V_ite (c := p1 = (7 : Int32)) (fun hx => ?_) (fun hx7 => ?_)
  · refine V_tabIn (pc := 1) (x := p1) (tgt := 124) dX11_count_1 (by rw [hx]; decide) (by rw [hx]; decide) (by rw [hx]; rfl) (by decide) ?_
    refine V_aload_n (pc := 124) dX11_count_124 rfl rfl ?_
    refine V_getr (pc := 125) (t := 3) fk_X11_19 rfl dX11_count_125 kc_0 rf_11_1_0 ?_
    refine V_callVpi (pc := 128) (As := []) (rest := []) (c_X4_allSuspicion w n 3 kc_3 σ) cw_X11_338 rfl rfl dX11_count_128 kc_3 ci_4 ⟨Nat.le_of_ble_eq_true rfl, Nat.le_of_ble_eq_true rfl⟩ rfl rfl (Nat.le_of_ble_eq_true rfl) (Nat.le_of_ble_eq_true rfl) (Nat.le_of_ble_eq_true rfl) rfl (fun q128 => ?_)
    exact V_ireti (pc := 131) dX11_count_131 rfl (hk := fun h => h)
  refine V_ite (c := p1 = (8 : Int32)) (fun hx => ?_) (fun hx8 => ?_)
  · refine V_tabIn (pc := 1) (x := p1) (tgt := 132) dX11_count_1 (by rw [hx]; decide) (by rw [hx]; decide) (by rw [hx]; rfl) (by decide) ?_
    refine V_aload_n (pc := 132) dX11_count_132 rfl rfl ?_
    refine V_getr (pc := 133) (t := 3) fk_X11_19 rfl dX11_count_133 kc_0 rf_11_1_0 ?_
    refine V_callVpi (pc := 136) (As := []) (rest := []) (c_X4_couples w n 3 kc_3 σ) cw_X11_370 rfl rfl dX11_count_136 kc_3 ci_4 ⟨Nat.le_of_ble_eq_true rfl, Nat.le_of_ble_eq_true rfl⟩ rfl rfl (Nat.le_of_ble_eq_true rfl) (Nat.le_of_ble_eq_true rfl) (Nat.le_of_ble_eq_true rfl) rfl (fun q136 => ?_)
    exact V_ireti (pc := 139) dX11_count_139 rfl (hk := fun h => h)
  refine V_ite (c := p1 = (9 : Int32)) (fun hx => ?_) (fun hx9 => ?_)
  · refine V_tabIn (pc := 1) (x := p1) (tgt := 140) dX11_count_1 (by rw [hx]; decide) (by rw [hx]; decide) (by rw [hx]; rfl) (by decide) ?_
    refine V_aload_n (pc := 140) dX11_count_140 rfl rfl ?_
    refine V_getr (pc := 141) (t := 55) fk_X11_72 rfl dX11_count_141 kc_0 rf_11_10_0 ?_
    refine V_callVpi (pc := 144) (As := []) (rest := []) (c_X10_holding w n  σ) cw_X11_373 rfl rfl dX11_count_144 kc_55 ci_10 ⟨Nat.le_of_ble_eq_true rfl, Nat.le_of_ble_eq_true rfl⟩ rfl rfl (Nat.le_of_ble_eq_true rfl) (Nat.le_of_ble_eq_true rfl) (Nat.le_of_ble_eq_true rfl) rfl (fun q144 => ?_)
    exact V_ireti (pc := 147) dX11_count_147 rfl (hk := fun h => h)
  refine V_ite (c := p1 = (10 : Int32)) (fun hx => ?_) (fun hx10 => ?_)
  · refine V_tabIn (pc := 1) (x := p1) (tgt := 148) dX11_count_1 (by rw [hx]; decide) (by rw [hx]; decide) (by rw [hx]; rfl) (by decide) ?_
    refine V_aload_n (pc := 148) dX11_count_148 rfl rfl ?_
    refine V_getr (pc := 149) (t := 3) fk_X11_19 rfl dX11_count_149 kc_0 rf_11_1_0 ?_
    refine V_geti (pc := 152) fk_X11_245 rfl dX11_count_152 kc_3 rf_4_7_3 ?_
    exact V_ireti (pc := 155) dX11_count_155 rfl (hk := fun h => h)
  refine V_ite (c := p1 = (11 : Int32)) (fun hx => ?_) (fun hx11 => ?_)
  · refine V_tabIn (pc := 1) (x := p1) (tgt := 156) dX11_count_1 (by rw [hx]; decide) (by rw [hx]; decide) (by rw [hx]; rfl) (by decide) ?_
    refine V_aload_n (pc := 156) dX11_count_156 rfl rfl ?_
    refine V_getr (pc := 157) (t := 3) fk_X11_19 rfl dX11_count_157 kc_0 rf_11_1_0 ?_
    refine V_callVpi (pc := 160) (As := []) (rest := []) (c_X4_rows w 3 kc_3 σ) cw_X11_341 rfl rfl dX11_count_160 kc_3 ci_4 ⟨Nat.le_of_ble_eq_true rfl, Nat.le_of_ble_eq_true rfl⟩ rfl rfl (Nat.le_of_ble_eq_true rfl) (Nat.le_of_ble_eq_true rfl) (Nat.le_of_ble_eq_true rfl) rfl (fun q160 => ?_)
    exact V_ireti (pc := 163) dX11_count_163 rfl (hk := fun h => h)
  refine V_ite (c := p1 = (12 : Int32)) (fun hx => ?_) (fun hx12 => ?_)
  · refine V_tabIn (pc := 1) (x := p1) (tgt := 164) dX11_count_1 (by rw [hx]; decide) (by rw [hx]; decide) (by rw [hx]; rfl) (by decide) ?_
    refine V_aload_n (pc := 164) dX11_count_164 rfl rfl ?_
    refine V_geti (pc := 165) fk_X11_134 rfl dX11_count_165 kc_0 rf_11_16_0 ?_
    exact V_ireti (pc := 168) dX11_count_168 rfl (hk := fun h => h)
  refine V_tabOut (pc := 1) (tgt := 169) dX11_count_1 (tabout p1 0 12 (by decide) (by decide) (fun k h1 h2 => ?_)) (by decide) ?_
  · rcases (show k = 0 ∨ k = 1 ∨ k = 2 ∨ k = 3 ∨ k = 4 ∨ k = 5 ∨ k = 6 ∨ k = 7 ∨ k = 8 ∨ k = 9 ∨ k = 10 ∨ k = 11 ∨ k = 12 by omega) with rfl | rfl | rfl | rfl | rfl | rfl | rfl | rfl | rfl | rfl | rfl | rfl | rfl
    · exact hx0
    · exact hx1
    · exact hx2
    · exact hx3
    · exact hx4
    · exact hx5
    · exact hx6
    · exact hx7
    · exact hx8
    · exact hx9
    · exact hx10
    · exact hx11
    · exact hx12
  · refine V_iconst (pc := 169) dX11_count_169 ic_m1 ?_
    exact V_ireti (pc := 170) dX11_count_170 rfl (hk := fun h => h)
