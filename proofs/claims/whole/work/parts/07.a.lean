def m_X4_become : MD := (yX4_become, cX4_become, 2, none, 4, 200, 0, 0)
def m_X4_enter : MD := (yX4_enter, cX4_enter, 2, none, 0, 0, 0, 0)
def m_X4_marry : MD := (yX4_marry, cX4_marry, 3, none, 0, 0, 0, 0)
def m_X4_tie : MD := (yX4_tie, cX4_tie, 5, none, 0, 0, 0, 0)
def m_X4_has : MD := (yX4_has, cX4_has, 2, (some .boolean), 0, 0, 0, 0)
def m_X4_holdsOn : MD := (yX4_holdsOn, cX4_holdsOn, 5, (some .boolean), 0, 0, 0, 0)
def m_X4_holds : MD := (yX4_holds, cX4_holds, 3, (some .boolean), 1, 24, 0, 0)
def m_X4_boundTo : MD := (yX4_boundTo, cX4_boundTo, 4, (some .int), 2, 46, 0, 0)
def m_X4_held : MD := (yX4_held, cX4_held, 3, (some .int), 2, 46, 0, 0)
def m_X4_closest : MD := (yX4_closest, cX4_closest, 6, (some .int), 3, 68, 0, 0)
def m_X4_likingOf : MD := (yX4_likingOf, cX4_likingOf, 3, (some .int), 0, 0, 0, 0)
def m_X4_heldTill : MD := (yX4_heldTill, cX4_heldTill, 3, (some .int), 2, 46, 0, 0)
def m_X4_everybody : MD := (yX4_everybody, cX4_everybody, 1, (some .int), 0, 0, 0, 0)
def m_J6_bitCount_0f7a4 : MD := (yJ6_bitCount_0f7a4, cJ6_bitCount_0f7a4, 1, (some .int), 0, 0, 0, 0)
def m_X4_draw : MD := (yX4_draw, cX4_draw, 1, (some .int), 0, 0, 0, 0)
def m_X4_isSecret : MD := (yX4_isSecret, cX4_isSecret, 3, (some .boolean), 2, 46, 0, 0)
def m_X4_leaveFootprint : MD := (yX4_leaveFootprint, cX4_leaveFootprint, 4, none, 4, 200, 0, 0)
def m_J6_lowestOneBit_0f7a4 : MD := (yJ6_lowestOneBit_0f7a4, cJ6_lowestOneBit_0f7a4, 1, (some .int), 0, 0, 0, 0)
def m_X4_strongest : MD := (yX4_strongest, cX4_strongest, 3, (some .int), 4, 93, 0, 0)
def m_X4_allSuspicion : MD := (yX4_allSuspicion, cX4_allSuspicion, 3, (some .int), 0, 0, 0, 0)
def m_X4_rows : MD := (yX4_rows, cX4_rows, 1, (some .int), 4, 200, 0, 0)
def m_X4_rowOf : MD := (yX4_rowOf, cX4_rowOf, 2, (some .int), 0, 0, 0, 0)
def m_X4_rowPart : MD := (yX4_rowPart, cX4_rowPart, 2, (some .int), 0, 0, 0, 0)
def m_X4_rowHas : MD := (yX4_rowHas, cX4_rowHas, 2, (some .boolean), 1, 21, 0, 0)
def m_X4_couples : MD := (yX4_couples, cX4_couples, 3, (some .int), 0, 0, 0, 0)
def m_J6_numberOfTrailingZeros_0f7a4 : MD := (yJ6_numberOfTrailingZeros_0f7a4, cJ6_numberOfTrailingZeros_0f7a4, 2, (some .int), 0, 0, 0, 0)
theorem fk_X4_46 : fk RX4 46 4 0 := ⟨_, _, _, rfl, in_4, by decide, rfl, by decide, gx 199 (by decide +kernel) (by decide +kernel)⟩
theorem fp_X4_46 : fp RX4 46 4 0 .int := ⟨_, _, _, tyX4, rfl, in_4, by decide, rfl, by decide, gx 199 (by decide +kernel) (by decide +kernel), rfl, by decide +kernel, tyX4_ok, nmX4⟩
theorem fk_X4_49 : fk RX4 49 4 1 := ⟨_, _, _, rfl, in_4, by decide, rfl, by decide, gx 208 (by decide +kernel) (by decide +kernel)⟩
theorem fp_X4_49 : fp RX4 49 4 1 .int := ⟨_, _, _, tyX4, rfl, in_4, by decide, rfl, by decide, gx 208 (by decide +kernel) (by decide +kernel), rfl, by decide +kernel, tyX4_ok, nmX4⟩
theorem fk_X4_52 : fk RX4 52 4 2 := ⟨_, _, _, rfl, in_4, by decide, rfl, by decide, gx 210 (by decide +kernel) (by decide +kernel)⟩
theorem fp_X4_52 : fp RX4 52 4 2 .int := ⟨_, _, _, tyX4, rfl, in_4, by decide, rfl, by decide, gx 210 (by decide +kernel) (by decide +kernel), rfl, by decide +kernel, tyX4_ok, nmX4⟩
theorem fk_X4_9 : fk RX4 9 4 3 := ⟨_, _, _, rfl, in_4, by decide, rfl, by decide, gx 215 (by decide +kernel) (by decide +kernel)⟩
theorem fp_X4_9 : fp RX4 9 4 3 .int := ⟨_, _, _, tyX4, rfl, in_4, by decide, rfl, by decide, gx 215 (by decide +kernel) (by decide +kernel), rfl, by decide +kernel, tyX4_ok, nmX4⟩
theorem fk_X4_15 : fk RX4 15 4 4 := ⟨_, _, _, rfl, in_4, by decide, rfl, by decide, gx 219 (by decide +kernel) (by decide +kernel)⟩
theorem fp_X4_15 : fp RX4 15 4 4 .int := ⟨_, _, _, tyX4, rfl, in_4, by decide, rfl, by decide, gx 219 (by decide +kernel) (by decide +kernel), rfl, by decide +kernel, tyX4_ok, nmX4⟩
theorem fk_X4_55 : fk RX4 55 4 5 := ⟨_, _, _, rfl, in_4, by decide, rfl, by decide, gx 224 (by decide +kernel) (by decide +kernel)⟩
theorem fp_X4_55 : fp RX4 55 4 5 .int := ⟨_, _, _, tyX4, rfl, in_4, by decide, rfl, by decide, gx 224 (by decide +kernel) (by decide +kernel), rfl, by decide +kernel, tyX4_ok, nmX4⟩
theorem fk_X4_18 : fk RX4 18 4 6 := ⟨_, _, _, rfl, in_4, by decide, rfl, by decide, gx 230 (by decide +kernel) (by decide +kernel)⟩
theorem fp_X4_18 : fp RX4 18 4 6 .int := ⟨_, _, _, tyX4, rfl, in_4, by decide, rfl, by decide, gx 230 (by decide +kernel) (by decide +kernel), rfl, by decide +kernel, tyX4_ok, nmX4⟩
theorem fk_X4_58 : fk RX4 58 4 7 := ⟨_, _, _, rfl, in_4, by decide, rfl, by decide, gx 233 (by decide +kernel) (by decide +kernel)⟩
theorem fp_X4_58 : fp RX4 58 4 7 .int := ⟨_, _, _, tyX4, rfl, in_4, by decide, rfl, by decide, gx 233 (by decide +kernel) (by decide +kernel), rfl, by decide +kernel, tyX4_ok, nmX4⟩
theorem fk_X4_21 : fk RX4 21 4 8 := ⟨_, _, _, rfl, in_4, by decide, rfl, by decide, gx 235 (by decide +kernel) (by decide +kernel)⟩
theorem cpw_X4_61 : Cond.methodLink RX4 61 arraycopyName ∈ gtb ∧ Cond.native arraycopyName ∈ gtb ∧ Cond.static arraycopyName ∈ gtb ∧ Cond.initialized "java/lang/System" ∈ gtb := ⟨gx 640 (by decide +kernel) (by decide +kernel), copyw⟩
theorem fk_X4_25 : fk RX4 25 4 9 := ⟨_, _, _, rfl, in_4, by decide, rfl, by decide, gx 239 (by decide +kernel) (by decide +kernel)⟩
theorem fk_X4_28 : fk RX4 28 4 10 := ⟨_, _, _, rfl, in_4, by decide, rfl, by decide, gx 243 (by decide +kernel) (by decide +kernel)⟩
theorem fk_X4_31 : fk RX4 31 4 11 := ⟨_, _, _, rfl, in_4, by decide, rfl, by decide, gx 245 (by decide +kernel) (by decide +kernel)⟩
theorem fk_X4_34 : fk RX4 34 4 12 := ⟨_, _, _, rfl, in_4, by decide, rfl, by decide, gx 248 (by decide +kernel) (by decide +kernel)⟩
theorem fk_X4_37 : fk RX4 37 4 13 := ⟨_, _, _, rfl, in_4, by decide, rfl, by decide, gx 250 (by decide +kernel) (by decide +kernel)⟩
theorem fk_X4_40 : fk RX4 40 4 14 := ⟨_, _, _, rfl, in_4, by decide, rfl, by decide, gx 251 (by decide +kernel) (by decide +kernel)⟩
theorem fk_X4_43 : fk RX4 43 4 15 := ⟨_, _, _, rfl, in_4, by decide, rfl, by decide, gx 252 (by decide +kernel) (by decide +kernel)⟩
theorem wm_X4_holdsOn : wmp m_X4_holdsOn 3 := ⟨gx 519 (by decide +kernel) (by decide +kernel), gx 520 (by decide +kernel) (by decide +kernel), gx 129 (by decide +kernel) (by decide +kernel), gx 521 (by decide +kernel) (by decide +kernel), by decide +kernel, by decide +kernel, by decide +kernel⟩
theorem cw_X4_67 : cwp RX4 67 m_X4_holdsOn 3 := cwp_of wm_X4_holdsOn (gx 518 (by decide +kernel) (by decide +kernel))
theorem wm_X4_holds : wmp m_X4_holds 2 := ⟨gx 515 (by decide +kernel) (by decide +kernel), gx 516 (by decide +kernel) (by decide +kernel), gx 129 (by decide +kernel) (by decide +kernel), gx 517 (by decide +kernel) (by decide +kernel), by decide +kernel, by decide +kernel, by decide +kernel⟩
theorem cw_X4_71 : cwp RX4 71 m_X4_holds 2 := cwp_of wm_X4_holds (gx 514 (by decide +kernel) (by decide +kernel))
theorem wm_X4_held : wmp m_X4_held 2 := ⟨gx 573 (by decide +kernel) (by decide +kernel), gx 574 (by decide +kernel) (by decide +kernel), gx 129 (by decide +kernel) (by decide +kernel), gx 575 (by decide +kernel) (by decide +kernel), by decide +kernel, by decide +kernel, by decide +kernel⟩
theorem cw_X4_75 : cwp RX4 75 m_X4_held 2 := cwp_of wm_X4_held (gx 572 (by decide +kernel) (by decide +kernel))
theorem ld_J6_265 : Cond.constant RJ6 265 (1431655765 : Int32) ∈ gtb := gx 613 (by decide +kernel) (by decide +kernel)
theorem ld_J6_266 : Cond.constant RJ6 266 (858993459 : Int32) ∈ gtb := gx 614 (by decide +kernel) (by decide +kernel)
theorem ld_J6_267 : Cond.constant RJ6 267 (252645135 : Int32) ∈ gtb := gx 615 (by decide +kernel) (by decide +kernel)
theorem ld_X4_83 : Cond.constant RX4 83 (1103515245 : Int32) ∈ gtb := gx 1203 (by decide +kernel) (by decide +kernel)
theorem mw_X4_84 : Cond.methodLink RX4 84 Lib.Math.min.name ∈ gtb ∧ Cond.static Lib.Math.min.name ∈ gtb ∧ Cond.initialized "java/lang/Math" ∈ gtb ∧ Cond.code Lib.Math.min.name Lib.Math.min.code 2 (some .int) ∈ gtb := ⟨gx 676 (by decide +kernel) (by decide +kernel), math_min⟩
theorem wm_X4_closest : wmp m_X4_closest 1 := ⟨gx 569 (by decide +kernel) (by decide +kernel), gx 570 (by decide +kernel) (by decide +kernel), gx 129 (by decide +kernel) (by decide +kernel), gx 571 (by decide +kernel) (by decide +kernel), by decide +kernel, by decide +kernel, by decide +kernel⟩
theorem cw_X4_79 : cwp RX4 79 m_X4_closest 1 := cwp_of wm_X4_closest (gx 1427 (by decide +kernel) (by decide +kernel))
theorem wm_X4_rowPart : wms m_X4_rowPart 2 := ⟨gx 1475 (by decide +kernel) (by decide +kernel), gx 129 (by decide +kernel) (by decide +kernel), gx 1476 (by decide +kernel) (by decide +kernel), by decide +kernel, by decide +kernel, by decide +kernel⟩
theorem cs_X4_89 : csp RX4 89 m_X4_rowPart 2 := csp_of wm_X4_rowPart (gx 1474 (by decide +kernel) (by decide +kernel))
theorem ld_J6_264 : Cond.constant RJ6 264 (65536 : Int32) ∈ gtb := gx 1929 (by decide +kernel) (by decide +kernel)
def f_X4_become (h0 : Nat) (h1 : Nat) (σ : MS) : Option (Int32 × MS) := (ltM (mu σ h0 0 (σ h1 0)) (fun s5 => (ltM (mu s5 h0 1 (s5 h1 1)) (fun s13 => (ltM (mu s13 h0 2 (s13 h1 2)) (fun s21 => (ltM (mu s21 h0 3 (s21 h1 3)) (fun s29 => (ltM (mu s29 h0 4 (s29 h1 4)) (fun s37 => (ltM (mu s37 h0 5 (s37 h1 5)) (fun s45 => (ltM (mu s45 h0 6 (s45 h1 6)) (fun s53 => (ltM (mu s53 h0 7 (s53 h1 7)) (fun s61 => (ltM (mcp s61 (h1 + 1) (h0 + 1) 8) (fun s79 => (ltM (mcp s79 (h1 + 2) (h0 + 2) 8) (fun s97 => (ltM (mcp s97 (h1 + 3) (h0 + 3) 8) (fun s115 => (ltM (mcp s115 (h1 + 4) (h0 + 4) 8) (fun s133 => (ltM (mcp s133 (h1 + 5) (h0 + 5) 64) (fun s151 => (ltM (mcp s151 (h1 + 6) (h0 + 6) 64) (fun s169 => (ltM (mcp s169 (h1 + 7) (h0 + 7) 64) (fun s187 => (ltM (mcp s187 (h1 + 8) (h0 + 8) 60) (fun s205 => some (0, s205)))))))))))))))))))))))))))))))))
set_option maxRecDepth 20000 in
set_option maxHeartbeats 2000000 in
theorem c_X4_become (w : TG) (h0 : Nat) (h1 : Nat) (k_h0 : kd h0 = 4) (k_h1 : kd h1 = 4) (σ : MS) : MC m_X4_become w [.ref (wB w + h0), .ref (wB w + h1)] σ (f_X4_become h0 h1 σ) := by
  refine V_meth (by decide +kernel) (Nat.le_of_ble_eq_true rfl) (by intro v hv; simp only [List.mem_cons, List.not_mem_nil, or_false] at hv; rcases hv with rfl | rfl <;> rfl) (fun g x => ?_)
  show VV m_X4_become w g 0 0 (QM m_X4_become w g x) (fun b : Int32 × MS => b = x) 0 [some (.ref (wB w + h0)), some (.ref (wB w + h1))] [] σ (f_X4_become h0 h1 σ)
  refine V_aload_n (pc := 0) dX4_become_0 rfl rfl ?_
  refine V_aload_n (pc := 1) dX4_become_1 rfl rfl ?_
  refine V_geti (pc := 2) fk_X4_46 rfl dX4_become_2 k_h1 (rf_4_0 _) ?_
  refine V_puti (pc := 5) fp_X4_46 rfl dX4_become_5 k_h0 (rf_4_0 _) (fun s5 => ?_)
  refine V_aload_n (pc := 8) dX4_become_8 rfl rfl ?_
  refine V_aload_n (pc := 9) dX4_become_9 rfl rfl ?_
  refine V_geti (pc := 10) fk_X4_49 rfl dX4_become_10 k_h1 (rf_4_1 _) ?_
  refine V_puti (pc := 13) fp_X4_49 rfl dX4_become_13 k_h0 (rf_4_1 _) (fun s13 => ?_)
  refine V_aload_n (pc := 16) dX4_become_16 rfl rfl ?_
  refine V_aload_n (pc := 17) dX4_become_17 rfl rfl ?_
  refine V_geti (pc := 18) fk_X4_52 rfl dX4_become_18 k_h1 (rf_4_2 _) ?_
  refine V_puti (pc := 21) fp_X4_52 rfl dX4_become_21 k_h0 (rf_4_2 _) (fun s21 => ?_)
  refine V_aload_n (pc := 24) dX4_become_24 rfl rfl ?_
  refine V_aload_n (pc := 25) dX4_become_25 rfl rfl ?_
  refine V_geti (pc := 26) fk_X4_9 rfl dX4_become_26 k_h1 (rf_4_3 _) ?_
  refine V_puti (pc := 29) fp_X4_9 rfl dX4_become_29 k_h0 (rf_4_3 _) (fun s29 => ?_)
  refine V_aload_n (pc := 32) dX4_become_32 rfl rfl ?_
  refine V_aload_n (pc := 33) dX4_become_33 rfl rfl ?_
  refine V_geti (pc := 34) fk_X4_15 rfl dX4_become_34 k_h1 (rf_4_4 _) ?_
  refine V_puti (pc := 37) fp_X4_15 rfl dX4_become_37 k_h0 (rf_4_4 _) (fun s37 => ?_)
  refine V_aload_n (pc := 40) dX4_become_40 rfl rfl ?_
  refine V_aload_n (pc := 41) dX4_become_41 rfl rfl ?_
  refine V_geti (pc := 42) fk_X4_55 rfl dX4_become_42 k_h1 (rf_4_5 _) ?_
  refine V_puti (pc := 45) fp_X4_55 rfl dX4_become_45 k_h0 (rf_4_5 _) (fun s45 => ?_)
  refine V_aload_n (pc := 48) dX4_become_48 rfl rfl ?_
  refine V_aload_n (pc := 49) dX4_become_49 rfl rfl ?_
  refine V_geti (pc := 50) fk_X4_18 rfl dX4_become_50 k_h1 (rf_4_6 _) ?_
  refine V_puti (pc := 53) fp_X4_18 rfl dX4_become_53 k_h0 (rf_4_6 _) (fun s53 => ?_)
  refine V_aload_n (pc := 56) dX4_become_56 rfl rfl ?_
  refine V_aload_n (pc := 57) dX4_become_57 rfl rfl ?_
  refine V_geti (pc := 58) fk_X4_58 rfl dX4_become_58 k_h1 (rf_4_7 _) ?_
  refine V_puti (pc := 61) fp_X4_58 rfl dX4_become_61 k_h0 (rf_4_7 _) (fun s61 => ?_)
  refine V_aload_n (pc := 64) dX4_become_64 rfl rfl ?_
  refine V_getr (pc := 65) (t := (h1 + 1)) fk_X4_21 rfl dX4_become_65 k_h1 (rf_4_8 _) ?_
  refine V_iconst (pc := 68) dX4_become_68 ic_0 ?_
  refine V_aload_n (pc := 69) dX4_become_69 rfl rfl ?_
  refine V_getr (pc := 70) (t := (h0 + 1)) fk_X4_21 rfl dX4_become_70 k_h0 (rf_4_8 _) ?_
  refine V_iconst (pc := 73) dX4_become_73 ic_0 ?_
  refine V_aload_n (pc := 74) dX4_become_74 rfl rfl ?_
  refine V_getr (pc := 75) (t := (h0 + 1)) fk_X4_21 rfl dX4_become_75 k_h0 (rf_4_8 _) ?_
  refine V_alen (pc := 78) (v := (8 : Int32)) dX4_become_78 (hA1 k_h0).1 (by rw [(hA1 k_h0).2]; exact aln_8) ?_
  refine V_copy (pc := 79) (N := 8) dX4_become_79 rfl cpw_X4_61 (Nat.le_of_ble_eq_true rfl) (Nat.le_trans copyr (Nat.le_of_ble_eq_true rfl)) (hA1 k_h1).1 (hA1 k_h0).1 (hA1 k_h1).2 (hA1 k_h0).2 aln_8.symm (Nat.le_of_ble_eq_true rfl) (fun s79 => ?_)
  refine V_aload_n (pc := 82) dX4_become_82 rfl rfl ?_
  refine V_getr (pc := 83) (t := (h1 + 2)) fk_X4_25 rfl dX4_become_83 k_h1 (rf_4_9 _) ?_
  refine V_iconst (pc := 86) dX4_become_86 ic_0 ?_
  refine V_aload_n (pc := 87) dX4_become_87 rfl rfl ?_
  refine V_getr (pc := 88) (t := (h0 + 2)) fk_X4_25 rfl dX4_become_88 k_h0 (rf_4_9 _) ?_
  refine V_iconst (pc := 91) dX4_become_91 ic_0 ?_
  refine V_aload_n (pc := 92) dX4_become_92 rfl rfl ?_
  refine V_getr (pc := 93) (t := (h0 + 2)) fk_X4_25 rfl dX4_become_93 k_h0 (rf_4_9 _) ?_
  refine V_alen (pc := 96) (v := (8 : Int32)) dX4_become_96 (hA2 k_h0).1 (by rw [(hA2 k_h0).2]; exact aln_8) ?_
  refine V_copy (pc := 97) (N := 8) dX4_become_97 rfl cpw_X4_61 (Nat.le_of_ble_eq_true rfl) (Nat.le_trans copyr (Nat.le_of_ble_eq_true rfl)) (hA2 k_h1).1 (hA2 k_h0).1 (hA2 k_h1).2 (hA2 k_h0).2 aln_8.symm (Nat.le_of_ble_eq_true rfl) (fun s97 => ?_)
  refine V_aload_n (pc := 100) dX4_become_100 rfl rfl ?_
  refine V_getr (pc := 101) (t := (h1 + 3)) fk_X4_28 rfl dX4_become_101 k_h1 (rf_4_10 _) ?_
  refine V_iconst (pc := 104) dX4_become_104 ic_0 ?_
  refine V_aload_n (pc := 105) dX4_become_105 rfl rfl ?_
  refine V_getr (pc := 106) (t := (h0 + 3)) fk_X4_28 rfl dX4_become_106 k_h0 (rf_4_10 _) ?_
  refine V_iconst (pc := 109) dX4_become_109 ic_0 ?_
  refine V_aload_n (pc := 110) dX4_become_110 rfl rfl ?_
  refine V_getr (pc := 111) (t := (h0 + 3)) fk_X4_28 rfl dX4_become_111 k_h0 (rf_4_10 _) ?_
  refine V_alen (pc := 114) (v := (8 : Int32)) dX4_become_114 (hA3 k_h0).1 (by rw [(hA3 k_h0).2]; exact aln_8) ?_
  refine V_copy (pc := 115) (N := 8) dX4_become_115 rfl cpw_X4_61 (Nat.le_of_ble_eq_true rfl) (Nat.le_trans copyr (Nat.le_of_ble_eq_true rfl)) (hA3 k_h1).1 (hA3 k_h0).1 (hA3 k_h1).2 (hA3 k_h0).2 aln_8.symm (Nat.le_of_ble_eq_true rfl) (fun s115 => ?_)
  refine V_aload_n (pc := 118) dX4_become_118 rfl rfl ?_
  refine V_getr (pc := 119) (t := (h1 + 4)) fk_X4_31 rfl dX4_become_119 k_h1 (rf_4_11 _) ?_
  refine V_iconst (pc := 122) dX4_become_122 ic_0 ?_
  refine V_aload_n (pc := 123) dX4_become_123 rfl rfl ?_
  refine V_getr (pc := 124) (t := (h0 + 4)) fk_X4_31 rfl dX4_become_124 k_h0 (rf_4_11 _) ?_
  refine V_iconst (pc := 127) dX4_become_127 ic_0 ?_
  refine V_aload_n (pc := 128) dX4_become_128 rfl rfl ?_
  refine V_getr (pc := 129) (t := (h0 + 4)) fk_X4_31 rfl dX4_become_129 k_h0 (rf_4_11 _) ?_
  refine V_alen (pc := 132) (v := (8 : Int32)) dX4_become_132 (hA4 k_h0).1 (by rw [(hA4 k_h0).2]; exact aln_8) ?_
  refine V_copy (pc := 133) (N := 8) dX4_become_133 rfl cpw_X4_61 (Nat.le_of_ble_eq_true rfl) (Nat.le_trans copyr (Nat.le_of_ble_eq_true rfl)) (hA4 k_h1).1 (hA4 k_h0).1 (hA4 k_h1).2 (hA4 k_h0).2 aln_8.symm (Nat.le_of_ble_eq_true rfl) (fun s133 => ?_)
  refine V_aload_n (pc := 136) dX4_become_136 rfl rfl ?_
  refine V_getr (pc := 137) (t := (h1 + 5)) fk_X4_34 rfl dX4_become_137 k_h1 (rf_4_12 _) ?_
  refine V_iconst (pc := 140) dX4_become_140 ic_0 ?_
  refine V_aload_n (pc := 141) dX4_become_141 rfl rfl ?_
  refine V_getr (pc := 142) (t := (h0 + 5)) fk_X4_34 rfl dX4_become_142 k_h0 (rf_4_12 _) ?_
  refine V_iconst (pc := 145) dX4_become_145 ic_0 ?_
  refine V_aload_n (pc := 146) dX4_become_146 rfl rfl ?_
  refine V_getr (pc := 147) (t := (h0 + 5)) fk_X4_34 rfl dX4_become_147 k_h0 (rf_4_12 _) ?_
  refine V_alen (pc := 150) (v := (64 : Int32)) dX4_become_150 (hA5 k_h0).1 (by rw [(hA5 k_h0).2]; exact aln_64) ?_
  refine V_copy (pc := 151) (N := 64) dX4_become_151 rfl cpw_X4_61 (Nat.le_of_ble_eq_true rfl) (Nat.le_trans copyr (Nat.le_of_ble_eq_true rfl)) (hA5 k_h1).1 (hA5 k_h0).1 (hA5 k_h1).2 (hA5 k_h0).2 aln_64.symm (Nat.le_of_ble_eq_true rfl) (fun s151 => ?_)
  refine V_aload_n (pc := 154) dX4_become_154 rfl rfl ?_
  refine V_getr (pc := 155) (t := (h1 + 6)) fk_X4_37 rfl dX4_become_155 k_h1 (rf_4_13 _) ?_
  refine V_iconst (pc := 158) dX4_become_158 ic_0 ?_
  refine V_aload_n (pc := 159) dX4_become_159 rfl rfl ?_
  refine V_getr (pc := 160) (t := (h0 + 6)) fk_X4_37 rfl dX4_become_160 k_h0 (rf_4_13 _) ?_
  refine V_iconst (pc := 163) dX4_become_163 ic_0 ?_
  refine V_aload_n (pc := 164) dX4_become_164 rfl rfl ?_
  refine V_getr (pc := 165) (t := (h0 + 6)) fk_X4_37 rfl dX4_become_165 k_h0 (rf_4_13 _) ?_
  refine V_alen (pc := 168) (v := (64 : Int32)) dX4_become_168 (hA6 k_h0).1 (by rw [(hA6 k_h0).2]; exact aln_64) ?_
  refine V_copy (pc := 169) (N := 64) dX4_become_169 rfl cpw_X4_61 (Nat.le_of_ble_eq_true rfl) (Nat.le_trans copyr (Nat.le_of_ble_eq_true rfl)) (hA6 k_h1).1 (hA6 k_h0).1 (hA6 k_h1).2 (hA6 k_h0).2 aln_64.symm (Nat.le_of_ble_eq_true rfl) (fun s169 => ?_)
  refine V_aload_n (pc := 172) dX4_become_172 rfl rfl ?_
  refine V_getr (pc := 173) (t := (h1 + 7)) fk_X4_40 rfl dX4_become_173 k_h1 (rf_4_14 _) ?_
  refine V_iconst (pc := 176) dX4_become_176 ic_0 ?_
  refine V_aload_n (pc := 177) dX4_become_177 rfl rfl ?_
  refine V_getr (pc := 178) (t := (h0 + 7)) fk_X4_40 rfl dX4_become_178 k_h0 (rf_4_14 _) ?_
  refine V_iconst (pc := 181) dX4_become_181 ic_0 ?_
  refine V_aload_n (pc := 182) dX4_become_182 rfl rfl ?_
  refine V_getr (pc := 183) (t := (h0 + 7)) fk_X4_40 rfl dX4_become_183 k_h0 (rf_4_14 _) ?_
  refine V_alen (pc := 186) (v := (64 : Int32)) dX4_become_186 (hA7 k_h0).1 (by rw [(hA7 k_h0).2]; exact aln_64) ?_
  refine V_copy (pc := 187) (N := 64) dX4_become_187 rfl cpw_X4_61 (Nat.le_of_ble_eq_true rfl) (Nat.le_trans copyr (Nat.le_of_ble_eq_true rfl)) (hA7 k_h1).1 (hA7 k_h0).1 (hA7 k_h1).2 (hA7 k_h0).2 aln_64.symm (Nat.le_of_ble_eq_true rfl) (fun s187 => ?_)
  refine V_aload_n (pc := 190) dX4_become_190 rfl rfl ?_
  refine V_getr (pc := 191) (t := (h1 + 8)) fk_X4_43 rfl dX4_become_191 k_h1 (rf_4_15 _) ?_
  refine V_iconst (pc := 194) dX4_become_194 ic_0 ?_
  refine V_aload_n (pc := 195) dX4_become_195 rfl rfl ?_
  refine V_getr (pc := 196) (t := (h0 + 8)) fk_X4_43 rfl dX4_become_196 k_h0 (rf_4_15 _) ?_
  refine V_iconst (pc := 199) dX4_become_199 ic_0 ?_
  refine V_aload_n (pc := 200) dX4_become_200 rfl rfl ?_
  refine V_getr (pc := 201) (t := (h0 + 8)) fk_X4_43 rfl dX4_become_201 k_h0 (rf_4_15 _) ?_
  refine V_alen (pc := 204) (v := (60 : Int32)) dX4_become_204 (hA8 k_h0).1 (by rw [(hA8 k_h0).2]; exact aln_60) ?_
  refine V_copy (pc := 205) (N := 60) dX4_become_205 rfl cpw_X4_61 (Nat.le_of_ble_eq_true rfl) (Nat.le_trans copyr (Nat.le_of_ble_eq_true rfl)) (hA8 k_h1).1 (hA8 k_h0).1 (hA8 k_h1).2 (hA8 k_h0).2 aln_60.symm (Nat.le_of_ble_eq_true rfl) (fun s205 => ?_)
  exact V_ret (pc := 208) dX4_become_208 rfl (hk := fun h => h)
def f_X4_enter (h0 : Nat) (p1 : Int32) (σ : MS) : Option (Int32 × MS) := (if inb (σ h0 0) 8 then ltM (mu σ (h0 + 1) (ix (σ h0 0)) p1) (fun s9 => (if inb (s9 h0 0) 8 then ltM (mu s9 (h0 + 2) (ix (s9 h0 0)) (-1 : Int32)) (fun s19 => (ltM (mu s19 h0 0 ((s19 h0 0) + (1 : Int32))) (fun s27 => some (0, s27)))) else none)) else none)
set_option maxRecDepth 20000 in
set_option maxHeartbeats 2000000 in
theorem c_X4_enter (w : TG) (h0 : Nat) (p1 : Int32) (k_h0 : kd h0 = 4) (σ : MS) : MC m_X4_enter w [.ref (wB w + h0), .int p1] σ (f_X4_enter h0 p1 σ) := by
  refine V_meth (by decide +kernel) (Nat.le_of_ble_eq_true rfl) (by intro v hv; simp only [List.mem_cons, List.not_mem_nil, or_false] at hv; rcases hv with rfl | rfl <;> rfl) (fun g x => ?_)
  show VV m_X4_enter w g 0 0 (QM m_X4_enter w g x) (fun b : Int32 × MS => b = x) 0 [some (.ref (wB w + h0)), some (.int p1)] [] σ (f_X4_enter h0 p1 σ)
  refine V_aload_n (pc := 0) dX4_enter_0 rfl rfl ?_
  refine V_getr (pc := 1) (t := (h0 + 1)) fk_X4_21 rfl dX4_enter_1 k_h0 (rf_4_8 _) ?_
  refine V_aload_n (pc := 4) dX4_enter_4 rfl rfl ?_
  refine V_geti (pc := 5) fk_X4_46 rfl dX4_enter_5 k_h0 (rf_4_0 _) ?_
  refine V_iload_n (pc := 8) dX4_enter_8 rfl rfl ?_
  refine V_iast (pc := 9) (n := 8) dX4_enter_9 (hA1 k_h0).1 (hA1 k_h0).2 (fun s9 => ?_)
  refine V_aload_n (pc := 10) dX4_enter_10 rfl rfl ?_
  refine V_getr (pc := 11) (t := (h0 + 2)) fk_X4_25 rfl dX4_enter_11 k_h0 (rf_4_9 _) ?_
  refine V_aload_n (pc := 14) dX4_enter_14 rfl rfl ?_
  refine V_geti (pc := 15) fk_X4_46 rfl dX4_enter_15 k_h0 (rf_4_0 _) ?_
  refine V_iconst (pc := 18) dX4_enter_18 ic_m1 ?_
  refine V_iast (pc := 19) (n := 8) dX4_enter_19 (hA2 k_h0).1 (hA2 k_h0).2 (fun s19 => ?_)
  refine V_aload_n (pc := 20) dX4_enter_20 rfl rfl ?_
  refine V_dup (pc := 21) dX4_enter_21 rfl ?_
  refine V_geti (pc := 22) fk_X4_46 rfl dX4_enter_22 k_h0 (rf_4_0 _) ?_
  refine V_iconst (pc := 25) dX4_enter_25 ic_1 ?_
  refine V_iadd (pc := 26) dX4_enter_26 ?_
  refine V_puti (pc := 27) fp_X4_46 rfl dX4_enter_27 k_h0 (rf_4_0 _) (fun s27 => ?_)
  exact V_ret (pc := 30) dX4_enter_30 rfl (hk := fun h => h)
def f_X4_marry (h0 : Nat) (p1 : Int32) (p2 : Int32) (σ : MS) : Option (Int32 × MS) := (if inb p1 8 then ltM (mu σ (h0 + 2) (ix p1) p2) (fun s6 => (if inb p2 8 then ltM (mu s6 (h0 + 2) (ix p2) p1) (fun s13 => some (0, s13)) else none)) else none)
set_option maxRecDepth 20000 in
set_option maxHeartbeats 2000000 in
theorem c_X4_marry (w : TG) (h0 : Nat) (p1 : Int32) (p2 : Int32) (k_h0 : kd h0 = 4) (σ : MS) : MC m_X4_marry w [.ref (wB w + h0), .int p1, .int p2] σ (f_X4_marry h0 p1 p2 σ) := by
  refine V_meth (by decide +kernel) (Nat.le_of_ble_eq_true rfl) (by intro v hv; simp only [List.mem_cons, List.not_mem_nil, or_false] at hv; rcases hv with rfl | rfl | rfl <;> rfl) (fun g x => ?_)
  show VV m_X4_marry w g 0 0 (QM m_X4_marry w g x) (fun b : Int32 × MS => b = x) 0 [some (.ref (wB w + h0)), some (.int p1), some (.int p2)] [] σ (f_X4_marry h0 p1 p2 σ)
  refine V_aload_n (pc := 0) dX4_marry_0 rfl rfl ?_
  refine V_getr (pc := 1) (t := (h0 + 2)) fk_X4_25 rfl dX4_marry_1 k_h0 (rf_4_9 _) ?_
  refine V_iload_n (pc := 4) dX4_marry_4 rfl rfl ?_
  refine V_iload_n (pc := 5) dX4_marry_5 rfl rfl ?_
  refine V_iast (pc := 6) (n := 8) dX4_marry_6 (hA2 k_h0).1 (hA2 k_h0).2 (fun s6 => ?_)
  refine V_aload_n (pc := 7) dX4_marry_7 rfl rfl ?_
  refine V_getr (pc := 8) (t := (h0 + 2)) fk_X4_25 rfl dX4_marry_8 k_h0 (rf_4_9 _) ?_
  refine V_iload_n (pc := 11) dX4_marry_11 rfl rfl ?_
  refine V_iload_n (pc := 12) dX4_marry_12 rfl rfl ?_
  refine V_iast (pc := 13) (n := 8) dX4_marry_13 (hA2 k_h0).1 (hA2 k_h0).2 (fun s13 => ?_)
  exact V_ret (pc := 14) dX4_marry_14 rfl (hk := fun h => h)
def f_X4_tie (h0 : Nat) (p1 : Int32) (p2 : Int32) (p3 : Int32) (p4 : Int32) (σ : MS) : Option (Int32 × MS) := (if inb ((p1 * (8 : Int32)) + p2) 64 then ltM (mu σ (h0 + 6) (ix ((p1 * (8 : Int32)) + p2)) p3) (fun s11 => (if inb ((p2 * (8 : Int32)) + p1) 64 then ltM (mu s11 (h0 + 6) (ix ((p2 * (8 : Int32)) + p1)) p3) (fun s23 => (if inb ((p1 * (8 : Int32)) + p2) 64 then ltM (mu s23 (h0 + 7) (ix ((p1 * (8 : Int32)) + p2)) p4) (fun s36 => (if inb ((p2 * (8 : Int32)) + p1) 64 then ltM (mu s36 (h0 + 7) (ix ((p2 * (8 : Int32)) + p1)) p4) (fun s49 => some (0, s49)) else none)) else none)) else none)) else none)
set_option maxRecDepth 20000 in
set_option maxHeartbeats 2000000 in
theorem c_X4_tie (w : TG) (h0 : Nat) (p1 : Int32) (p2 : Int32) (p3 : Int32) (p4 : Int32) (k_h0 : kd h0 = 4) (σ : MS) : MC m_X4_tie w [.ref (wB w + h0), .int p1, .int p2, .int p3, .int p4] σ (f_X4_tie h0 p1 p2 p3 p4 σ) := by
  refine V_meth (by decide +kernel) (Nat.le_of_ble_eq_true rfl) (by intro v hv; simp only [List.mem_cons, List.not_mem_nil, or_false] at hv; rcases hv with rfl | rfl | rfl | rfl | rfl <;> rfl) (fun g x => ?_)
  show VV m_X4_tie w g 0 0 (QM m_X4_tie w g x) (fun b : Int32 × MS => b = x) 0 [some (.ref (wB w + h0)), some (.int p1), some (.int p2), some (.int p3), some (.int p4)] [] σ (f_X4_tie h0 p1 p2 p3 p4 σ)
  refine V_aload_n (pc := 0) dX4_tie_0 rfl rfl ?_
  refine V_getr (pc := 1) (t := (h0 + 6)) fk_X4_37 rfl dX4_tie_1 k_h0 (rf_4_13 _) ?_
  refine V_iload_n (pc := 4) dX4_tie_4 rfl rfl ?_
  refine V_bipush (pc := 5) dX4_tie_5 bp_8 ?_
  refine V_imul (pc := 7) dX4_tie_7 ?_
  refine V_iload_n (pc := 8) dX4_tie_8 rfl rfl ?_
  refine V_iadd (pc := 9) dX4_tie_9 ?_
  refine V_iload_n (pc := 10) dX4_tie_10 rfl rfl ?_
  refine V_iast (pc := 11) (n := 64) dX4_tie_11 (hA6 k_h0).1 (hA6 k_h0).2 (fun s11 => ?_)
  refine V_aload_n (pc := 12) dX4_tie_12 rfl rfl ?_
  refine V_getr (pc := 13) (t := (h0 + 6)) fk_X4_37 rfl dX4_tie_13 k_h0 (rf_4_13 _) ?_
  refine V_iload_n (pc := 16) dX4_tie_16 rfl rfl ?_
  refine V_bipush (pc := 17) dX4_tie_17 bp_8 ?_
  refine V_imul (pc := 19) dX4_tie_19 ?_
  refine V_iload_n (pc := 20) dX4_tie_20 rfl rfl ?_
  refine V_iadd (pc := 21) dX4_tie_21 ?_
  refine V_iload_n (pc := 22) dX4_tie_22 rfl rfl ?_
  refine V_iast (pc := 23) (n := 64) dX4_tie_23 (hA6 k_h0).1 (hA6 k_h0).2 (fun s23 => ?_)
  refine V_aload_n (pc := 24) dX4_tie_24 rfl rfl ?_
  refine V_getr (pc := 25) (t := (h0 + 7)) fk_X4_40 rfl dX4_tie_25 k_h0 (rf_4_14 _) ?_
  refine V_iload_n (pc := 28) dX4_tie_28 rfl rfl ?_
  refine V_bipush (pc := 29) dX4_tie_29 bp_8 ?_
  refine V_imul (pc := 31) dX4_tie_31 ?_
  refine V_iload_n (pc := 32) dX4_tie_32 rfl rfl ?_
  refine V_iadd (pc := 33) dX4_tie_33 ?_
  refine V_iload (pc := 34) dX4_tie_34 rfl ?_
  refine V_iast (pc := 36) (n := 64) dX4_tie_36 (hA7 k_h0).1 (hA7 k_h0).2 (fun s36 => ?_)
  refine V_aload_n (pc := 37) dX4_tie_37 rfl rfl ?_
  refine V_getr (pc := 38) (t := (h0 + 7)) fk_X4_40 rfl dX4_tie_38 k_h0 (rf_4_14 _) ?_
  refine V_iload_n (pc := 41) dX4_tie_41 rfl rfl ?_
  refine V_bipush (pc := 42) dX4_tie_42 bp_8 ?_
  refine V_imul (pc := 44) dX4_tie_44 ?_
  refine V_iload_n (pc := 45) dX4_tie_45 rfl rfl ?_
  refine V_iadd (pc := 46) dX4_tie_46 ?_
  refine V_iload (pc := 47) dX4_tie_47 rfl ?_
  refine V_iast (pc := 49) (n := 64) dX4_tie_49 (hA7 k_h0).1 (hA7 k_h0).2 (fun s49 => ?_)
  exact V_ret (pc := 50) dX4_tie_50 rfl (hk := fun h => h)
def J_X4_has_17 (h0 : Nat) (t0 : Int32) (σ : MS) : Option (Int32) := (if t0 = 0 ∨ t0 = 1 then some t0 else none)
def J_X4_has_16 (h0 : Nat) (σ : MS) : Option (Int32) := J_X4_has_17 h0 (0 : Int32) σ
def f_X4_has (h0 : Nat) (p1 : Int32) (σ : MS) : Option (Int32) := (if p1 < 0 then J_X4_has_16 h0 σ else (if (σ h0 0) ≤ p1 then J_X4_has_16 h0 σ else J_X4_has_17 h0 (1 : Int32) σ))
set_option maxRecDepth 20000 in
set_option maxHeartbeats 2000000 in
theorem c_X4_has (w : TG) (h0 : Nat) (p1 : Int32) (k_h0 : kd h0 = 4) (σ : MS) : MC m_X4_has w [.ref (wB w + h0), .int p1] σ ((f_X4_has h0 p1 σ).map (fun r => (r, σ))) := by
  refine V_methp (by decide +kernel) (Nat.le_of_ble_eq_true rfl) (by intro v hv; simp only [List.mem_cons, List.not_mem_nil, or_false] at hv; rcases hv with rfl | rfl <;> rfl) (fun g x => ?_)
  show VV m_X4_has w g 0 0 (QM m_X4_has w g x) (fun b : Int32 => (b, σ) = x) 0 [some (.ref (wB w + h0)), some (.int p1)] [] σ (f_X4_has h0 p1 σ)
  have hJ17 : ∀ (t0 : Int32), VV m_X4_has w g 0 0 (QM m_X4_has w g x) (fun b : Int32 => (b, σ) = x) 17 [none, none] [.int t0] σ (J_X4_has_17 h0 t0 σ) := by
    intro t0
    exact V_iretZ (pc := 17) dX4_has_17 rfl (hk := fun h => h)
  have hJ16 : ∀ (_ : Unit), VV m_X4_has w g 0 0 (QM m_X4_has w g x) (fun b : Int32 => (b, σ) = x) 16 [none, none] [] σ (J_X4_has_16 h0 σ) := by
    intro _
    refine V_iconst (pc := 16) dX4_has_16 ic_0 ?_
    exact hJ17 (0 : Int32)
  refine V_iload_n (pc := 0) dX4_has_0 rfl rfl ?_
  refine V_if_lt (pc := 1) (tgt := 16) dX4_has_1 (by decide +kernel) ?_ ?_
  · refine V_sub (vs' := [none, none]) (show vless _ _ from trivial) rfl ?_
    exact hJ16 ()
  · refine V_iload_n (pc := 4) dX4_has_4 rfl rfl ?_
    refine V_aload_n (pc := 5) dX4_has_5 rfl rfl ?_
    refine V_geti (pc := 6) fk_X4_46 rfl dX4_has_6 k_h0 (rf_4_0 _) ?_
    refine V_icmp_ge (pc := 9) (tgt := 16) dX4_has_9 (by decide +kernel) ?_ ?_
    · refine V_sub (vs' := [none, none]) (show vless _ _ from trivial) rfl ?_
      exact hJ16 ()
    · refine V_iconst (pc := 12) dX4_has_12 ic_1 ?_
      refine V_goto (pc := 13) (tgt := 17) dX4_has_13 (by decide +kernel) ?_
      refine V_sub (vs' := [none, none]) (show vless _ _ from trivial) rfl ?_
      exact hJ17 (1 : Int32)
def J_X4_holdsOn_34 (h0 : Nat) (t0 : Int32) (σ : MS) : Option (Int32) := (if t0 = 0 ∨ t0 = 1 then some t0 else none)
def J_X4_holdsOn_33 (h0 : Nat) (σ : MS) : Option (Int32) := J_X4_holdsOn_34 h0 (0 : Int32) σ
def f_X4_holdsOn (h0 : Nat) (p1 : Int32) (p2 : Int32) (p3 : Int32) (σ : MS) : Option (Int32) := (if inb ((p1 * (8 : Int32)) + p2) 64 then (if (σ (h0 + 6) (ix ((p1 * (8 : Int32)) + p2))) ≤ 0 then J_X4_holdsOn_33 h0 σ else (if inb ((p1 * (8 : Int32)) + p2) 64 then (if (σ (h0 + 7) (ix ((p1 * (8 : Int32)) + p2))) ≤ p3 then J_X4_holdsOn_33 h0 σ else J_X4_holdsOn_34 h0 (1 : Int32) σ) else none)) else none)
set_option maxRecDepth 20000 in
set_option maxHeartbeats 2000000 in
theorem c_X4_holdsOn (w : TG) (h0 : Nat) (p1 : Int32) (p2 : Int32) (p3 : Int32) (k_h0 : kd h0 = 4) (σ : MS) : MC m_X4_holdsOn w [.ref (wB w + h0), .int p1, .int p2, .int p3] σ ((f_X4_holdsOn h0 p1 p2 p3 σ).map (fun r => (r, σ))) := by
  refine V_methp (by decide +kernel) (Nat.le_of_ble_eq_true rfl) (by intro v hv; simp only [List.mem_cons, List.not_mem_nil, or_false] at hv; rcases hv with rfl | rfl | rfl | rfl <;> rfl) (fun g x => ?_)
  show VV m_X4_holdsOn w g 0 0 (QM m_X4_holdsOn w g x) (fun b : Int32 => (b, σ) = x) 0 [some (.ref (wB w + h0)), some (.int p1), some (.int p2), some (.int p3), none] [] σ (f_X4_holdsOn h0 p1 p2 p3 σ)
  have hJ34 : ∀ (t0 : Int32), VV m_X4_holdsOn w g 0 0 (QM m_X4_holdsOn w g x) (fun b : Int32 => (b, σ) = x) 34 [none, none, none, none, none] [.int t0] σ (J_X4_holdsOn_34 h0 t0 σ) := by
    intro t0
    exact V_iretZ (pc := 34) dX4_holdsOn_34 rfl (hk := fun h => h)
  have hJ33 : ∀ (_ : Unit), VV m_X4_holdsOn w g 0 0 (QM m_X4_holdsOn w g x) (fun b : Int32 => (b, σ) = x) 33 [none, none, none, none, none] [] σ (J_X4_holdsOn_33 h0 σ) := by
    intro _
    refine V_iconst (pc := 33) dX4_holdsOn_33 ic_0 ?_
    exact hJ34 (0 : Int32)
  refine V_iload_n (pc := 0) dX4_holdsOn_0 rfl rfl ?_
  refine V_bipush (pc := 1) dX4_holdsOn_1 bp_8 ?_
  refine V_imul (pc := 3) dX4_holdsOn_3 ?_
  refine V_iload_n (pc := 4) dX4_holdsOn_4 rfl rfl ?_
  refine V_iadd (pc := 5) dX4_holdsOn_5 ?_
  refine V_istore (pc := 6) (vs' := [some (.ref (wB w + h0)), some (.int p1), some (.int p2), some (.int p3), some (.int ((p1 * (8 : Int32)) + p2))]) dX4_holdsOn_6 (Nat.le_of_ble_eq_true rfl) (Nat.le_of_ble_eq_true rfl) rfl ?_
  refine V_aload_n (pc := 8) dX4_holdsOn_8 rfl rfl ?_
  refine V_getr (pc := 9) (t := (h0 + 6)) fk_X4_37 rfl dX4_holdsOn_9 k_h0 (rf_4_13 _) ?_
  refine V_iload (pc := 12) dX4_holdsOn_12 rfl ?_
  refine V_iald (pc := 14) (n := 64) dX4_holdsOn_14 (hA6 k_h0).1 (hA6 k_h0).2 ?_
  refine V_if_le (pc := 15) (tgt := 33) dX4_holdsOn_15 (by decide +kernel) ?_ ?_
  · refine V_sub (vs' := [none, none, none, none, none]) (show vless _ _ from trivial) rfl ?_
    exact hJ33 ()
  · refine V_iload_n (pc := 18) dX4_holdsOn_18 rfl rfl ?_
    refine V_aload_n (pc := 19) dX4_holdsOn_19 rfl rfl ?_
    refine V_getr (pc := 20) (t := (h0 + 7)) fk_X4_40 rfl dX4_holdsOn_20 k_h0 (rf_4_14 _) ?_
    refine V_iload (pc := 23) dX4_holdsOn_23 rfl ?_
    refine V_iald (pc := 25) (n := 64) dX4_holdsOn_25 (hA7 k_h0).1 (hA7 k_h0).2 ?_
    refine V_icmp_ge (pc := 26) (tgt := 33) dX4_holdsOn_26 (by decide +kernel) ?_ ?_
    · refine V_sub (vs' := [none, none, none, none, none]) (show vless _ _ from trivial) rfl ?_
      exact hJ33 ()
    · refine V_iconst (pc := 29) dX4_holdsOn_29 ic_1 ?_
      refine V_goto (pc := 30) (tgt := 34) dX4_holdsOn_30 (by decide +kernel) ?_
      refine V_sub (vs' := [none, none, none, none, none]) (show vless _ _ from trivial) rfl ?_
      exact hJ34 (1 : Int32)
def f_X4_holds (h0 : Nat) (p1 : Int32) (p2 : Int32) (σ : MS) : Option (Int32) := ((f_X4_holdsOn h0 p1 p2 (σ h0 5) σ).bind (fun q7 => (if q7 = 0 ∨ q7 = 1 then some q7 else none)))
set_option maxRecDepth 20000 in
set_option maxHeartbeats 2000000 in
theorem c_X4_holds (w : TG) (h0 : Nat) (p1 : Int32) (p2 : Int32) (k_h0 : kd h0 = 4) (σ : MS) : MC m_X4_holds w [.ref (wB w + h0), .int p1, .int p2] σ ((f_X4_holds h0 p1 p2 σ).map (fun r => (r, σ))) := by
  refine V_methp (by decide +kernel) (Nat.le_of_ble_eq_true rfl) (by intro v hv; simp only [List.mem_cons, List.not_mem_nil, or_false] at hv; rcases hv with rfl | rfl | rfl <;> rfl) (fun g x => ?_)
  show VV m_X4_holds w g 0 0 (QM m_X4_holds w g x) (fun b : Int32 => (b, σ) = x) 0 [some (.ref (wB w + h0)), some (.int p1), some (.int p2)] [] σ (f_X4_holds h0 p1 p2 σ)
  refine V_aload_n (pc := 0) dX4_holds_0 rfl rfl ?_
  refine V_iload_n (pc := 1) dX4_holds_1 rfl rfl ?_
  refine V_iload_n (pc := 2) dX4_holds_2 rfl rfl ?_
  refine V_aload_n (pc := 3) dX4_holds_3 rfl rfl ?_
  refine V_geti (pc := 4) fk_X4_55 rfl dX4_holds_4 k_h0 (rf_4_5 _) ?_
  refine V_callVpi (pc := 7) (As := [.int p1, .int p2, .int (σ h0 5)]) (rest := []) (c_X4_holdsOn w h0 p1 p2 (σ h0 5) k_h0 σ) cw_X4_67 rfl rfl dX4_holds_7 k_h0 ci_4 ⟨Nat.le_of_ble_eq_true rfl, Nat.le_of_ble_eq_true rfl⟩ rfl rfl (Nat.le_of_ble_eq_true rfl) (Nat.le_of_ble_eq_true rfl) (Nat.le_of_ble_eq_true rfl) rfl (fun q7 => ?_)
  exact V_iretZ (pc := 10) dX4_holds_10 rfl (hk := fun h => h)
def J_X4_boundTo_27 (n : Nat) (h0 : Nat) (v1 : Int32) (v2 : Int32) (v3 : Int32) (σ : MS) : Option ((Int32 × Int32) ⊕ (Int32)) := some (.inl (v2, (v3 + (1 : Int32))))
def L_X4_boundTo_4 (n : Nat) (h0 : Nat) (v1 : Int32) (σ : MS) (a4 : Int32 × Int32) : Option ((Int32 × Int32) ⊕ (Int32)) := (if (σ h0 0) ≤ a4.2 then (some a4.1).map Sum.inr else ((f_X4_holds h0 v1 a4.2 σ).bind (fun q15 => (if q15 = 0 then J_X4_boundTo_27 n h0 v1 a4.1 a4.2 σ else J_X4_boundTo_27 n h0 v1 (a4.1 ||| (shlI (1 : Int32) a4.2)) a4.2 σ))))
def f_X4_boundTo (n : Nat) (h0 : Nat) (p1 : Int32) (σ : MS) : Option (Int32) := itr (L_X4_boundTo_4 n h0 p1 σ) n ((0 : Int32), (0 : Int32))
set_option maxRecDepth 20000 in
set_option maxHeartbeats 2000000 in
theorem c_X4_boundTo (w : TG) (n : Nat) (h0 : Nat) (p1 : Int32) (k_h0 : kd h0 = 4) (σ : MS) : MC m_X4_boundTo w [.ref (wB w + h0), .int p1] σ ((f_X4_boundTo n h0 p1 σ).map (fun r => (r, σ))) := by
  refine V_methp (by decide +kernel) (Nat.le_of_ble_eq_true rfl) (by intro v hv; simp only [List.mem_cons, List.not_mem_nil, or_false] at hv; rcases hv with rfl | rfl <;> rfl) (fun g x => ?_)
  show VV m_X4_boundTo w g 0 0 (QM m_X4_boundTo w g x) (fun b : Int32 => (b, σ) = x) 0 [some (.ref (wB w + h0)), some (.int p1), none, none] [] σ (f_X4_boundTo n h0 p1 σ)
  have hL4 : ∀  (n0 : Nat) (a : Int32 × Int32), VV m_X4_boundTo w g 0 0 (QM m_X4_boundTo w g x) (fun b : Int32 => (b, σ) = x) 4 [some (.ref (wB w + h0)), some (.int p1), some (.int a.1), some (.int a.2)] [] σ (itr (L_X4_boundTo_4 n h0 p1 σ) n0 a) := by
    refine V_itr (vf := fun a : Int32 × Int32 => [some (.ref (wB w + h0)), some (.int p1), some (.int a.1), some (.int a.2)]) (sf := fun a : Int32 × Int32 => σ) (fun κ4 b4 r4 a4 => ?_)
    obtain ⟨a4_1, a4_2⟩ := a4
    show VV m_X4_boundTo w g 0 0 (QM m_X4_boundTo w g x) κ4 4 [some (.ref (wB w + h0)), some (.int p1), some (.int a4_1), some (.int a4_2)] [] σ (L_X4_boundTo_4 n h0 p1 σ (a4_1, a4_2))
    have hJ27 : ∀ (v2 : Int32) (v3 : Int32), VV m_X4_boundTo w g 0 0 (QM m_X4_boundTo w g x) κ4 27 [some (.ref (wB w + h0)), some (.int p1), some (.int v2), some (.int v3)] [] σ (J_X4_boundTo_27 n h0 p1 v2 v3 σ) := by
      intro v2 v3
      refine V_iincC (pc := 27) (vs' := [some (.ref (wB w + h0)), some (.int p1), some (.int v2), some (.int (v3 + (1 : Int32)))]) dX4_boundTo_27 (Nat.le_of_ble_eq_true rfl) rfl ic_1 rfl ?_
      refine V_goto (pc := 30) (tgt := 4) dX4_boundTo_30 (by decide +kernel) ?_
      exact V_back (b4 (v2, (v3 + (1 : Int32))))
    refine V_iload_n (pc := 4) dX4_boundTo_4 rfl rfl ?_
    refine V_aload_n (pc := 5) dX4_boundTo_5 rfl rfl ?_
    refine V_geti (pc := 6) fk_X4_46 rfl dX4_boundTo_6 k_h0 (rf_4_0 _) ?_
    refine V_icmp_ge (pc := 9) (tgt := 33) dX4_boundTo_9 (by decide +kernel) ?_ ?_
    · refine V_exit r4 ?_
      refine V_iload_n (pc := 33) dX4_boundTo_33 rfl rfl ?_
      exact V_ireti (pc := 34) dX4_boundTo_34 rfl (hk := fun h => h)
    · refine V_aload_n (pc := 12) dX4_boundTo_12 rfl rfl ?_
      refine V_iload_n (pc := 13) dX4_boundTo_13 rfl rfl ?_
      refine V_iload_n (pc := 14) dX4_boundTo_14 rfl rfl ?_
      refine V_callVpi (pc := 15) (As := [.int p1, .int a4_2]) (rest := []) (c_X4_holds w h0 p1 a4_2 k_h0 σ) cw_X4_71 rfl rfl dX4_boundTo_15 k_h0 ci_4 ⟨Nat.le_of_ble_eq_true rfl, Nat.le_of_ble_eq_true rfl⟩ rfl rfl (Nat.le_of_ble_eq_true rfl) (Nat.le_of_ble_eq_true rfl) (Nat.le_of_ble_eq_true rfl) rfl (fun q15 => ?_)
      refine V_if_eq (pc := 18) (tgt := 27) dX4_boundTo_18 (by decide +kernel) ?_ ?_
      · exact hJ27 a4_1 a4_2
      · refine V_iload_n (pc := 21) dX4_boundTo_21 rfl rfl ?_
        refine V_iconst (pc := 22) dX4_boundTo_22 ic_1 ?_
        refine V_iload_n (pc := 23) dX4_boundTo_23 rfl rfl ?_
        refine V_ishl (pc := 24) dX4_boundTo_24 ?_
        refine V_ior (pc := 25) dX4_boundTo_25 ?_
        refine V_istore_n (pc := 26) (vs' := [some (.ref (wB w + h0)), some (.int p1), some (.int (a4_1 ||| (shlI (1 : Int32) a4_2))), some (.int a4_2)]) dX4_boundTo_26 rfl (Nat.le_of_ble_eq_true rfl) (Nat.le_of_ble_eq_true rfl) rfl ?_
        exact hJ27 (a4_1 ||| (shlI (1 : Int32) a4_2)) a4_2
  refine V_iconst (pc := 0) dX4_boundTo_0 ic_0 ?_
  refine V_istore_n (pc := 1) (vs' := [some (.ref (wB w + h0)), some (.int p1), some (.int (0 : Int32)), none]) dX4_boundTo_1 rfl (Nat.le_of_ble_eq_true rfl) (Nat.le_of_ble_eq_true rfl) rfl ?_
  refine V_iconst (pc := 2) dX4_boundTo_2 ic_0 ?_
  refine V_istore_n (pc := 3) (vs' := [some (.ref (wB w + h0)), some (.int p1), some (.int (0 : Int32)), some (.int (0 : Int32))]) dX4_boundTo_3 rfl (Nat.le_of_ble_eq_true rfl) (Nat.le_of_ble_eq_true rfl) rfl ?_
  exact hL4 n ((0 : Int32), (0 : Int32))
def J_X4_held_24 (h0 : Nat) (t0 : Int32) (σ : MS) : Option (Int32) := some t0
def f_X4_held (h0 : Nat) (p1 : Int32) (p2 : Int32) (σ : MS) : Option (Int32) := ((f_X4_holds h0 p1 p2 σ).bind (fun q3 => (if q3 = 0 then J_X4_held_24 h0 (0 : Int32) σ else (if inb ((p1 * (8 : Int32)) + p2) 64 then J_X4_held_24 h0 (σ (h0 + 6) (ix ((p1 * (8 : Int32)) + p2))) σ else none))))
set_option maxRecDepth 20000 in
set_option maxHeartbeats 2000000 in
theorem c_X4_held (w : TG) (h0 : Nat) (p1 : Int32) (p2 : Int32) (k_h0 : kd h0 = 4) (σ : MS) : MC m_X4_held w [.ref (wB w + h0), .int p1, .int p2] σ ((f_X4_held h0 p1 p2 σ).map (fun r => (r, σ))) := by
  refine V_methp (by decide +kernel) (Nat.le_of_ble_eq_true rfl) (by intro v hv; simp only [List.mem_cons, List.not_mem_nil, or_false] at hv; rcases hv with rfl | rfl | rfl <;> rfl) (fun g x => ?_)
  show VV m_X4_held w g 0 0 (QM m_X4_held w g x) (fun b : Int32 => (b, σ) = x) 0 [some (.ref (wB w + h0)), some (.int p1), some (.int p2)] [] σ (f_X4_held h0 p1 p2 σ)
  have hJ24 : ∀ (t0 : Int32), VV m_X4_held w g 0 0 (QM m_X4_held w g x) (fun b : Int32 => (b, σ) = x) 24 [none, none, none] [.int t0] σ (J_X4_held_24 h0 t0 σ) := by
    intro t0
    exact V_ireti (pc := 24) dX4_held_24 rfl (hk := fun h => h)
  refine V_aload_n (pc := 0) dX4_held_0 rfl rfl ?_
  refine V_iload_n (pc := 1) dX4_held_1 rfl rfl ?_
  refine V_iload_n (pc := 2) dX4_held_2 rfl rfl ?_
  refine V_callVpi (pc := 3) (As := [.int p1, .int p2]) (rest := []) (c_X4_holds w h0 p1 p2 k_h0 σ) cw_X4_71 rfl rfl dX4_held_3 k_h0 ci_4 ⟨Nat.le_of_ble_eq_true rfl, Nat.le_of_ble_eq_true rfl⟩ rfl rfl (Nat.le_of_ble_eq_true rfl) (Nat.le_of_ble_eq_true rfl) (Nat.le_of_ble_eq_true rfl) rfl (fun q3 => ?_)
  refine V_if_eq (pc := 6) (tgt := 23) dX4_held_6 (by decide +kernel) ?_ ?_
  · refine V_iconst (pc := 23) dX4_held_23 ic_0 ?_
    refine V_sub (vs' := [none, none, none]) (show vless _ _ from trivial) rfl ?_
    exact hJ24 (0 : Int32)
  · refine V_aload_n (pc := 9) dX4_held_9 rfl rfl ?_
    refine V_getr (pc := 10) (t := (h0 + 6)) fk_X4_37 rfl dX4_held_10 k_h0 (rf_4_13 _) ?_
    refine V_iload_n (pc := 13) dX4_held_13 rfl rfl ?_
    refine V_bipush (pc := 14) dX4_held_14 bp_8 ?_
    refine V_imul (pc := 16) dX4_held_16 ?_
    refine V_iload_n (pc := 17) dX4_held_17 rfl rfl ?_
    refine V_iadd (pc := 18) dX4_held_18 ?_
    refine V_iald (pc := 19) (n := 64) dX4_held_19 (hA6 k_h0).1 (hA6 k_h0).2 ?_
    refine V_goto (pc := 20) (tgt := 24) dX4_held_20 (by decide +kernel) ?_
    refine V_sub (vs' := [none, none, none]) (show vless _ _ from trivial) rfl ?_
    exact hJ24 (σ (h0 + 6) (ix ((p1 * (8 : Int32)) + p2)))
def J_X4_closest_37 (n : Nat) (h0 : Nat) (v1 : Int32) (v2 : Int32) (v3 : Int32) (v4 : Int32) (σ : MS) : Option ((Int32 × Int32 × Int32) ⊕ (Int32)) := some (.inl (v2, v3, (v4 + (1 : Int32))))
def L_X4_closest_7 (n : Nat) (h0 : Nat) (v1 : Int32) (σ : MS) (a7 : Int32 × Int32 × Int32) : Option ((Int32 × Int32 × Int32) ⊕ (Int32)) := (if (σ h0 0) ≤ a7.2.2 then (some a7.2.1).map Sum.inr else ((f_X4_held h0 v1 a7.2.2 σ).bind (fun q20 => (if q20 ≤ a7.1 then J_X4_closest_37 n h0 v1 a7.1 a7.2.1 a7.2.2 σ else J_X4_closest_37 n h0 v1 q20 a7.2.2 a7.2.2 σ))))
def f_X4_closest (n : Nat) (h0 : Nat) (p1 : Int32) (σ : MS) : Option (Int32) := itr (L_X4_closest_7 n h0 p1 σ) n ((0 : Int32), (-1 : Int32), (0 : Int32))
set_option maxRecDepth 20000 in
set_option maxHeartbeats 2000000 in
theorem c_X4_closest (w : TG) (n : Nat) (h0 : Nat) (p1 : Int32) (k_h0 : kd h0 = 4) (σ : MS) : MC m_X4_closest w [.ref (wB w + h0), .int p1] σ ((f_X4_closest n h0 p1 σ).map (fun r => (r, σ))) := by
  refine V_methp (by decide +kernel) (Nat.le_of_ble_eq_true rfl) (by intro v hv; simp only [List.mem_cons, List.not_mem_nil, or_false] at hv; rcases hv with rfl | rfl <;> rfl) (fun g x => ?_)
  show VV m_X4_closest w g 0 0 (QM m_X4_closest w g x) (fun b : Int32 => (b, σ) = x) 0 [some (.ref (wB w + h0)), some (.int p1), none, none, none, none] [] σ (f_X4_closest n h0 p1 σ)
  have hL7 : ∀  (n0 : Nat) (a : Int32 × Int32 × Int32), VV m_X4_closest w g 0 0 (QM m_X4_closest w g x) (fun b : Int32 => (b, σ) = x) 7 [some (.ref (wB w + h0)), some (.int p1), some (.int a.1), some (.int a.2.1), some (.int a.2.2), none] [] σ (itr (L_X4_closest_7 n h0 p1 σ) n0 a) := by
    refine V_itr (vf := fun a : Int32 × Int32 × Int32 => [some (.ref (wB w + h0)), some (.int p1), some (.int a.1), some (.int a.2.1), some (.int a.2.2), none]) (sf := fun a : Int32 × Int32 × Int32 => σ) (fun κ7 b7 r7 a7 => ?_)
    obtain ⟨a7_1, a7_2, a7_3⟩ := a7
    show VV m_X4_closest w g 0 0 (QM m_X4_closest w g x) κ7 7 [some (.ref (wB w + h0)), some (.int p1), some (.int a7_1), some (.int a7_2), some (.int a7_3), none] [] σ (L_X4_closest_7 n h0 p1 σ (a7_1, a7_2, a7_3))
    have hJ37 : ∀ (v2 : Int32) (v3 : Int32) (v4 : Int32), VV m_X4_closest w g 0 0 (QM m_X4_closest w g x) κ7 37 [some (.ref (wB w + h0)), some (.int p1), some (.int v2), some (.int v3), some (.int v4), none] [] σ (J_X4_closest_37 n h0 p1 v2 v3 v4 σ) := by
      intro v2 v3 v4
      refine V_iincC (pc := 37) (vs' := [some (.ref (wB w + h0)), some (.int p1), some (.int v2), some (.int v3), some (.int (v4 + (1 : Int32))), none]) dX4_closest_37 (Nat.le_of_ble_eq_true rfl) rfl ic_1 rfl ?_
      refine V_goto (pc := 40) (tgt := 7) dX4_closest_40 (by decide +kernel) ?_
      exact V_back (b7 (v2, v3, (v4 + (1 : Int32))))
    refine V_iload (pc := 7) dX4_closest_7 rfl ?_
    refine V_aload_n (pc := 9) dX4_closest_9 rfl rfl ?_
    refine V_geti (pc := 10) fk_X4_46 rfl dX4_closest_10 k_h0 (rf_4_0 _) ?_
    refine V_icmp_ge (pc := 13) (tgt := 43) dX4_closest_13 (by decide +kernel) ?_ ?_
    · refine V_exit r7 ?_
      refine V_iload_n (pc := 43) dX4_closest_43 rfl rfl ?_
      exact V_ireti (pc := 44) dX4_closest_44 rfl (hk := fun h => h)
    · refine V_aload_n (pc := 16) dX4_closest_16 rfl rfl ?_
      refine V_iload_n (pc := 17) dX4_closest_17 rfl rfl ?_
      refine V_iload (pc := 18) dX4_closest_18 rfl ?_
      refine V_callVpi (pc := 20) (As := [.int p1, .int a7_3]) (rest := []) (c_X4_held w h0 p1 a7_3 k_h0 σ) cw_X4_75 rfl rfl dX4_closest_20 k_h0 ci_4 ⟨Nat.le_of_ble_eq_true rfl, Nat.le_of_ble_eq_true rfl⟩ rfl rfl (Nat.le_of_ble_eq_true rfl) (Nat.le_of_ble_eq_true rfl) (Nat.le_of_ble_eq_true rfl) rfl (fun q20 => ?_)
      refine V_istore (pc := 23) (vs' := [some (.ref (wB w + h0)), some (.int p1), some (.int a7_1), some (.int a7_2), some (.int a7_3), some (.int q20)]) dX4_closest_23 (Nat.le_of_ble_eq_true rfl) (Nat.le_of_ble_eq_true rfl) rfl ?_
      refine V_iload (pc := 25) dX4_closest_25 rfl ?_
      refine V_iload_n (pc := 27) dX4_closest_27 rfl rfl ?_
      refine V_icmp_le (pc := 28) (tgt := 37) dX4_closest_28 (by decide +kernel) ?_ ?_
      · refine V_sub (vs' := [some (.ref (wB w + h0)), some (.int p1), some (.int a7_1), some (.int a7_2), some (.int a7_3), none]) (show vless _ _ from ⟨rfl, ⟨rfl, ⟨rfl, ⟨rfl, ⟨rfl, trivial⟩⟩⟩⟩⟩) rfl ?_
        exact hJ37 a7_1 a7_2 a7_3
      · refine V_iload (pc := 31) dX4_closest_31 rfl ?_
        refine V_istore_n (pc := 33) (vs' := [some (.ref (wB w + h0)), some (.int p1), some (.int q20), some (.int a7_2), some (.int a7_3), some (.int q20)]) dX4_closest_33 rfl (Nat.le_of_ble_eq_true rfl) (Nat.le_of_ble_eq_true rfl) rfl ?_
        refine V_iload (pc := 34) dX4_closest_34 rfl ?_
        refine V_istore_n (pc := 36) (vs' := [some (.ref (wB w + h0)), some (.int p1), some (.int q20), some (.int a7_3), some (.int a7_3), some (.int q20)]) dX4_closest_36 rfl (Nat.le_of_ble_eq_true rfl) (Nat.le_of_ble_eq_true rfl) rfl ?_
        refine V_sub (vs' := [some (.ref (wB w + h0)), some (.int p1), some (.int q20), some (.int a7_3), some (.int a7_3), none]) (show vless _ _ from ⟨rfl, ⟨rfl, ⟨rfl, ⟨rfl, ⟨rfl, trivial⟩⟩⟩⟩⟩) rfl ?_
        exact hJ37 q20 a7_3 a7_3
  refine V_iconst (pc := 0) dX4_closest_0 ic_0 ?_
  refine V_istore_n (pc := 1) (vs' := [some (.ref (wB w + h0)), some (.int p1), some (.int (0 : Int32)), none, none, none]) dX4_closest_1 rfl (Nat.le_of_ble_eq_true rfl) (Nat.le_of_ble_eq_true rfl) rfl ?_
  refine V_iconst (pc := 2) dX4_closest_2 ic_m1 ?_
  refine V_istore_n (pc := 3) (vs' := [some (.ref (wB w + h0)), some (.int p1), some (.int (0 : Int32)), some (.int (-1 : Int32)), none, none]) dX4_closest_3 rfl (Nat.le_of_ble_eq_true rfl) (Nat.le_of_ble_eq_true rfl) rfl ?_
  refine V_iconst (pc := 4) dX4_closest_4 ic_0 ?_
  refine V_istore (pc := 5) (vs' := [some (.ref (wB w + h0)), some (.int p1), some (.int (0 : Int32)), some (.int (-1 : Int32)), some (.int (0 : Int32)), none]) dX4_closest_5 (Nat.le_of_ble_eq_true rfl) (Nat.le_of_ble_eq_true rfl) rfl ?_
  exact hL7 n ((0 : Int32), (-1 : Int32), (0 : Int32))
def f_X4_likingOf (h0 : Nat) (p1 : Int32) (p2 : Int32) (σ : MS) : Option (Int32) := (if inb ((p1 * (8 : Int32)) + p2) 64 then some (σ (h0 + 5) (ix ((p1 * (8 : Int32)) + p2))) else none)
set_option maxRecDepth 20000 in
set_option maxHeartbeats 2000000 in
theorem c_X4_likingOf (w : TG) (h0 : Nat) (p1 : Int32) (p2 : Int32) (k_h0 : kd h0 = 4) (σ : MS) : MC m_X4_likingOf w [.ref (wB w + h0), .int p1, .int p2] σ ((f_X4_likingOf h0 p1 p2 σ).map (fun r => (r, σ))) := by
  refine V_methp (by decide +kernel) (Nat.le_of_ble_eq_true rfl) (by intro v hv; simp only [List.mem_cons, List.not_mem_nil, or_false] at hv; rcases hv with rfl | rfl | rfl <;> rfl) (fun g x => ?_)
  show VV m_X4_likingOf w g 0 0 (QM m_X4_likingOf w g x) (fun b : Int32 => (b, σ) = x) 0 [some (.ref (wB w + h0)), some (.int p1), some (.int p2)] [] σ (f_X4_likingOf h0 p1 p2 σ)
  refine V_aload_n (pc := 0) dX4_likingOf_0 rfl rfl ?_
  refine V_getr (pc := 1) (t := (h0 + 5)) fk_X4_34 rfl dX4_likingOf_1 k_h0 (rf_4_12 _) ?_
  refine V_iload_n (pc := 4) dX4_likingOf_4 rfl rfl ?_
  refine V_bipush (pc := 5) dX4_likingOf_5 bp_8 ?_
  refine V_imul (pc := 7) dX4_likingOf_7 ?_
  refine V_iload_n (pc := 8) dX4_likingOf_8 rfl rfl ?_
  refine V_iadd (pc := 9) dX4_likingOf_9 ?_
  refine V_iald (pc := 10) (n := 64) dX4_likingOf_10 (hA5 k_h0).1 (hA5 k_h0).2 ?_
  exact V_ireti (pc := 11) dX4_likingOf_11 rfl (hk := fun h => h)
def J_X4_heldTill_24 (h0 : Nat) (t0 : Int32) (σ : MS) : Option (Int32) := some t0
def f_X4_heldTill (h0 : Nat) (p1 : Int32) (p2 : Int32) (σ : MS) : Option (Int32) := ((f_X4_holds h0 p1 p2 σ).bind (fun q3 => (if q3 = 0 then J_X4_heldTill_24 h0 (-1 : Int32) σ else (if inb ((p1 * (8 : Int32)) + p2) 64 then J_X4_heldTill_24 h0 (σ (h0 + 7) (ix ((p1 * (8 : Int32)) + p2))) σ else none))))
set_option maxRecDepth 20000 in
set_option maxHeartbeats 2000000 in
theorem c_X4_heldTill (w : TG) (h0 : Nat) (p1 : Int32) (p2 : Int32) (k_h0 : kd h0 = 4) (σ : MS) : MC m_X4_heldTill w [.ref (wB w + h0), .int p1, .int p2] σ ((f_X4_heldTill h0 p1 p2 σ).map (fun r => (r, σ))) := by
  refine V_methp (by decide +kernel) (Nat.le_of_ble_eq_true rfl) (by intro v hv; simp only [List.mem_cons, List.not_mem_nil, or_false] at hv; rcases hv with rfl | rfl | rfl <;> rfl) (fun g x => ?_)
  show VV m_X4_heldTill w g 0 0 (QM m_X4_heldTill w g x) (fun b : Int32 => (b, σ) = x) 0 [some (.ref (wB w + h0)), some (.int p1), some (.int p2)] [] σ (f_X4_heldTill h0 p1 p2 σ)
  have hJ24 : ∀ (t0 : Int32), VV m_X4_heldTill w g 0 0 (QM m_X4_heldTill w g x) (fun b : Int32 => (b, σ) = x) 24 [none, none, none] [.int t0] σ (J_X4_heldTill_24 h0 t0 σ) := by
    intro t0
    exact V_ireti (pc := 24) dX4_heldTill_24 rfl (hk := fun h => h)
  refine V_aload_n (pc := 0) dX4_heldTill_0 rfl rfl ?_
  refine V_iload_n (pc := 1) dX4_heldTill_1 rfl rfl ?_
  refine V_iload_n (pc := 2) dX4_heldTill_2 rfl rfl ?_
  refine V_callVpi (pc := 3) (As := [.int p1, .int p2]) (rest := []) (c_X4_holds w h0 p1 p2 k_h0 σ) cw_X4_71 rfl rfl dX4_heldTill_3 k_h0 ci_4 ⟨Nat.le_of_ble_eq_true rfl, Nat.le_of_ble_eq_true rfl⟩ rfl rfl (Nat.le_of_ble_eq_true rfl) (Nat.le_of_ble_eq_true rfl) (Nat.le_of_ble_eq_true rfl) rfl (fun q3 => ?_)
  refine V_if_eq (pc := 6) (tgt := 23) dX4_heldTill_6 (by decide +kernel) ?_ ?_
  · refine V_iconst (pc := 23) dX4_heldTill_23 ic_m1 ?_
    refine V_sub (vs' := [none, none, none]) (show vless _ _ from trivial) rfl ?_
    exact hJ24 (-1 : Int32)
  · refine V_aload_n (pc := 9) dX4_heldTill_9 rfl rfl ?_
    refine V_getr (pc := 10) (t := (h0 + 7)) fk_X4_40 rfl dX4_heldTill_10 k_h0 (rf_4_14 _) ?_
    refine V_iload_n (pc := 13) dX4_heldTill_13 rfl rfl ?_
    refine V_bipush (pc := 14) dX4_heldTill_14 bp_8 ?_
    refine V_imul (pc := 16) dX4_heldTill_16 ?_
    refine V_iload_n (pc := 17) dX4_heldTill_17 rfl rfl ?_
    refine V_iadd (pc := 18) dX4_heldTill_18 ?_
    refine V_iald (pc := 19) (n := 64) dX4_heldTill_19 (hA7 k_h0).1 (hA7 k_h0).2 ?_
    refine V_goto (pc := 20) (tgt := 24) dX4_heldTill_20 (by decide +kernel) ?_
    refine V_sub (vs' := [none, none, none]) (show vless _ _ from trivial) rfl ?_
    exact hJ24 (σ (h0 + 7) (ix ((p1 * (8 : Int32)) + p2)))
def f_X4_everybody (h0 : Nat) (σ : MS) : Option (Int32) := some ((shlI (1 : Int32) (σ h0 0)) - (1 : Int32))
set_option maxRecDepth 20000 in
set_option maxHeartbeats 2000000 in
theorem c_X4_everybody (w : TG) (h0 : Nat) (k_h0 : kd h0 = 4) (σ : MS) : MC m_X4_everybody w [.ref (wB w + h0)] σ ((f_X4_everybody h0 σ).map (fun r => (r, σ))) := by
  refine V_methp (by decide +kernel) (Nat.le_of_ble_eq_true rfl) (by intro v hv; simp only [List.mem_cons, List.not_mem_nil, or_false] at hv; subst hv; rfl) (fun g x => ?_)
  show VV m_X4_everybody w g 0 0 (QM m_X4_everybody w g x) (fun b : Int32 => (b, σ) = x) 0 [some (.ref (wB w + h0))] [] σ (f_X4_everybody h0 σ)
  refine V_iconst (pc := 0) dX4_everybody_0 ic_1 ?_
  refine V_aload_n (pc := 1) dX4_everybody_1 rfl rfl ?_
  refine V_geti (pc := 2) fk_X4_46 rfl dX4_everybody_2 k_h0 (rf_4_0 _) ?_
  refine V_ishl (pc := 5) dX4_everybody_5 ?_
  refine V_iconst (pc := 6) dX4_everybody_6 ic_1 ?_
  refine V_isub (pc := 7) dX4_everybody_7 ?_
  exact V_ireti (pc := 8) dX4_everybody_8 rfl (hk := fun h => h)
def f_J6_bitCount_0f7a4 (p0 : Int32) (σ : MS) : Option (Int32) := some ((((((((p0 - ((ushI p0 (1 : Int32)) &&& (1431655765 : Int32))) &&& (858993459 : Int32)) + ((ushI (p0 - ((ushI p0 (1 : Int32)) &&& (1431655765 : Int32))) (2 : Int32)) &&& (858993459 : Int32))) + (ushI (((p0 - ((ushI p0 (1 : Int32)) &&& (1431655765 : Int32))) &&& (858993459 : Int32)) + ((ushI (p0 - ((ushI p0 (1 : Int32)) &&& (1431655765 : Int32))) (2 : Int32)) &&& (858993459 : Int32))) (4 : Int32))) &&& (252645135 : Int32)) + (ushI (((((p0 - ((ushI p0 (1 : Int32)) &&& (1431655765 : Int32))) &&& (858993459 : Int32)) + ((ushI (p0 - ((ushI p0 (1 : Int32)) &&& (1431655765 : Int32))) (2 : Int32)) &&& (858993459 : Int32))) + (ushI (((p0 - ((ushI p0 (1 : Int32)) &&& (1431655765 : Int32))) &&& (858993459 : Int32)) + ((ushI (p0 - ((ushI p0 (1 : Int32)) &&& (1431655765 : Int32))) (2 : Int32)) &&& (858993459 : Int32))) (4 : Int32))) &&& (252645135 : Int32)) (8 : Int32))) + (ushI ((((((p0 - ((ushI p0 (1 : Int32)) &&& (1431655765 : Int32))) &&& (858993459 : Int32)) + ((ushI (p0 - ((ushI p0 (1 : Int32)) &&& (1431655765 : Int32))) (2 : Int32)) &&& (858993459 : Int32))) + (ushI (((p0 - ((ushI p0 (1 : Int32)) &&& (1431655765 : Int32))) &&& (858993459 : Int32)) + ((ushI (p0 - ((ushI p0 (1 : Int32)) &&& (1431655765 : Int32))) (2 : Int32)) &&& (858993459 : Int32))) (4 : Int32))) &&& (252645135 : Int32)) + (ushI (((((p0 - ((ushI p0 (1 : Int32)) &&& (1431655765 : Int32))) &&& (858993459 : Int32)) + ((ushI (p0 - ((ushI p0 (1 : Int32)) &&& (1431655765 : Int32))) (2 : Int32)) &&& (858993459 : Int32))) + (ushI (((p0 - ((ushI p0 (1 : Int32)) &&& (1431655765 : Int32))) &&& (858993459 : Int32)) + ((ushI (p0 - ((ushI p0 (1 : Int32)) &&& (1431655765 : Int32))) (2 : Int32)) &&& (858993459 : Int32))) (4 : Int32))) &&& (252645135 : Int32)) (8 : Int32))) (16 : Int32))) &&& (63 : Int32))
set_option maxRecDepth 20000 in
set_option maxHeartbeats 2000000 in
theorem c_J6_bitCount_0f7a4 (w : TG) (p0 : Int32) (σ : MS) : MC m_J6_bitCount_0f7a4 w [.int p0] σ ((f_J6_bitCount_0f7a4 p0 σ).map (fun r => (r, σ))) := by
  refine V_methp (by decide +kernel) (Nat.le_of_ble_eq_true rfl) (by intro v hv; simp only [List.mem_cons, List.not_mem_nil, or_false] at hv; subst hv; rfl) (fun g x => ?_)
  show VV m_J6_bitCount_0f7a4 w g 0 0 (QM m_J6_bitCount_0f7a4 w g x) (fun b : Int32 => (b, σ) = x) 0 [some (.int p0)] [] σ (f_J6_bitCount_0f7a4 p0 σ)
  refine V_iload_n (pc := 0) dJ6_bitCount_0f7a4_0 rfl rfl ?_
  refine V_iload_n (pc := 1) dJ6_bitCount_0f7a4_1 rfl rfl ?_
  refine V_iconst (pc := 2) dJ6_bitCount_0f7a4_2 ic_1 ?_
  refine V_iushr (pc := 3) dJ6_bitCount_0f7a4_3 ?_
  refine V_ldcw (pc := 4) (v := (1431655765 : Int32)) dJ6_bitCount_0f7a4_4 rfl ld_J6_265 ?_
  refine V_iand (pc := 7) dJ6_bitCount_0f7a4_7 ?_
  refine V_isub (pc := 8) dJ6_bitCount_0f7a4_8 ?_
  refine V_istore_n (pc := 9) (vs' := [some (.int (p0 - ((ushI p0 (1 : Int32)) &&& (1431655765 : Int32))))]) dJ6_bitCount_0f7a4_9 rfl (Nat.le_of_ble_eq_true rfl) (Nat.le_of_ble_eq_true rfl) rfl ?_
  refine V_iload_n (pc := 10) dJ6_bitCount_0f7a4_10 rfl rfl ?_
  refine V_ldcw (pc := 11) (v := (858993459 : Int32)) dJ6_bitCount_0f7a4_11 rfl ld_J6_266 ?_
  refine V_iand (pc := 14) dJ6_bitCount_0f7a4_14 ?_
  refine V_iload_n (pc := 15) dJ6_bitCount_0f7a4_15 rfl rfl ?_
  refine V_iconst (pc := 16) dJ6_bitCount_0f7a4_16 ic_2 ?_
  refine V_iushr (pc := 17) dJ6_bitCount_0f7a4_17 ?_
  refine V_ldcw (pc := 18) (v := (858993459 : Int32)) dJ6_bitCount_0f7a4_18 rfl ld_J6_266 ?_
  refine V_iand (pc := 21) dJ6_bitCount_0f7a4_21 ?_
  refine V_iadd (pc := 22) dJ6_bitCount_0f7a4_22 ?_
  refine V_istore_n (pc := 23) (vs' := [some (.int (((p0 - ((ushI p0 (1 : Int32)) &&& (1431655765 : Int32))) &&& (858993459 : Int32)) + ((ushI (p0 - ((ushI p0 (1 : Int32)) &&& (1431655765 : Int32))) (2 : Int32)) &&& (858993459 : Int32))))]) dJ6_bitCount_0f7a4_23 rfl (Nat.le_of_ble_eq_true rfl) (Nat.le_of_ble_eq_true rfl) rfl ?_
  refine V_iload_n (pc := 24) dJ6_bitCount_0f7a4_24 rfl rfl ?_
  refine V_iload_n (pc := 25) dJ6_bitCount_0f7a4_25 rfl rfl ?_
  refine V_iconst (pc := 26) dJ6_bitCount_0f7a4_26 ic_4 ?_
  refine V_iushr (pc := 27) dJ6_bitCount_0f7a4_27 ?_
  refine V_iadd (pc := 28) dJ6_bitCount_0f7a4_28 ?_
  refine V_ldcw (pc := 29) (v := (252645135 : Int32)) dJ6_bitCount_0f7a4_29 rfl ld_J6_267 ?_
  refine V_iand (pc := 32) dJ6_bitCount_0f7a4_32 ?_
  refine V_istore_n (pc := 33) (vs' := [some (.int (((((p0 - ((ushI p0 (1 : Int32)) &&& (1431655765 : Int32))) &&& (858993459 : Int32)) + ((ushI (p0 - ((ushI p0 (1 : Int32)) &&& (1431655765 : Int32))) (2 : Int32)) &&& (858993459 : Int32))) + (ushI (((p0 - ((ushI p0 (1 : Int32)) &&& (1431655765 : Int32))) &&& (858993459 : Int32)) + ((ushI (p0 - ((ushI p0 (1 : Int32)) &&& (1431655765 : Int32))) (2 : Int32)) &&& (858993459 : Int32))) (4 : Int32))) &&& (252645135 : Int32)))]) dJ6_bitCount_0f7a4_33 rfl (Nat.le_of_ble_eq_true rfl) (Nat.le_of_ble_eq_true rfl) rfl ?_
  refine V_iload_n (pc := 34) dJ6_bitCount_0f7a4_34 rfl rfl ?_
  refine V_iload_n (pc := 35) dJ6_bitCount_0f7a4_35 rfl rfl ?_
  refine V_bipush (pc := 36) dJ6_bitCount_0f7a4_36 bp_8 ?_
  refine V_iushr (pc := 38) dJ6_bitCount_0f7a4_38 ?_
  refine V_iadd (pc := 39) dJ6_bitCount_0f7a4_39 ?_
  refine V_istore_n (pc := 40) (vs' := [some (.int ((((((p0 - ((ushI p0 (1 : Int32)) &&& (1431655765 : Int32))) &&& (858993459 : Int32)) + ((ushI (p0 - ((ushI p0 (1 : Int32)) &&& (1431655765 : Int32))) (2 : Int32)) &&& (858993459 : Int32))) + (ushI (((p0 - ((ushI p0 (1 : Int32)) &&& (1431655765 : Int32))) &&& (858993459 : Int32)) + ((ushI (p0 - ((ushI p0 (1 : Int32)) &&& (1431655765 : Int32))) (2 : Int32)) &&& (858993459 : Int32))) (4 : Int32))) &&& (252645135 : Int32)) + (ushI (((((p0 - ((ushI p0 (1 : Int32)) &&& (1431655765 : Int32))) &&& (858993459 : Int32)) + ((ushI (p0 - ((ushI p0 (1 : Int32)) &&& (1431655765 : Int32))) (2 : Int32)) &&& (858993459 : Int32))) + (ushI (((p0 - ((ushI p0 (1 : Int32)) &&& (1431655765 : Int32))) &&& (858993459 : Int32)) + ((ushI (p0 - ((ushI p0 (1 : Int32)) &&& (1431655765 : Int32))) (2 : Int32)) &&& (858993459 : Int32))) (4 : Int32))) &&& (252645135 : Int32)) (8 : Int32))))]) dJ6_bitCount_0f7a4_40 rfl (Nat.le_of_ble_eq_true rfl) (Nat.le_of_ble_eq_true rfl) rfl ?_
  refine V_iload_n (pc := 41) dJ6_bitCount_0f7a4_41 rfl rfl ?_
  refine V_iload_n (pc := 42) dJ6_bitCount_0f7a4_42 rfl rfl ?_
  refine V_bipush (pc := 43) dJ6_bitCount_0f7a4_43 bp_16 ?_
  refine V_iushr (pc := 45) dJ6_bitCount_0f7a4_45 ?_
  refine V_iadd (pc := 46) dJ6_bitCount_0f7a4_46 ?_
  refine V_istore_n (pc := 47) (vs' := [some (.int (((((((p0 - ((ushI p0 (1 : Int32)) &&& (1431655765 : Int32))) &&& (858993459 : Int32)) + ((ushI (p0 - ((ushI p0 (1 : Int32)) &&& (1431655765 : Int32))) (2 : Int32)) &&& (858993459 : Int32))) + (ushI (((p0 - ((ushI p0 (1 : Int32)) &&& (1431655765 : Int32))) &&& (858993459 : Int32)) + ((ushI (p0 - ((ushI p0 (1 : Int32)) &&& (1431655765 : Int32))) (2 : Int32)) &&& (858993459 : Int32))) (4 : Int32))) &&& (252645135 : Int32)) + (ushI (((((p0 - ((ushI p0 (1 : Int32)) &&& (1431655765 : Int32))) &&& (858993459 : Int32)) + ((ushI (p0 - ((ushI p0 (1 : Int32)) &&& (1431655765 : Int32))) (2 : Int32)) &&& (858993459 : Int32))) + (ushI (((p0 - ((ushI p0 (1 : Int32)) &&& (1431655765 : Int32))) &&& (858993459 : Int32)) + ((ushI (p0 - ((ushI p0 (1 : Int32)) &&& (1431655765 : Int32))) (2 : Int32)) &&& (858993459 : Int32))) (4 : Int32))) &&& (252645135 : Int32)) (8 : Int32))) + (ushI ((((((p0 - ((ushI p0 (1 : Int32)) &&& (1431655765 : Int32))) &&& (858993459 : Int32)) + ((ushI (p0 - ((ushI p0 (1 : Int32)) &&& (1431655765 : Int32))) (2 : Int32)) &&& (858993459 : Int32))) + (ushI (((p0 - ((ushI p0 (1 : Int32)) &&& (1431655765 : Int32))) &&& (858993459 : Int32)) + ((ushI (p0 - ((ushI p0 (1 : Int32)) &&& (1431655765 : Int32))) (2 : Int32)) &&& (858993459 : Int32))) (4 : Int32))) &&& (252645135 : Int32)) + (ushI (((((p0 - ((ushI p0 (1 : Int32)) &&& (1431655765 : Int32))) &&& (858993459 : Int32)) + ((ushI (p0 - ((ushI p0 (1 : Int32)) &&& (1431655765 : Int32))) (2 : Int32)) &&& (858993459 : Int32))) + (ushI (((p0 - ((ushI p0 (1 : Int32)) &&& (1431655765 : Int32))) &&& (858993459 : Int32)) + ((ushI (p0 - ((ushI p0 (1 : Int32)) &&& (1431655765 : Int32))) (2 : Int32)) &&& (858993459 : Int32))) (4 : Int32))) &&& (252645135 : Int32)) (8 : Int32))) (16 : Int32))))]) dJ6_bitCount_0f7a4_47 rfl (Nat.le_of_ble_eq_true rfl) (Nat.le_of_ble_eq_true rfl) rfl ?_
  refine V_iload_n (pc := 48) dJ6_bitCount_0f7a4_48 rfl rfl ?_
  refine V_bipush (pc := 49) dJ6_bitCount_0f7a4_49 bp_63 ?_
  refine V_iand (pc := 51) dJ6_bitCount_0f7a4_51 ?_
  exact V_ireti (pc := 52) dJ6_bitCount_0f7a4_52 rfl (hk := fun h => h)
def f_X4_draw (h0 : Nat) (σ : MS) : Option (Int32 × MS) := (ltM (mu σ h0 6 (((1103515245 : Int32) * (σ h0 6)) + (12345 : Int32))) (fun s12 => some (((ushI (s12 h0 6) (16 : Int32)) &&& (32767 : Int32)), s12)))
set_option maxRecDepth 20000 in
set_option maxHeartbeats 2000000 in
theorem c_X4_draw (w : TG) (h0 : Nat) (k_h0 : kd h0 = 4) (σ : MS) : MC m_X4_draw w [.ref (wB w + h0)] σ (f_X4_draw h0 σ) := by
  refine V_meth (by decide +kernel) (Nat.le_of_ble_eq_true rfl) (by intro v hv; simp only [List.mem_cons, List.not_mem_nil, or_false] at hv; subst hv; rfl) (fun g x => ?_)
  show VV m_X4_draw w g 0 0 (QM m_X4_draw w g x) (fun b : Int32 × MS => b = x) 0 [some (.ref (wB w + h0))] [] σ (f_X4_draw h0 σ)
  refine V_aload_n (pc := 0) dX4_draw_0 rfl rfl ?_
  refine V_ldc (pc := 1) (v := (1103515245 : Int32)) dX4_draw_1 rfl ld_X4_83 ?_
  refine V_aload_n (pc := 3) dX4_draw_3 rfl rfl ?_
  refine V_geti (pc := 4) fk_X4_18 rfl dX4_draw_4 k_h0 (rf_4_6 _) ?_
  refine V_imul (pc := 7) dX4_draw_7 ?_
  refine V_sipush (pc := 8) dX4_draw_8 sp_12345 ?_
  refine V_iadd (pc := 11) dX4_draw_11 ?_
  refine V_puti (pc := 12) fp_X4_18 rfl dX4_draw_12 k_h0 (rf_4_6 _) (fun s12 => ?_)
  refine V_aload_n (pc := 15) dX4_draw_15 rfl rfl ?_
  refine V_geti (pc := 16) fk_X4_18 rfl dX4_draw_16 k_h0 (rf_4_6 _) ?_
  refine V_bipush (pc := 19) dX4_draw_19 bp_16 ?_
  refine V_iushr (pc := 21) dX4_draw_21 ?_
  refine V_sipush (pc := 22) dX4_draw_22 sp_32767 ?_
  refine V_iand (pc := 25) dX4_draw_25 ?_
  exact V_ireti (pc := 26) dX4_draw_26 rfl (hk := fun h => h)
def J_X4_isSecret_24 (h0 : Nat) (t0 : Int32) (σ : MS) : Option (Int32) := (if t0 = 0 ∨ t0 = 1 then some t0 else none)
def J_X4_isSecret_23 (h0 : Nat) (σ : MS) : Option (Int32) := J_X4_isSecret_24 h0 (0 : Int32) σ
def f_X4_isSecret (h0 : Nat) (p1 : Int32) (p2 : Int32) (σ : MS) : Option (Int32) := (if inb p1 8 then (if (σ (h0 + 2) (ix p1)) = p2 then J_X4_isSecret_23 h0 σ else ((f_X4_holds h0 p1 p2 σ).bind (fun q13 => (if q13 = 0 then J_X4_isSecret_23 h0 σ else J_X4_isSecret_24 h0 (1 : Int32) σ)))) else none)
set_option maxRecDepth 20000 in
set_option maxHeartbeats 2000000 in
theorem c_X4_isSecret (w : TG) (h0 : Nat) (p1 : Int32) (p2 : Int32) (k_h0 : kd h0 = 4) (σ : MS) : MC m_X4_isSecret w [.ref (wB w + h0), .int p1, .int p2] σ ((f_X4_isSecret h0 p1 p2 σ).map (fun r => (r, σ))) := by
  refine V_methp (by decide +kernel) (Nat.le_of_ble_eq_true rfl) (by intro v hv; simp only [List.mem_cons, List.not_mem_nil, or_false] at hv; rcases hv with rfl | rfl | rfl <;> rfl) (fun g x => ?_)
  show VV m_X4_isSecret w g 0 0 (QM m_X4_isSecret w g x) (fun b : Int32 => (b, σ) = x) 0 [some (.ref (wB w + h0)), some (.int p1), some (.int p2)] [] σ (f_X4_isSecret h0 p1 p2 σ)
  have hJ24 : ∀ (t0 : Int32), VV m_X4_isSecret w g 0 0 (QM m_X4_isSecret w g x) (fun b : Int32 => (b, σ) = x) 24 [none, none, none] [.int t0] σ (J_X4_isSecret_24 h0 t0 σ) := by
    intro t0
    exact V_iretZ (pc := 24) dX4_isSecret_24 rfl (hk := fun h => h)
  have hJ23 : ∀ (_ : Unit), VV m_X4_isSecret w g 0 0 (QM m_X4_isSecret w g x) (fun b : Int32 => (b, σ) = x) 23 [none, none, none] [] σ (J_X4_isSecret_23 h0 σ) := by
    intro _
    refine V_iconst (pc := 23) dX4_isSecret_23 ic_0 ?_
    exact hJ24 (0 : Int32)
  refine V_aload_n (pc := 0) dX4_isSecret_0 rfl rfl ?_
  refine V_getr (pc := 1) (t := (h0 + 2)) fk_X4_25 rfl dX4_isSecret_1 k_h0 (rf_4_9 _) ?_
  refine V_iload_n (pc := 4) dX4_isSecret_4 rfl rfl ?_
  refine V_iald (pc := 5) (n := 8) dX4_isSecret_5 (hA2 k_h0).1 (hA2 k_h0).2 ?_
  refine V_iload_n (pc := 6) dX4_isSecret_6 rfl rfl ?_
  refine V_icmp_eq (pc := 7) (tgt := 23) dX4_isSecret_7 (by decide +kernel) ?_ ?_
  · refine V_sub (vs' := [none, none, none]) (show vless _ _ from trivial) rfl ?_
    exact hJ23 ()
  · refine V_aload_n (pc := 10) dX4_isSecret_10 rfl rfl ?_
    refine V_iload_n (pc := 11) dX4_isSecret_11 rfl rfl ?_
    refine V_iload_n (pc := 12) dX4_isSecret_12 rfl rfl ?_
    refine V_callVpi (pc := 13) (As := [.int p1, .int p2]) (rest := []) (c_X4_holds w h0 p1 p2 k_h0 σ) cw_X4_71 rfl rfl dX4_isSecret_13 k_h0 ci_4 ⟨Nat.le_of_ble_eq_true rfl, Nat.le_of_ble_eq_true rfl⟩ rfl rfl (Nat.le_of_ble_eq_true rfl) (Nat.le_of_ble_eq_true rfl) (Nat.le_of_ble_eq_true rfl) rfl (fun q13 => ?_)
    refine V_if_eq (pc := 16) (tgt := 23) dX4_isSecret_16 (by decide +kernel) ?_ ?_
    · refine V_sub (vs' := [none, none, none]) (show vless _ _ from trivial) rfl ?_
      exact hJ23 ()
    · refine V_iconst (pc := 19) dX4_isSecret_19 ic_1 ?_
      refine V_goto (pc := 20) (tgt := 24) dX4_isSecret_20 (by decide +kernel) ?_
      refine V_sub (vs' := [none, none, none]) (show vless _ _ from trivial) rfl ?_
      exact hJ24 (1 : Int32)
def f_X4_leaveFootprint (h0 : Nat) (p1 : Int32) (p2 : Int32) (p3 : Int32) (σ : MS) : Option (Int32 × MS) := (if inb p1 8 then (if inb p1 8 then ltM (mu σ (h0 + 3) (ix p1) (mnI (99 : Int32) ((σ (h0 + 3) (ix p1)) + p3))) (fun s18 => (if inb p2 8 then (if inb p2 8 then ltM (mu s18 (h0 + 3) (ix p2) (mnI (99 : Int32) ((s18 (h0 + 3) (ix p2)) + p3))) (fun s37 => (if inb p1 8 then (if inb (remI (s37 h0 7) (60 : Int32)) 60 then ltM (mu s37 (h0 + 8) (ix (remI (s37 h0 7) (60 : Int32))) ((((shlI (s37 h0 5) (9 : Int32)) ||| (shlI p1 (6 : Int32))) ||| (shlI p2 (3 : Int32))) ||| (s37 (h0 + 1) (ix p1)))) (fun s72 => (ltM (mu s72 h0 7 ((s72 h0 7) + (1 : Int32))) (fun s80 => some (0, s80)))) else none) else none)) else none) else none)) else none) else none)
set_option maxRecDepth 20000 in
set_option maxHeartbeats 2000000 in
theorem c_X4_leaveFootprint (w : TG) (h0 : Nat) (p1 : Int32) (p2 : Int32) (p3 : Int32) (k_h0 : kd h0 = 4) (σ : MS) : MC m_X4_leaveFootprint w [.ref (wB w + h0), .int p1, .int p2, .int p3] σ (f_X4_leaveFootprint h0 p1 p2 p3 σ) := by
  refine V_meth (by decide +kernel) (Nat.le_of_ble_eq_true rfl) (by intro v hv; simp only [List.mem_cons, List.not_mem_nil, or_false] at hv; rcases hv with rfl | rfl | rfl | rfl <;> rfl) (fun g x => ?_)
  show VV m_X4_leaveFootprint w g 0 0 (QM m_X4_leaveFootprint w g x) (fun b : Int32 × MS => b = x) 0 [some (.ref (wB w + h0)), some (.int p1), some (.int p2), some (.int p3)] [] σ (f_X4_leaveFootprint h0 p1 p2 p3 σ)
  refine V_aload_n (pc := 0) dX4_leaveFootprint_0 rfl rfl ?_
  refine V_getr (pc := 1) (t := (h0 + 3)) fk_X4_28 rfl dX4_leaveFootprint_1 k_h0 (rf_4_10 _) ?_
  refine V_iload_n (pc := 4) dX4_leaveFootprint_4 rfl rfl ?_
  refine V_bipush (pc := 5) dX4_leaveFootprint_5 bp_99 ?_
  refine V_aload_n (pc := 7) dX4_leaveFootprint_7 rfl rfl ?_
  refine V_getr (pc := 8) (t := (h0 + 3)) fk_X4_28 rfl dX4_leaveFootprint_8 k_h0 (rf_4_10 _) ?_
  refine V_iload_n (pc := 11) dX4_leaveFootprint_11 rfl rfl ?_
  refine V_iald (pc := 12) (n := 8) dX4_leaveFootprint_12 (hA3 k_h0).1 (hA3 k_h0).2 ?_
  refine V_iload_n (pc := 13) dX4_leaveFootprint_13 rfl rfl ?_
  refine V_iadd (pc := 14) dX4_leaveFootprint_14 ?_
  refine V_mmin (pc := 15) dX4_leaveFootprint_15 rfl mw_X4_84 (Nat.le_of_ble_eq_true rfl) (Nat.le_of_ble_eq_true rfl) (Nat.le_of_ble_eq_true rfl) (Nat.le_of_ble_eq_true rfl) ?_
  refine V_iast (pc := 18) (n := 8) dX4_leaveFootprint_18 (hA3 k_h0).1 (hA3 k_h0).2 (fun s18 => ?_)
  refine V_aload_n (pc := 19) dX4_leaveFootprint_19 rfl rfl ?_
  refine V_getr (pc := 20) (t := (h0 + 3)) fk_X4_28 rfl dX4_leaveFootprint_20 k_h0 (rf_4_10 _) ?_
  refine V_iload_n (pc := 23) dX4_leaveFootprint_23 rfl rfl ?_
  refine V_bipush (pc := 24) dX4_leaveFootprint_24 bp_99 ?_
  refine V_aload_n (pc := 26) dX4_leaveFootprint_26 rfl rfl ?_
  refine V_getr (pc := 27) (t := (h0 + 3)) fk_X4_28 rfl dX4_leaveFootprint_27 k_h0 (rf_4_10 _) ?_
  refine V_iload_n (pc := 30) dX4_leaveFootprint_30 rfl rfl ?_
  refine V_iald (pc := 31) (n := 8) dX4_leaveFootprint_31 (hA3 k_h0).1 (hA3 k_h0).2 ?_
  refine V_iload_n (pc := 32) dX4_leaveFootprint_32 rfl rfl ?_
  refine V_iadd (pc := 33) dX4_leaveFootprint_33 ?_
  refine V_mmin (pc := 34) dX4_leaveFootprint_34 rfl mw_X4_84 (Nat.le_of_ble_eq_true rfl) (Nat.le_of_ble_eq_true rfl) (Nat.le_of_ble_eq_true rfl) (Nat.le_of_ble_eq_true rfl) ?_
  refine V_iast (pc := 37) (n := 8) dX4_leaveFootprint_37 (hA3 k_h0).1 (hA3 k_h0).2 (fun s37 => ?_)
  refine V_aload_n (pc := 38) dX4_leaveFootprint_38 rfl rfl ?_
  refine V_getr (pc := 39) (t := (h0 + 8)) fk_X4_43 rfl dX4_leaveFootprint_39 k_h0 (rf_4_15 _) ?_
  refine V_aload_n (pc := 42) dX4_leaveFootprint_42 rfl rfl ?_
  refine V_geti (pc := 43) fk_X4_58 rfl dX4_leaveFootprint_43 k_h0 (rf_4_7 _) ?_
  refine V_bipush (pc := 46) dX4_leaveFootprint_46 bp_60 ?_
  refine V_irem (pc := 48) dX4_leaveFootprint_48 (by decide +kernel) ?_
  refine V_aload_n (pc := 49) dX4_leaveFootprint_49 rfl rfl ?_
  refine V_geti (pc := 50) fk_X4_55 rfl dX4_leaveFootprint_50 k_h0 (rf_4_5 _) ?_
  refine V_bipush (pc := 53) dX4_leaveFootprint_53 bp_9 ?_
  refine V_ishl (pc := 55) dX4_leaveFootprint_55 ?_
  refine V_iload_n (pc := 56) dX4_leaveFootprint_56 rfl rfl ?_
  refine V_bipush (pc := 57) dX4_leaveFootprint_57 bp_6 ?_
  refine V_ishl (pc := 59) dX4_leaveFootprint_59 ?_
  refine V_ior (pc := 60) dX4_leaveFootprint_60 ?_
  refine V_iload_n (pc := 61) dX4_leaveFootprint_61 rfl rfl ?_
  refine V_iconst (pc := 62) dX4_leaveFootprint_62 ic_3 ?_
  refine V_ishl (pc := 63) dX4_leaveFootprint_63 ?_
  refine V_ior (pc := 64) dX4_leaveFootprint_64 ?_
  refine V_aload_n (pc := 65) dX4_leaveFootprint_65 rfl rfl ?_
  refine V_getr (pc := 66) (t := (h0 + 1)) fk_X4_21 rfl dX4_leaveFootprint_66 k_h0 (rf_4_8 _) ?_
  refine V_iload_n (pc := 69) dX4_leaveFootprint_69 rfl rfl ?_
  refine V_iald (pc := 70) (n := 8) dX4_leaveFootprint_70 (hA1 k_h0).1 (hA1 k_h0).2 ?_
  refine V_ior (pc := 71) dX4_leaveFootprint_71 ?_
  refine V_iast (pc := 72) (n := 60) dX4_leaveFootprint_72 (hA8 k_h0).1 (hA8 k_h0).2 (fun s72 => ?_)
  refine V_aload_n (pc := 73) dX4_leaveFootprint_73 rfl rfl ?_
  refine V_dup (pc := 74) dX4_leaveFootprint_74 rfl ?_
  refine V_geti (pc := 75) fk_X4_58 rfl dX4_leaveFootprint_75 k_h0 (rf_4_7 _) ?_
  refine V_iconst (pc := 78) dX4_leaveFootprint_78 ic_1 ?_
  refine V_iadd (pc := 79) dX4_leaveFootprint_79 ?_
  refine V_puti (pc := 80) fp_X4_58 rfl dX4_leaveFootprint_80 k_h0 (rf_4_7 _) (fun s80 => ?_)
  exact V_ret (pc := 83) dX4_leaveFootprint_83 rfl (hk := fun h => h)
def f_J6_lowestOneBit_0f7a4 (p0 : Int32) (σ : MS) : Option (Int32) := some (p0 &&& (-p0))
set_option maxRecDepth 20000 in
set_option maxHeartbeats 2000000 in
theorem c_J6_lowestOneBit_0f7a4 (w : TG) (p0 : Int32) (σ : MS) : MC m_J6_lowestOneBit_0f7a4 w [.int p0] σ ((f_J6_lowestOneBit_0f7a4 p0 σ).map (fun r => (r, σ))) := by
  refine V_methp (by decide +kernel) (Nat.le_of_ble_eq_true rfl) (by intro v hv; simp only [List.mem_cons, List.not_mem_nil, or_false] at hv; subst hv; rfl) (fun g x => ?_)
  show VV m_J6_lowestOneBit_0f7a4 w g 0 0 (QM m_J6_lowestOneBit_0f7a4 w g x) (fun b : Int32 => (b, σ) = x) 0 [some (.int p0)] [] σ (f_J6_lowestOneBit_0f7a4 p0 σ)
  refine V_iload_n (pc := 0) dJ6_lowestOneBit_0f7a4_0 rfl rfl ?_
  refine V_iload_n (pc := 1) dJ6_lowestOneBit_0f7a4_1 rfl rfl ?_
  refine V_ineg (pc := 2) dJ6_lowestOneBit_0f7a4_2 ?_
  refine V_iand (pc := 3) dJ6_lowestOneBit_0f7a4_3 ?_
  exact V_ireti (pc := 4) dJ6_lowestOneBit_0f7a4_4 rfl (hk := fun h => h)
def J_X4_strongest_21 (n : Nat) (h0 : Nat) (t0 : Int32) (σ : MS) : Option (Int32) := some t0
def f_X4_strongest (n : Nat) (h0 : Nat) (p1 : Int32) (σ : MS) : Option (Int32) := ((f_X4_closest n h0 p1 σ).bind (fun q2 => (if q2 = (-1 : Int32) then J_X4_strongest_21 n h0 (0 : Int32) σ else ((f_X4_held h0 p1 q2 σ).bind (fun q18 => J_X4_strongest_21 n h0 q18 σ)))))
set_option maxRecDepth 20000 in
set_option maxHeartbeats 2000000 in
theorem c_X4_strongest (w : TG) (n : Nat) (h0 : Nat) (p1 : Int32) (k_h0 : kd h0 = 4) (σ : MS) : MC m_X4_strongest w [.ref (wB w + h0), .int p1] σ ((f_X4_strongest n h0 p1 σ).map (fun r => (r, σ))) := by
  refine V_methp (by decide +kernel) (Nat.le_of_ble_eq_true rfl) (by intro v hv; simp only [List.mem_cons, List.not_mem_nil, or_false] at hv; rcases hv with rfl | rfl <;> rfl) (fun g x => ?_)
  show VV m_X4_strongest w g 0 0 (QM m_X4_strongest w g x) (fun b : Int32 => (b, σ) = x) 0 [some (.ref (wB w + h0)), some (.int p1), none] [] σ (f_X4_strongest n h0 p1 σ)
  have hJ21 : ∀ (t0 : Int32), VV m_X4_strongest w g 0 0 (QM m_X4_strongest w g x) (fun b : Int32 => (b, σ) = x) 21 [none, none, none] [.int t0] σ (J_X4_strongest_21 n h0 t0 σ) := by
    intro t0
    exact V_ireti (pc := 21) dX4_strongest_21 rfl (hk := fun h => h)
  refine V_aload_n (pc := 0) dX4_strongest_0 rfl rfl ?_
  refine V_iload_n (pc := 1) dX4_strongest_1 rfl rfl ?_
  refine V_callVpi (pc := 2) (As := [.int p1]) (rest := []) (c_X4_closest w n h0 p1 k_h0 σ) cw_X4_79 rfl rfl dX4_strongest_2 k_h0 ci_4 ⟨Nat.le_of_ble_eq_true rfl, Nat.le_of_ble_eq_true rfl⟩ rfl rfl (Nat.le_of_ble_eq_true rfl) (Nat.le_of_ble_eq_true rfl) (Nat.le_of_ble_eq_true rfl) rfl (fun q2 => ?_)
  refine V_istore_n (pc := 5) (vs' := [some (.ref (wB w + h0)), some (.int p1), some (.int q2)]) dX4_strongest_5 rfl (Nat.le_of_ble_eq_true rfl) (Nat.le_of_ble_eq_true rfl) rfl ?_
  refine V_iload_n (pc := 6) dX4_strongest_6 rfl rfl ?_
  refine V_iconst (pc := 7) dX4_strongest_7 ic_m1 ?_
  refine V_icmp_ne (pc := 8) (tgt := 15) dX4_strongest_8 (by decide +kernel) ?_ ?_
  · refine V_aload_n (pc := 15) dX4_strongest_15 rfl rfl ?_
    refine V_iload_n (pc := 16) dX4_strongest_16 rfl rfl ?_
    refine V_iload_n (pc := 17) dX4_strongest_17 rfl rfl ?_
    refine V_callVpi (pc := 18) (As := [.int p1, .int q2]) (rest := []) (c_X4_held w h0 p1 q2 k_h0 σ) cw_X4_75 rfl rfl dX4_strongest_18 k_h0 ci_4 ⟨Nat.le_of_ble_eq_true rfl, Nat.le_of_ble_eq_true rfl⟩ rfl rfl (Nat.le_of_ble_eq_true rfl) (Nat.le_of_ble_eq_true rfl) (Nat.le_of_ble_eq_true rfl) rfl (fun q18 => ?_)
    refine V_sub (vs' := [none, none, none]) (show vless _ _ from trivial) rfl ?_
    exact hJ21 q18
  · refine V_iconst (pc := 11) dX4_strongest_11 ic_0 ?_
    refine V_goto (pc := 12) (tgt := 21) dX4_strongest_12 (by decide +kernel) ?_
    refine V_sub (vs' := [none, none, none]) (show vless _ _ from trivial) rfl ?_
    exact hJ21 (0 : Int32)
def L_X4_allSuspicion_4 (n : Nat) (h0 : Nat) (σ : MS) (a4 : Int32 × Int32) : Option ((Int32 × Int32) ⊕ (Int32)) := (if (σ h0 0) ≤ a4.2 then (some a4.1).map Sum.inr else (if inb a4.2 8 then some (.inl ((a4.1 + (σ (h0 + 3) (ix a4.2))), (a4.2 + (1 : Int32)))) else none))
def f_X4_allSuspicion (n : Nat) (h0 : Nat) (σ : MS) : Option (Int32) := itr (L_X4_allSuspicion_4 n h0 σ) n ((0 : Int32), (0 : Int32))
set_option maxRecDepth 20000 in
set_option maxHeartbeats 2000000 in
theorem c_X4_allSuspicion (w : TG) (n : Nat) (h0 : Nat) (k_h0 : kd h0 = 4) (σ : MS) : MC m_X4_allSuspicion w [.ref (wB w + h0)] σ ((f_X4_allSuspicion n h0 σ).map (fun r => (r, σ))) := by
  refine V_methp (by decide +kernel) (Nat.le_of_ble_eq_true rfl) (by intro v hv; simp only [List.mem_cons, List.not_mem_nil, or_false] at hv; subst hv; rfl) (fun g x => ?_)
  show VV m_X4_allSuspicion w g 0 0 (QM m_X4_allSuspicion w g x) (fun b : Int32 => (b, σ) = x) 0 [some (.ref (wB w + h0)), none, none] [] σ (f_X4_allSuspicion n h0 σ)
  have hL4 : ∀  (n0 : Nat) (a : Int32 × Int32), VV m_X4_allSuspicion w g 0 0 (QM m_X4_allSuspicion w g x) (fun b : Int32 => (b, σ) = x) 4 [some (.ref (wB w + h0)), some (.int a.1), some (.int a.2)] [] σ (itr (L_X4_allSuspicion_4 n h0 σ) n0 a) := by
    refine V_itr (vf := fun a : Int32 × Int32 => [some (.ref (wB w + h0)), some (.int a.1), some (.int a.2)]) (sf := fun a : Int32 × Int32 => σ) (fun κ4 b4 r4 a4 => ?_)
    obtain ⟨a4_1, a4_2⟩ := a4
    show VV m_X4_allSuspicion w g 0 0 (QM m_X4_allSuspicion w g x) κ4 4 [some (.ref (wB w + h0)), some (.int a4_1), some (.int a4_2)] [] σ (L_X4_allSuspicion_4 n h0 σ (a4_1, a4_2))
    refine V_iload_n (pc := 4) dX4_allSuspicion_4 rfl rfl ?_
    refine V_aload_n (pc := 5) dX4_allSuspicion_5 rfl rfl ?_
    refine V_geti (pc := 6) fk_X4_46 rfl dX4_allSuspicion_6 k_h0 (rf_4_0 _) ?_
    refine V_icmp_ge (pc := 9) (tgt := 27) dX4_allSuspicion_9 (by decide +kernel) ?_ ?_
    · refine V_exit r4 ?_
      refine V_iload_n (pc := 27) dX4_allSuspicion_27 rfl rfl ?_
      exact V_ireti (pc := 28) dX4_allSuspicion_28 rfl (hk := fun h => h)
    · refine V_iload_n (pc := 12) dX4_allSuspicion_12 rfl rfl ?_
      refine V_aload_n (pc := 13) dX4_allSuspicion_13 rfl rfl ?_
      refine V_getr (pc := 14) (t := (h0 + 3)) fk_X4_28 rfl dX4_allSuspicion_14 k_h0 (rf_4_10 _) ?_
      refine V_iload_n (pc := 17) dX4_allSuspicion_17 rfl rfl ?_
      refine V_iald (pc := 18) (n := 8) dX4_allSuspicion_18 (hA3 k_h0).1 (hA3 k_h0).2 ?_
      refine V_iadd (pc := 19) dX4_allSuspicion_19 ?_
      refine V_istore_n (pc := 20) (vs' := [some (.ref (wB w + h0)), some (.int (a4_1 + (σ (h0 + 3) (ix a4_2)))), some (.int a4_2)]) dX4_allSuspicion_20 rfl (Nat.le_of_ble_eq_true rfl) (Nat.le_of_ble_eq_true rfl) rfl ?_
      refine V_iincC (pc := 21) (vs' := [some (.ref (wB w + h0)), some (.int (a4_1 + (σ (h0 + 3) (ix a4_2)))), some (.int (a4_2 + (1 : Int32)))]) dX4_allSuspicion_21 (Nat.le_of_ble_eq_true rfl) rfl ic_1 rfl ?_
      refine V_goto (pc := 24) (tgt := 4) dX4_allSuspicion_24 (by decide +kernel) ?_
      exact V_back (b4 ((a4_1 + (σ (h0 + 3) (ix a4_2))), (a4_2 + (1 : Int32))))
  refine V_iconst (pc := 0) dX4_allSuspicion_0 ic_0 ?_
  refine V_istore_n (pc := 1) (vs' := [some (.ref (wB w + h0)), some (.int (0 : Int32)), none]) dX4_allSuspicion_1 rfl (Nat.le_of_ble_eq_true rfl) (Nat.le_of_ble_eq_true rfl) rfl ?_
  refine V_iconst (pc := 2) dX4_allSuspicion_2 ic_0 ?_
  refine V_istore_n (pc := 3) (vs' := [some (.ref (wB w + h0)), some (.int (0 : Int32)), some (.int (0 : Int32))]) dX4_allSuspicion_3 rfl (Nat.le_of_ble_eq_true rfl) (Nat.le_of_ble_eq_true rfl) rfl ?_
  exact hL4 n ((0 : Int32), (0 : Int32))
def f_X4_rows (h0 : Nat) (σ : MS) : Option (Int32) := some (mnI (σ h0 7) (60 : Int32))
set_option maxRecDepth 20000 in
set_option maxHeartbeats 2000000 in
theorem c_X4_rows (w : TG) (h0 : Nat) (k_h0 : kd h0 = 4) (σ : MS) : MC m_X4_rows w [.ref (wB w + h0)] σ ((f_X4_rows h0 σ).map (fun r => (r, σ))) := by
  refine V_methp (by decide +kernel) (Nat.le_of_ble_eq_true rfl) (by intro v hv; simp only [List.mem_cons, List.not_mem_nil, or_false] at hv; subst hv; rfl) (fun g x => ?_)
  show VV m_X4_rows w g 0 0 (QM m_X4_rows w g x) (fun b : Int32 => (b, σ) = x) 0 [some (.ref (wB w + h0))] [] σ (f_X4_rows h0 σ)
  refine V_aload_n (pc := 0) dX4_rows_0 rfl rfl ?_
  refine V_geti (pc := 1) fk_X4_58 rfl dX4_rows_1 k_h0 (rf_4_7 _) ?_
  refine V_bipush (pc := 4) dX4_rows_4 bp_60 ?_
  refine V_mmin (pc := 6) dX4_rows_6 rfl mw_X4_84 (Nat.le_of_ble_eq_true rfl) (Nat.le_of_ble_eq_true rfl) (Nat.le_of_ble_eq_true rfl) (Nat.le_of_ble_eq_true rfl) ?_
  exact V_ireti (pc := 9) dX4_rows_9 rfl (hk := fun h => h)
def f_X4_rowOf (h0 : Nat) (p1 : Int32) (σ : MS) : Option (Int32) := (if inb (remI (((σ h0 7) - (1 : Int32)) - p1) (60 : Int32)) 60 then some (σ (h0 + 8) (ix (remI (((σ h0 7) - (1 : Int32)) - p1) (60 : Int32)))) else none)
set_option maxRecDepth 20000 in
set_option maxHeartbeats 2000000 in
theorem c_X4_rowOf (w : TG) (h0 : Nat) (p1 : Int32) (k_h0 : kd h0 = 4) (σ : MS) : MC m_X4_rowOf w [.ref (wB w + h0), .int p1] σ ((f_X4_rowOf h0 p1 σ).map (fun r => (r, σ))) := by
  refine V_methp (by decide +kernel) (Nat.le_of_ble_eq_true rfl) (by intro v hv; simp only [List.mem_cons, List.not_mem_nil, or_false] at hv; rcases hv with rfl | rfl <;> rfl) (fun g x => ?_)
  show VV m_X4_rowOf w g 0 0 (QM m_X4_rowOf w g x) (fun b : Int32 => (b, σ) = x) 0 [some (.ref (wB w + h0)), some (.int p1)] [] σ (f_X4_rowOf h0 p1 σ)
  refine V_aload_n (pc := 0) dX4_rowOf_0 rfl rfl ?_
  refine V_getr (pc := 1) (t := (h0 + 8)) fk_X4_43 rfl dX4_rowOf_1 k_h0 (rf_4_15 _) ?_
  refine V_aload_n (pc := 4) dX4_rowOf_4 rfl rfl ?_
  refine V_geti (pc := 5) fk_X4_58 rfl dX4_rowOf_5 k_h0 (rf_4_7 _) ?_
  refine V_iconst (pc := 8) dX4_rowOf_8 ic_1 ?_
  refine V_isub (pc := 9) dX4_rowOf_9 ?_
  refine V_iload_n (pc := 10) dX4_rowOf_10 rfl rfl ?_
  refine V_isub (pc := 11) dX4_rowOf_11 ?_
  refine V_bipush (pc := 12) dX4_rowOf_12 bp_60 ?_
  refine V_irem (pc := 14) dX4_rowOf_14 (by decide +kernel) ?_
  refine V_iald (pc := 15) (n := 60) dX4_rowOf_15 (hA8 k_h0).1 (hA8 k_h0).2 ?_
  exact V_ireti (pc := 16) dX4_rowOf_16 rfl (hk := fun h => h)
def J_X4_rowPart_22 (t0 : Int32) (σ : MS) : Option (Int32) := some t0
def f_X4_rowPart (p0 : Int32) (p1 : Int32) (σ : MS) : Option (Int32) := (if p1 = 0 then J_X4_rowPart_22 (ushI p0 (9 : Int32)) σ else J_X4_rowPart_22 ((ushI p0 ((9 : Int32) - ((3 : Int32) * p1))) &&& (7 : Int32)) σ)
set_option maxRecDepth 20000 in
set_option maxHeartbeats 2000000 in
theorem c_X4_rowPart (w : TG) (p0 : Int32) (p1 : Int32) (σ : MS) : MC m_X4_rowPart w [.int p0, .int p1] σ ((f_X4_rowPart p0 p1 σ).map (fun r => (r, σ))) := by
  refine V_methp (by decide +kernel) (Nat.le_of_ble_eq_true rfl) (by intro v hv; simp only [List.mem_cons, List.not_mem_nil, or_false] at hv; rcases hv with rfl | rfl <;> rfl) (fun g x => ?_)
  show VV m_X4_rowPart w g 0 0 (QM m_X4_rowPart w g x) (fun b : Int32 => (b, σ) = x) 0 [some (.int p0), some (.int p1)] [] σ (f_X4_rowPart p0 p1 σ)
  have hJ22 : ∀ (t0 : Int32), VV m_X4_rowPart w g 0 0 (QM m_X4_rowPart w g x) (fun b : Int32 => (b, σ) = x) 22 [none, none] [.int t0] σ (J_X4_rowPart_22 t0 σ) := by
    intro t0
    exact V_ireti (pc := 22) dX4_rowPart_22 rfl (hk := fun h => h)
  refine V_iload_n (pc := 0) dX4_rowPart_0 rfl rfl ?_
  refine V_if_ne (pc := 1) (tgt := 11) dX4_rowPart_1 (by decide +kernel) ?_ ?_
  · refine V_iload_n (pc := 11) dX4_rowPart_11 rfl rfl ?_
    refine V_bipush (pc := 12) dX4_rowPart_12 bp_9 ?_
    refine V_iconst (pc := 14) dX4_rowPart_14 ic_3 ?_
    refine V_iload_n (pc := 15) dX4_rowPart_15 rfl rfl ?_
    refine V_imul (pc := 16) dX4_rowPart_16 ?_
    refine V_isub (pc := 17) dX4_rowPart_17 ?_
    refine V_iushr (pc := 18) dX4_rowPart_18 ?_
    refine V_bipush (pc := 19) dX4_rowPart_19 bp_7 ?_
    refine V_iand (pc := 21) dX4_rowPart_21 ?_
    refine V_sub (vs' := [none, none]) (show vless _ _ from trivial) rfl ?_
    exact hJ22 ((ushI p0 ((9 : Int32) - ((3 : Int32) * p1))) &&& (7 : Int32))
  · refine V_iload_n (pc := 4) dX4_rowPart_4 rfl rfl ?_
    refine V_bipush (pc := 5) dX4_rowPart_5 bp_9 ?_
    refine V_iushr (pc := 7) dX4_rowPart_7 ?_
    refine V_goto (pc := 8) (tgt := 22) dX4_rowPart_8 (by decide +kernel) ?_
    refine V_sub (vs' := [none, none]) (show vless _ _ from trivial) rfl ?_
    exact hJ22 (ushI p0 (9 : Int32))
def J_X4_rowHas_23 (t0 : Int32) (σ : MS) : Option (Int32) := (if t0 = 0 ∨ t0 = 1 then some t0 else none)
def J_X4_rowHas_18  (σ : MS) : Option (Int32) := J_X4_rowHas_23 (1 : Int32) σ
def f_X4_rowHas (p0 : Int32) (p1 : Int32) (σ : MS) : Option (Int32) := ((f_X4_rowPart p0 (1 : Int32) σ).bind (fun q2 => (if q2 = p1 then J_X4_rowHas_18  σ else ((f_X4_rowPart p0 (2 : Int32) σ).bind (fun q11 => (if q11 = p1 then J_X4_rowHas_18  σ else J_X4_rowHas_23 (0 : Int32) σ))))))
set_option maxRecDepth 20000 in
set_option maxHeartbeats 2000000 in
theorem c_X4_rowHas (w : TG) (p0 : Int32) (p1 : Int32) (σ : MS) : MC m_X4_rowHas w [.int p0, .int p1] σ ((f_X4_rowHas p0 p1 σ).map (fun r => (r, σ))) := by
  refine V_methp (by decide +kernel) (Nat.le_of_ble_eq_true rfl) (by intro v hv; simp only [List.mem_cons, List.not_mem_nil, or_false] at hv; rcases hv with rfl | rfl <;> rfl) (fun g x => ?_)
  show VV m_X4_rowHas w g 0 0 (QM m_X4_rowHas w g x) (fun b : Int32 => (b, σ) = x) 0 [some (.int p0), some (.int p1)] [] σ (f_X4_rowHas p0 p1 σ)
  have hJ23 : ∀ (t0 : Int32), VV m_X4_rowHas w g 0 0 (QM m_X4_rowHas w g x) (fun b : Int32 => (b, σ) = x) 23 [none, none] [.int t0] σ (J_X4_rowHas_23 t0 σ) := by
    intro t0
    exact V_iretZ (pc := 23) dX4_rowHas_23 rfl (hk := fun h => h)
  have hJ18 : ∀ (_ : Unit), VV m_X4_rowHas w g 0 0 (QM m_X4_rowHas w g x) (fun b : Int32 => (b, σ) = x) 18 [none, none] [] σ (J_X4_rowHas_18  σ) := by
    intro _
    refine V_iconst (pc := 18) dX4_rowHas_18 ic_1 ?_
    refine V_goto (pc := 19) (tgt := 23) dX4_rowHas_19 (by decide +kernel) ?_
    exact hJ23 (1 : Int32)
  refine V_iload_n (pc := 0) dX4_rowHas_0 rfl rfl ?_
  refine V_iconst (pc := 1) dX4_rowHas_1 ic_1 ?_
  refine V_callSpi (pc := 2) (As := [.int p0, .int (1 : Int32)]) (rest := []) (c_X4_rowPart w p0 (1 : Int32) σ) cs_X4_89 rfl rfl dX4_rowHas_2 ⟨Nat.le_of_ble_eq_true rfl, Nat.le_of_ble_eq_true rfl⟩ rfl rfl (Nat.le_of_ble_eq_true rfl) (Nat.le_of_ble_eq_true rfl) (Nat.le_of_ble_eq_true rfl) rfl (fun q2 => ?_)
  refine V_iload_n (pc := 5) dX4_rowHas_5 rfl rfl ?_
  refine V_icmp_eq (pc := 6) (tgt := 18) dX4_rowHas_6 (by decide +kernel) ?_ ?_
  · refine V_sub (vs' := [none, none]) (show vless _ _ from trivial) rfl ?_
    exact hJ18 ()
  · refine V_iload_n (pc := 9) dX4_rowHas_9 rfl rfl ?_
    refine V_iconst (pc := 10) dX4_rowHas_10 ic_2 ?_
    refine V_callSpi (pc := 11) (As := [.int p0, .int (2 : Int32)]) (rest := []) (c_X4_rowPart w p0 (2 : Int32) σ) cs_X4_89 rfl rfl dX4_rowHas_11 ⟨Nat.le_of_ble_eq_true rfl, Nat.le_of_ble_eq_true rfl⟩ rfl rfl (Nat.le_of_ble_eq_true rfl) (Nat.le_of_ble_eq_true rfl) (Nat.le_of_ble_eq_true rfl) rfl (fun q11 => ?_)
    refine V_iload_n (pc := 14) dX4_rowHas_14 rfl rfl ?_
    refine V_icmp_ne (pc := 15) (tgt := 22) dX4_rowHas_15 (by decide +kernel) ?_ ?_
    · refine V_iconst (pc := 22) dX4_rowHas_22 ic_0 ?_
      refine V_sub (vs' := [none, none]) (show vless _ _ from trivial) rfl ?_
      exact hJ23 (0 : Int32)
    · refine V_sub (vs' := [none, none]) (show vless _ _ from trivial) rfl ?_
      exact hJ18 ()
def J_X4_couples_25 (n : Nat) (h0 : Nat) (v1 : Int32) (v2 : Int32) (σ : MS) : Option ((Int32 × Int32) ⊕ (Int32)) := some (.inl (v1, (v2 + (1 : Int32))))
def L_X4_couples_4 (n : Nat) (h0 : Nat) (σ : MS) (a4 : Int32 × Int32) : Option ((Int32 × Int32) ⊕ (Int32)) := (if (σ h0 0) ≤ a4.2 then (some a4.1).map Sum.inr else (if inb a4.2 8 then (if (σ (h0 + 2) (ix a4.2)) ≤ a4.2 then J_X4_couples_25 n h0 a4.1 a4.2 σ else J_X4_couples_25 n h0 (a4.1 + (1 : Int32)) a4.2 σ) else none))
def f_X4_couples (n : Nat) (h0 : Nat) (σ : MS) : Option (Int32) := itr (L_X4_couples_4 n h0 σ) n ((0 : Int32), (0 : Int32))
set_option maxRecDepth 20000 in
set_option maxHeartbeats 2000000 in
theorem c_X4_couples (w : TG) (n : Nat) (h0 : Nat) (k_h0 : kd h0 = 4) (σ : MS) : MC m_X4_couples w [.ref (wB w + h0)] σ ((f_X4_couples n h0 σ).map (fun r => (r, σ))) := by
  refine V_methp (by decide +kernel) (Nat.le_of_ble_eq_true rfl) (by intro v hv; simp only [List.mem_cons, List.not_mem_nil, or_false] at hv; subst hv; rfl) (fun g x => ?_)
  show VV m_X4_couples w g 0 0 (QM m_X4_couples w g x) (fun b : Int32 => (b, σ) = x) 0 [some (.ref (wB w + h0)), none, none] [] σ (f_X4_couples n h0 σ)
  have hL4 : ∀  (n0 : Nat) (a : Int32 × Int32), VV m_X4_couples w g 0 0 (QM m_X4_couples w g x) (fun b : Int32 => (b, σ) = x) 4 [some (.ref (wB w + h0)), some (.int a.1), some (.int a.2)] [] σ (itr (L_X4_couples_4 n h0 σ) n0 a) := by
    refine V_itr (vf := fun a : Int32 × Int32 => [some (.ref (wB w + h0)), some (.int a.1), some (.int a.2)]) (sf := fun a : Int32 × Int32 => σ) (fun κ4 b4 r4 a4 => ?_)
    obtain ⟨a4_1, a4_2⟩ := a4
    show VV m_X4_couples w g 0 0 (QM m_X4_couples w g x) κ4 4 [some (.ref (wB w + h0)), some (.int a4_1), some (.int a4_2)] [] σ (L_X4_couples_4 n h0 σ (a4_1, a4_2))
    have hJ25 : ∀ (v1 : Int32) (v2 : Int32), VV m_X4_couples w g 0 0 (QM m_X4_couples w g x) κ4 25 [some (.ref (wB w + h0)), some (.int v1), some (.int v2)] [] σ (J_X4_couples_25 n h0 v1 v2 σ) := by
      intro v1 v2
      refine V_iincC (pc := 25) (vs' := [some (.ref (wB w + h0)), some (.int v1), some (.int (v2 + (1 : Int32)))]) dX4_couples_25 (Nat.le_of_ble_eq_true rfl) rfl ic_1 rfl ?_
      refine V_goto (pc := 28) (tgt := 4) dX4_couples_28 (by decide +kernel) ?_
      exact V_back (b4 (v1, (v2 + (1 : Int32))))
    refine V_iload_n (pc := 4) dX4_couples_4 rfl rfl ?_
    refine V_aload_n (pc := 5) dX4_couples_5 rfl rfl ?_
    refine V_geti (pc := 6) fk_X4_46 rfl dX4_couples_6 k_h0 (rf_4_0 _) ?_
    refine V_icmp_ge (pc := 9) (tgt := 31) dX4_couples_9 (by decide +kernel) ?_ ?_
    · refine V_exit r4 ?_
      refine V_iload_n (pc := 31) dX4_couples_31 rfl rfl ?_
      exact V_ireti (pc := 32) dX4_couples_32 rfl (hk := fun h => h)
    · refine V_aload_n (pc := 12) dX4_couples_12 rfl rfl ?_
      refine V_getr (pc := 13) (t := (h0 + 2)) fk_X4_25 rfl dX4_couples_13 k_h0 (rf_4_9 _) ?_
      refine V_iload_n (pc := 16) dX4_couples_16 rfl rfl ?_
      refine V_iald (pc := 17) (n := 8) dX4_couples_17 (hA2 k_h0).1 (hA2 k_h0).2 ?_
      refine V_iload_n (pc := 18) dX4_couples_18 rfl rfl ?_
      refine V_icmp_le (pc := 19) (tgt := 25) dX4_couples_19 (by decide +kernel) ?_ ?_
      · exact hJ25 a4_1 a4_2
      · refine V_iincC (pc := 22) (vs' := [some (.ref (wB w + h0)), some (.int (a4_1 + (1 : Int32))), some (.int a4_2)]) dX4_couples_22 (Nat.le_of_ble_eq_true rfl) rfl ic_1 rfl ?_
        exact hJ25 (a4_1 + (1 : Int32)) a4_2
  refine V_iconst (pc := 0) dX4_couples_0 ic_0 ?_
  refine V_istore_n (pc := 1) (vs' := [some (.ref (wB w + h0)), some (.int (0 : Int32)), none]) dX4_couples_1 rfl (Nat.le_of_ble_eq_true rfl) (Nat.le_of_ble_eq_true rfl) rfl ?_
  refine V_iconst (pc := 2) dX4_couples_2 ic_0 ?_
  refine V_istore_n (pc := 3) (vs' := [some (.ref (wB w + h0)), some (.int (0 : Int32)), some (.int (0 : Int32))]) dX4_couples_3 rfl (Nat.le_of_ble_eq_true rfl) (Nat.le_of_ble_eq_true rfl) rfl ?_
  exact hL4 n ((0 : Int32), (0 : Int32))
def J_J6_numberOfTrailingZeros_0f7a4_74 (v0 : Int32) (v1 : Int32) (σ : MS) : Option (Int32) := some (v1 + (ushI v0 (1 : Int32)))
def J_J6_numberOfTrailingZeros_0f7a4_62 (v0 : Int32) (v1 : Int32) (σ : MS) : Option (Int32) := (if v0 ≤ (4 : Int32) then J_J6_numberOfTrailingZeros_0f7a4_74 v0 v1 σ else J_J6_numberOfTrailingZeros_0f7a4_74 (ushI v0 (2 : Int32)) (v1 + (2 : Int32)) σ)
def J_J6_numberOfTrailingZeros_0f7a4_49 (v0 : Int32) (v1 : Int32) (σ : MS) : Option (Int32) := (if v0 ≤ (16 : Int32) then J_J6_numberOfTrailingZeros_0f7a4_62 v0 v1 σ else J_J6_numberOfTrailingZeros_0f7a4_62 (ushI v0 (4 : Int32)) (v1 + (4 : Int32)) σ)
def J_J6_numberOfTrailingZeros_0f7a4_34 (v0 : Int32) (v1 : Int32) (σ : MS) : Option (Int32) := (if v0 ≤ (256 : Int32) then J_J6_numberOfTrailingZeros_0f7a4_49 v0 v1 σ else J_J6_numberOfTrailingZeros_0f7a4_49 (ushI v0 (8 : Int32)) (v1 + (8 : Int32)) σ)
def f_J6_numberOfTrailingZeros_0f7a4 (p0 : Int32) (σ : MS) : Option (Int32) := (if 0 < ((p0 ^^^ (-1 : Int32)) &&& (p0 - (1 : Int32))) then (if ((p0 ^^^ (-1 : Int32)) &&& (p0 - (1 : Int32))) ≤ (65536 : Int32) then J_J6_numberOfTrailingZeros_0f7a4_34 ((p0 ^^^ (-1 : Int32)) &&& (p0 - (1 : Int32))) (1 : Int32) σ else J_J6_numberOfTrailingZeros_0f7a4_34 (ushI ((p0 ^^^ (-1 : Int32)) &&& (p0 - (1 : Int32))) (16 : Int32)) ((1 : Int32) + (16 : Int32)) σ) else some (((p0 ^^^ (-1 : Int32)) &&& (p0 - (1 : Int32))) &&& (32 : Int32)))
set_option maxRecDepth 20000 in
set_option maxHeartbeats 2000000 in
theorem c_J6_numberOfTrailingZeros_0f7a4 (w : TG) (p0 : Int32) (σ : MS) : MC m_J6_numberOfTrailingZeros_0f7a4 w [.int p0] σ ((f_J6_numberOfTrailingZeros_0f7a4 p0 σ).map (fun r => (r, σ))) := by
  refine V_methp (by decide +kernel) (Nat.le_of_ble_eq_true rfl) (by intro v hv; simp only [List.mem_cons, List.not_mem_nil, or_false] at hv; subst hv; rfl) (fun g x => ?_)
  show VV m_J6_numberOfTrailingZeros_0f7a4 w g 0 0 (QM m_J6_numberOfTrailingZeros_0f7a4 w g x) (fun b : Int32 => (b, σ) = x) 0 [some (.int p0), none] [] σ (f_J6_numberOfTrailingZeros_0f7a4 p0 σ)
  have hJ74 : ∀ (v0 : Int32) (v1 : Int32), VV m_J6_numberOfTrailingZeros_0f7a4 w g 0 0 (QM m_J6_numberOfTrailingZeros_0f7a4 w g x) (fun b : Int32 => (b, σ) = x) 74 [some (.int v0), some (.int v1)] [] σ (J_J6_numberOfTrailingZeros_0f7a4_74 v0 v1 σ) := by
    intro v0 v1
    refine V_iload_n (pc := 74) dJ6_numberOfTrailingZeros_0f7a4_74 rfl rfl ?_
    refine V_iload_n (pc := 75) dJ6_numberOfTrailingZeros_0f7a4_75 rfl rfl ?_
    refine V_iconst (pc := 76) dJ6_numberOfTrailingZeros_0f7a4_76 ic_1 ?_
    refine V_iushr (pc := 77) dJ6_numberOfTrailingZeros_0f7a4_77 ?_
    refine V_iadd (pc := 78) dJ6_numberOfTrailingZeros_0f7a4_78 ?_
    exact V_ireti (pc := 79) dJ6_numberOfTrailingZeros_0f7a4_79 rfl (hk := fun h => h)
  have hJ62 : ∀ (v0 : Int32) (v1 : Int32), VV m_J6_numberOfTrailingZeros_0f7a4 w g 0 0 (QM m_J6_numberOfTrailingZeros_0f7a4 w g x) (fun b : Int32 => (b, σ) = x) 62 [some (.int v0), some (.int v1)] [] σ (J_J6_numberOfTrailingZeros_0f7a4_62 v0 v1 σ) := by
    intro v0 v1
    refine V_iload_n (pc := 62) dJ6_numberOfTrailingZeros_0f7a4_62 rfl rfl ?_
    refine V_iconst (pc := 63) dJ6_numberOfTrailingZeros_0f7a4_63 ic_4 ?_
    refine V_icmp_le (pc := 64) (tgt := 74) dJ6_numberOfTrailingZeros_0f7a4_64 (by decide +kernel) ?_ ?_
    · exact hJ74 v0 v1
    · refine V_iincC (pc := 67) (vs' := [some (.int v0), some (.int (v1 + (2 : Int32)))]) dJ6_numberOfTrailingZeros_0f7a4_67 (Nat.le_of_ble_eq_true rfl) rfl ic_2 rfl ?_
      refine V_iload_n (pc := 70) dJ6_numberOfTrailingZeros_0f7a4_70 rfl rfl ?_
      refine V_iconst (pc := 71) dJ6_numberOfTrailingZeros_0f7a4_71 ic_2 ?_
      refine V_iushr (pc := 72) dJ6_numberOfTrailingZeros_0f7a4_72 ?_
      refine V_istore_n (pc := 73) (vs' := [some (.int (ushI v0 (2 : Int32))), some (.int (v1 + (2 : Int32)))]) dJ6_numberOfTrailingZeros_0f7a4_73 rfl (Nat.le_of_ble_eq_true rfl) (Nat.le_of_ble_eq_true rfl) rfl ?_
      exact hJ74 (ushI v0 (2 : Int32)) (v1 + (2 : Int32))
  have hJ49 : ∀ (v0 : Int32) (v1 : Int32), VV m_J6_numberOfTrailingZeros_0f7a4 w g 0 0 (QM m_J6_numberOfTrailingZeros_0f7a4 w g x) (fun b : Int32 => (b, σ) = x) 49 [some (.int v0), some (.int v1)] [] σ (J_J6_numberOfTrailingZeros_0f7a4_49 v0 v1 σ) := by
    intro v0 v1
    refine V_iload_n (pc := 49) dJ6_numberOfTrailingZeros_0f7a4_49 rfl rfl ?_
    refine V_bipush (pc := 50) dJ6_numberOfTrailingZeros_0f7a4_50 bp_16 ?_
    refine V_icmp_le (pc := 52) (tgt := 62) dJ6_numberOfTrailingZeros_0f7a4_52 (by decide +kernel) ?_ ?_
    · exact hJ62 v0 v1
    · refine V_iincC (pc := 55) (vs' := [some (.int v0), some (.int (v1 + (4 : Int32)))]) dJ6_numberOfTrailingZeros_0f7a4_55 (Nat.le_of_ble_eq_true rfl) rfl ic_4 rfl ?_
      refine V_iload_n (pc := 58) dJ6_numberOfTrailingZeros_0f7a4_58 rfl rfl ?_
      refine V_iconst (pc := 59) dJ6_numberOfTrailingZeros_0f7a4_59 ic_4 ?_
      refine V_iushr (pc := 60) dJ6_numberOfTrailingZeros_0f7a4_60 ?_
      refine V_istore_n (pc := 61) (vs' := [some (.int (ushI v0 (4 : Int32))), some (.int (v1 + (4 : Int32)))]) dJ6_numberOfTrailingZeros_0f7a4_61 rfl (Nat.le_of_ble_eq_true rfl) (Nat.le_of_ble_eq_true rfl) rfl ?_
      exact hJ62 (ushI v0 (4 : Int32)) (v1 + (4 : Int32))
  have hJ34 : ∀ (v0 : Int32) (v1 : Int32), VV m_J6_numberOfTrailingZeros_0f7a4 w g 0 0 (QM m_J6_numberOfTrailingZeros_0f7a4 w g x) (fun b : Int32 => (b, σ) = x) 34 [some (.int v0), some (.int v1)] [] σ (J_J6_numberOfTrailingZeros_0f7a4_34 v0 v1 σ) := by
    intro v0 v1
    refine V_iload_n (pc := 34) dJ6_numberOfTrailingZeros_0f7a4_34 rfl rfl ?_
    refine V_sipush (pc := 35) dJ6_numberOfTrailingZeros_0f7a4_35 sp_256 ?_
    refine V_icmp_le (pc := 38) (tgt := 49) dJ6_numberOfTrailingZeros_0f7a4_38 (by decide +kernel) ?_ ?_
    · exact hJ49 v0 v1
    · refine V_iincC (pc := 41) (vs' := [some (.int v0), some (.int (v1 + (8 : Int32)))]) dJ6_numberOfTrailingZeros_0f7a4_41 (Nat.le_of_ble_eq_true rfl) rfl ic_8 rfl ?_
      refine V_iload_n (pc := 44) dJ6_numberOfTrailingZeros_0f7a4_44 rfl rfl ?_
      refine V_bipush (pc := 45) dJ6_numberOfTrailingZeros_0f7a4_45 bp_8 ?_
      refine V_iushr (pc := 47) dJ6_numberOfTrailingZeros_0f7a4_47 ?_
      refine V_istore_n (pc := 48) (vs' := [some (.int (ushI v0 (8 : Int32))), some (.int (v1 + (8 : Int32)))]) dJ6_numberOfTrailingZeros_0f7a4_48 rfl (Nat.le_of_ble_eq_true rfl) (Nat.le_of_ble_eq_true rfl) rfl ?_
      exact hJ49 (ushI v0 (8 : Int32)) (v1 + (8 : Int32))
  refine V_iload_n (pc := 0) dJ6_numberOfTrailingZeros_0f7a4_0 rfl rfl ?_
  refine V_iconst (pc := 1) dJ6_numberOfTrailingZeros_0f7a4_1 ic_m1 ?_
  refine V_ixor (pc := 2) dJ6_numberOfTrailingZeros_0f7a4_2 ?_
  refine V_iload_n (pc := 3) dJ6_numberOfTrailingZeros_0f7a4_3 rfl rfl ?_
  refine V_iconst (pc := 4) dJ6_numberOfTrailingZeros_0f7a4_4 ic_1 ?_
  refine V_isub (pc := 5) dJ6_numberOfTrailingZeros_0f7a4_5 ?_
  refine V_iand (pc := 6) dJ6_numberOfTrailingZeros_0f7a4_6 ?_
  refine V_istore_n (pc := 7) (vs' := [some (.int ((p0 ^^^ (-1 : Int32)) &&& (p0 - (1 : Int32)))), none]) dJ6_numberOfTrailingZeros_0f7a4_7 rfl (Nat.le_of_ble_eq_true rfl) (Nat.le_of_ble_eq_true rfl) rfl ?_
  refine V_iload_n (pc := 8) dJ6_numberOfTrailingZeros_0f7a4_8 rfl rfl ?_
  refine V_if_gt (pc := 9) (tgt := 17) dJ6_numberOfTrailingZeros_0f7a4_9 (by decide +kernel) ?_ ?_
  · refine V_iconst (pc := 17) dJ6_numberOfTrailingZeros_0f7a4_17 ic_1 ?_
    refine V_istore_n (pc := 18) (vs' := [some (.int ((p0 ^^^ (-1 : Int32)) &&& (p0 - (1 : Int32)))), some (.int (1 : Int32))]) dJ6_numberOfTrailingZeros_0f7a4_18 rfl (Nat.le_of_ble_eq_true rfl) (Nat.le_of_ble_eq_true rfl) rfl ?_
    refine V_iload_n (pc := 19) dJ6_numberOfTrailingZeros_0f7a4_19 rfl rfl ?_
    refine V_ldcw (pc := 20) (v := (65536 : Int32)) dJ6_numberOfTrailingZeros_0f7a4_20 rfl ld_J6_264 ?_
    refine V_icmp_le (pc := 23) (tgt := 34) dJ6_numberOfTrailingZeros_0f7a4_23 (by decide +kernel) ?_ ?_
    · exact hJ34 ((p0 ^^^ (-1 : Int32)) &&& (p0 - (1 : Int32))) (1 : Int32)
    · refine V_iincC (pc := 26) (vs' := [some (.int ((p0 ^^^ (-1 : Int32)) &&& (p0 - (1 : Int32)))), some (.int ((1 : Int32) + (16 : Int32)))]) dJ6_numberOfTrailingZeros_0f7a4_26 (Nat.le_of_ble_eq_true rfl) rfl ic_16 rfl ?_
      refine V_iload_n (pc := 29) dJ6_numberOfTrailingZeros_0f7a4_29 rfl rfl ?_
      refine V_bipush (pc := 30) dJ6_numberOfTrailingZeros_0f7a4_30 bp_16 ?_
      refine V_iushr (pc := 32) dJ6_numberOfTrailingZeros_0f7a4_32 ?_
      refine V_istore_n (pc := 33) (vs' := [some (.int (ushI ((p0 ^^^ (-1 : Int32)) &&& (p0 - (1 : Int32))) (16 : Int32))), some (.int ((1 : Int32) + (16 : Int32)))]) dJ6_numberOfTrailingZeros_0f7a4_33 rfl (Nat.le_of_ble_eq_true rfl) (Nat.le_of_ble_eq_true rfl) rfl ?_
      exact hJ34 (ushI ((p0 ^^^ (-1 : Int32)) &&& (p0 - (1 : Int32))) (16 : Int32)) ((1 : Int32) + (16 : Int32))
  · refine V_iload_n (pc := 12) dJ6_numberOfTrailingZeros_0f7a4_12 rfl rfl ?_
    refine V_bipush (pc := 13) dJ6_numberOfTrailingZeros_0f7a4_13 bp_32 ?_
    refine V_iand (pc := 15) dJ6_numberOfTrailingZeros_0f7a4_15 ?_
    exact V_ireti (pc := 16) dJ6_numberOfTrailingZeros_0f7a4_16 rfl (hk := fun h => h)
