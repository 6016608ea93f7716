def m_X12_go : MD := (yX12_go, cX12_go, 4, (some .int), 2, 43, 0, 0)
def m_X12_strew : MD := (yX12_strew, cX12_strew, 4, (some .boolean), 2, 42, 0, 0)
def m_X12_wed : MD := (yX12_wed, cX12_wed, 3, none, 3, 65, 0, 0)
def m_X12_clear : MD := (yX12_clear, cX12_clear, 3, (some .int), 2, 43, 0, 0)
def m_X12_suspects : MD := (yX12_suspects, cX12_suspects, 3, none, 4, 200, 0, 0)
def m_X12_leavesFootprints : MD := (yX12_leavesFootprints, cX12_leavesFootprints, 5, none, 7, 224, 0, 0)
def m_X12_oneDay : MD := (yX12_oneDay, cX12_oneDay, 5, (some .int), 8, 248, 0, 0)
def m_X12_days : MD := (yX12_days, cX12_days, 4, (some .int), 9, 272, 0, 0)
def m_X12_ahead : MD := (yX12_ahead, cX12_ahead, 5, (some .int), 9, 272, 0, 0)
def m_X12_calm : MD := (yX12_calm, cX12_calm, 4, (some .int), 9, 272, 0, 0)
def m_X12_isTold : MD := (yX12_isTold, cX12_isTold, 3, (some .boolean), 2, 43, 0, 0)
def m_X12_fits : MD := (yX12_fits, cX12_fits, 5, (some .boolean), 1, 20, 0, 0)
def m_X12_drank : MD := (yX12_drank, cX12_drank, 5, (some .int), 3, 65, 0, 0)
theorem wm_X12_hasFlour : wmp m_X12_hasFlour 1 := ⟨gx 2016 (by decide +kernel) (by decide +kernel), gx 112 (by decide +kernel) (by decide +kernel), gx 138 (by decide +kernel) (by decide +kernel), gx 2017 (by decide +kernel) (by decide +kernel), by decide +kernel, by decide +kernel, by decide +kernel⟩
theorem cw_X12_397 : cwp RX12 397 m_X12_hasFlour 1 := cwp_of wm_X12_hasFlour (gx 2014 (by decide +kernel) (by decide +kernel))
theorem wm_X12_suspects : wmp m_X12_suspects 2 := ⟨gx 2045 (by decide +kernel) (by decide +kernel), gx 116 (by decide +kernel) (by decide +kernel), gx 138 (by decide +kernel) (by decide +kernel), gx 2046 (by decide +kernel) (by decide +kernel), by decide +kernel, by decide +kernel, by decide +kernel⟩
theorem cw_X12_400 : cwp RX12 400 m_X12_suspects 2 := cwp_of wm_X12_suspects (gx 2043 (by decide +kernel) (by decide +kernel))
theorem wm_X12_leavesFootprints : wmp m_X12_leavesFootprints 2 := ⟨gx 2041 (by decide +kernel) (by decide +kernel), gx 115 (by decide +kernel) (by decide +kernel), gx 138 (by decide +kernel) (by decide +kernel), gx 2042 (by decide +kernel) (by decide +kernel), by decide +kernel, by decide +kernel, by decide +kernel⟩
theorem cw_X12_406 : cwp RX12 406 m_X12_leavesFootprints 2 := cwp_of wm_X12_leavesFootprints (gx 2039 (by decide +kernel) (by decide +kernel))
theorem wm_X12_drawn : wmp m_X12_drawn 1 := ⟨gx 2036 (by decide +kernel) (by decide +kernel), gx 114 (by decide +kernel) (by decide +kernel), gx 138 (by decide +kernel) (by decide +kernel), gx 2037 (by decide +kernel) (by decide +kernel), by decide +kernel, by decide +kernel, by decide +kernel⟩
theorem cw_X12_403 : cwp RX12 403 m_X12_drawn 1 := cwp_of wm_X12_drawn (gx 2034 (by decide +kernel) (by decide +kernel))
theorem wm_X12_oneDay : wmp m_X12_oneDay 1 := ⟨gx 2032 (by decide +kernel) (by decide +kernel), gx 113 (by decide +kernel) (by decide +kernel), gx 138 (by decide +kernel) (by decide +kernel), gx 2033 (by decide +kernel) (by decide +kernel), by decide +kernel, by decide +kernel, by decide +kernel⟩
theorem cw_X12_409 : cwp RX12 409 m_X12_oneDay 1 := cwp_of wm_X12_oneDay (gx 2030 (by decide +kernel) (by decide +kernel))
theorem wm_X12_fits : wmp m_X12_fits 1 := ⟨gx 2065 (by decide +kernel) (by decide +kernel), gx 118 (by decide +kernel) (by decide +kernel), gx 138 (by decide +kernel) (by decide +kernel), gx 2066 (by decide +kernel) (by decide +kernel), by decide +kernel, by decide +kernel, by decide +kernel⟩
theorem cw_X12_415 : cwp RX12 415 m_X12_fits 1 := cwp_of wm_X12_fits (gx 2063 (by decide +kernel) (by decide +kernel))
theorem wm_X12_isTold : wmp m_X12_isTold 0 := ⟨gx 2061 (by decide +kernel) (by decide +kernel), gx 117 (by decide +kernel) (by decide +kernel), gx 138 (by decide +kernel) (by decide +kernel), gx 2062 (by decide +kernel) (by decide +kernel), by decide +kernel, by decide +kernel, by decide +kernel⟩
theorem cw_X12_412 : cwp RX12 412 m_X12_isTold 0 := cwp_of wm_X12_isTold (gx 2059 (by decide +kernel) (by decide +kernel))
def J_X12_go_26 (n : Nat) (v1 : Int32) (v2 : Int32) (t0 : Int32) (σ : MS) : Option (Int32 × MS) := ((f_X12_throwsIf t0 (1 : Int32) σ).bind (fun q27 => (if q27.1 = 0 then ((f_X12_remembers n  q27.2).bind (fun q36 => ((f_X12_of v1 (0 : Int32) q36.2).bind (fun q42 => ((f_X12_at v1 (0 : Int32) q36.2).bind (fun q52 => (if inb q52 2172 then ltM (mu q36.2 172 (ix q52) v2) (fun s56 => some (q42, s56)) else none))))))) else some ((0 : Int32), q27.2))))
def J_X12_go_21 (n : Nat) (v1 : Int32) (v2 : Int32) (σ : MS) : Option (Int32 × MS) := J_X12_go_26 n v1 v2 (1 : Int32) σ
def f_X12_go (n : Nat) (p1 : Int32) (p2 : Int32) (σ : MS) : Option (Int32 × MS) := (ltM (mu σ 171 0 (0 : Int32)) (fun s2 => ((f_X12_noPerson p1 s2).bind (fun q8 => (if q8 = 0 then ((f_X12_noRoom p2 s2).bind (fun q15 => (if q15 = 0 then J_X12_go_26 n p1 p2 (0 : Int32) s2 else J_X12_go_21 n p1 p2 s2))) else J_X12_go_21 n p1 p2 s2)))))
set_option maxRecDepth 20000 in
set_option maxHeartbeats 2000000 in
theorem c_X12_go (w : TG) (n : Nat) (p1 : Int32) (p2 : Int32) (σ : MS) : MC m_X12_go w [.ref (wB w + 171), .int p1, .int p2] σ (f_X12_go n p1 p2 σ) := by
  refine V_meth (by decide +kernel) (Nat.le_of_ble_eq_true rfl) (by intro v hv; simp only [List.mem_cons, List.not_mem_nil, or_false] at hv; rcases hv with rfl | rfl | rfl <;> rfl) (fun g x => ?_)
  show VV m_X12_go w g 0 0 (QM m_X12_go w g x) (fun b : Int32 × MS => b = x) 0 [some (.ref (wB w + 171)), some (.int p1), some (.int p2), none] [] σ (f_X12_go n p1 p2 σ)
  have hJ26 : ∀ (t0 : Int32) (σ : MS), VV m_X12_go w g 0 0 (QM m_X12_go w g x) (fun b : Int32 × MS => b = x) 26 [some (.ref (wB w + 171)), some (.int p1), some (.int p2), none] [.int t0, .ref (wB w + 171)] σ (J_X12_go_26 n p1 p2 t0 σ) := by
    intro t0 σ
    refine V_iconst (pc := 26) dX12_go_26 ic_1 ?_
    refine V_callVi (pc := 27) (As := [.int t0, .int (1 : Int32)]) (rest := []) (c_X12_throwsIf w t0 (1 : Int32) σ) cw_X12_257 rfl rfl dX12_go_27 kc_171 ci_12 ⟨Nat.le_of_ble_eq_true rfl, Nat.le_of_ble_eq_true rfl⟩ rfl rfl (Nat.le_of_ble_eq_true rfl) (Nat.le_of_ble_eq_true rfl) (Nat.le_of_ble_eq_true rfl) rfl (fun q27 => ?_)
    refine V_if_eq (pc := 30) (tgt := 35) dX12_go_30 (by decide +kernel) ?_ ?_
    · refine V_aload_n (pc := 35) dX12_go_35 rfl rfl ?_
      refine V_callVv (pc := 36) (As := []) (rest := []) (c_X12_remembers w n  q27.2) cw_X12_333 rfl rfl dX12_go_36 kc_171 ci_12 ⟨Nat.le_of_ble_eq_true rfl, Nat.le_of_ble_eq_true rfl⟩ rfl rfl (Nat.le_of_ble_eq_true rfl) (Nat.le_of_ble_eq_true rfl) (Nat.le_of_ble_eq_true rfl) rfl (fun q36 => ?_)
      refine V_aload_n (pc := 39) dX12_go_39 rfl rfl ?_
      refine V_iload_n (pc := 40) dX12_go_40 rfl rfl ?_
      refine V_iconst (pc := 41) dX12_go_41 ic_0 ?_
      refine V_callVpi (pc := 42) (As := [.int p1, .int (0 : Int32)]) (rest := []) (c_X12_of w p1 (0 : Int32) q36.2) cw_X12_73 rfl rfl dX12_go_42 kc_171 ci_12 ⟨Nat.le_of_ble_eq_true rfl, Nat.le_of_ble_eq_true rfl⟩ rfl rfl (Nat.le_of_ble_eq_true rfl) (Nat.le_of_ble_eq_true rfl) (Nat.le_of_ble_eq_true rfl) rfl (fun q42 => ?_)
      refine V_istore_n (pc := 45) (vs' := [some (.ref (wB w + 171)), some (.int p1), some (.int p2), some (.int q42)]) dX12_go_45 rfl (Nat.le_of_ble_eq_true rfl) (Nat.le_of_ble_eq_true rfl) rfl ?_
      refine V_aload_n (pc := 46) dX12_go_46 rfl rfl ?_
      refine V_getr (pc := 47) (t := 172) fk_X12_13 rfl dX12_go_47 kc_171 rf_12_1_171 ?_
      refine V_iload_n (pc := 50) dX12_go_50 rfl rfl ?_
      refine V_iconst (pc := 51) dX12_go_51 ic_0 ?_
      refine V_callSpi (pc := 52) (As := [.int p1, .int (0 : Int32)]) (rest := [.ref (wB w + 172)]) (c_X12_at w p1 (0 : Int32) q36.2) cs_X12_62 rfl rfl dX12_go_52 ⟨Nat.le_of_ble_eq_true rfl, Nat.le_of_ble_eq_true rfl⟩ rfl rfl (Nat.le_of_ble_eq_true rfl) (Nat.le_of_ble_eq_true rfl) (Nat.le_of_ble_eq_true rfl) rfl (fun q52 => ?_)
      refine V_iload_n (pc := 55) dX12_go_55 rfl rfl ?_
      refine V_iast (pc := 56) (n := 2172) dX12_go_56 kc_172 lc_172 (fun s56 => ?_)
      refine V_iload_n (pc := 57) dX12_go_57 rfl rfl ?_
      exact V_ireti (pc := 58) dX12_go_58 rfl (hk := fun h => h)
    · refine V_iconst (pc := 33) dX12_go_33 ic_0 ?_
      exact V_ireti (pc := 34) dX12_go_34 rfl (hk := fun h => h)
  have hJ21 : ∀ (σ : MS), VV m_X12_go w g 0 0 (QM m_X12_go w g x) (fun b : Int32 × MS => b = x) 21 [some (.ref (wB w + 171)), some (.int p1), some (.int p2), none] [.ref (wB w + 171)] σ (J_X12_go_21 n p1 p2 σ) := by
    intro σ
    refine V_iconst (pc := 21) dX12_go_21 ic_1 ?_
    refine V_goto (pc := 22) (tgt := 26) dX12_go_22 (by decide +kernel) ?_
    exact hJ26 (1 : Int32) σ
  refine V_aload_n (pc := 0) dX12_go_0 rfl rfl ?_
  refine V_iconst (pc := 1) dX12_go_1 ic_0 ?_
  refine V_puti (pc := 2) fp_X12_3 rfl dX12_go_2 kc_171 rf_12_0_171 (fun s2 => ?_)
  refine V_aload_n (pc := 5) dX12_go_5 rfl rfl ?_
  refine V_aload_n (pc := 6) dX12_go_6 rfl rfl ?_
  refine V_iload_n (pc := 7) dX12_go_7 rfl rfl ?_
  refine V_callVpi (pc := 8) (As := [.int p1]) (rest := [.ref (wB w + 171)]) (c_X12_noPerson w p1 s2) cw_X12_297 rfl rfl dX12_go_8 kc_171 ci_12 ⟨Nat.le_of_ble_eq_true rfl, Nat.le_of_ble_eq_true rfl⟩ rfl rfl (Nat.le_of_ble_eq_true rfl) (Nat.le_of_ble_eq_true rfl) (Nat.le_of_ble_eq_true rfl) rfl (fun q8 => ?_)
  refine V_if_ne (pc := 11) (tgt := 21) dX12_go_11 (by decide +kernel) ?_ ?_
  · exact hJ21 s2
  · refine V_iload_n (pc := 14) dX12_go_14 rfl rfl ?_
    refine V_callSpi (pc := 15) (As := [.int p2]) (rest := [.ref (wB w + 171)]) (c_X12_noRoom w p2 s2) cs_X12_133 rfl rfl dX12_go_15 ⟨Nat.le_of_ble_eq_true rfl, Nat.le_of_ble_eq_true rfl⟩ rfl rfl (Nat.le_of_ble_eq_true rfl) (Nat.le_of_ble_eq_true rfl) (Nat.le_of_ble_eq_true rfl) rfl (fun q15 => ?_)
    refine V_if_eq (pc := 18) (tgt := 25) dX12_go_18 (by decide +kernel) ?_ ?_
    · refine V_iconst (pc := 25) dX12_go_25 ic_0 ?_
      exact hJ26 (0 : Int32) s2
    · exact hJ21 s2
def J_X12_strew_74 (n : Nat) (t0 : Int32) (σ : MS) : Option (Int32 × MS) := (if t0 = 0 ∨ t0 = 1 then some (t0, σ) else none)
def J_X12_strew_63 (n : Nat) (v2 : Int32) (v3 : Int32) (t0 : Int32) (σ : MS) : Option (Int32 × MS) := (ltM (mu σ 172 4 t0) (fun s63 => (if v3 = v2 then J_X12_strew_74 n (0 : Int32) s63 else J_X12_strew_74 n (1 : Int32) s63)))
def f_X12_strew (n : Nat) (p1 : Int32) (p2 : Int32) (σ : MS) : Option (Int32 × MS) := (ltM (mu σ 171 0 (0 : Int32)) (fun s2 => ((f_X12_noRoom p1 s2).bind (fun q7 => ((f_X12_throwsIf q7 (1 : Int32) s2).bind (fun q11 => (if q11.1 = 0 then ((f_X12_remembers n  q11.2).bind (fun q20 => ((f_X12_hasFlour p1 q20.2).bind (fun q25 => (if p2 = 0 then J_X12_strew_63 n p2 q25 ((q20.2 172 4) &&& ((shlI (1 : Int32) p1) ^^^ (-1 : Int32))) q20.2 else J_X12_strew_63 n p2 q25 ((q20.2 172 4) ||| (shlI (1 : Int32) p1)) q20.2))))) else some ((0 : Int32), q11.2))))))))
set_option maxRecDepth 20000 in
set_option maxHeartbeats 2000000 in
theorem c_X12_strew (w : TG) (n : Nat) (p1 : Int32) (p2 : Int32) (σ : MS) : MC m_X12_strew w [.ref (wB w + 171), .int p1, .int p2] σ (f_X12_strew n p1 p2 σ) := by
  refine V_meth (by decide +kernel) (Nat.le_of_ble_eq_true rfl) (by intro v hv; simp only [List.mem_cons, List.not_mem_nil, or_false] at hv; rcases hv with rfl | rfl | rfl <;> rfl) (fun g x => ?_)
  show VV m_X12_strew w g 0 0 (QM m_X12_strew w g x) (fun b : Int32 × MS => b = x) 0 [some (.ref (wB w + 171)), some (.int p1), some (.int p2), none] [] σ (f_X12_strew n p1 p2 σ)
  have hJ74 : ∀ (t0 : Int32) (σ : MS), VV m_X12_strew w g 0 0 (QM m_X12_strew w g x) (fun b : Int32 × MS => b = x) 74 [none, none, none, none] [.int t0] σ (J_X12_strew_74 n t0 σ) := by
    intro t0 σ
    exact V_iretZ (pc := 74) dX12_strew_74 rfl (hk := fun h => h)
  have hJ63 : ∀ (v3 : Int32) (t0 : Int32) (σ : MS), VV m_X12_strew w g 0 0 (QM m_X12_strew w g x) (fun b : Int32 × MS => b = x) 63 [none, none, some (.int p2), some (.int v3)] [.int t0, .int (4 : Int32), .ref (wB w + 172)] σ (J_X12_strew_63 n p2 v3 t0 σ) := by
    intro v3 t0 σ
    refine V_iastC (pc := 63) (n := 2172) dX12_strew_63 kc_172 lc_172 inb_4_2172 (fun s63 => ?_)
    refine V_iload_n (pc := 64) dX12_strew_64 rfl rfl ?_
    refine V_iload_n (pc := 65) dX12_strew_65 rfl rfl ?_
    refine V_icmp_eq (pc := 66) (tgt := 73) dX12_strew_66 (by decide +kernel) ?_ ?_
    · refine V_iconst (pc := 73) dX12_strew_73 ic_0 ?_
      refine V_sub (vs' := [none, none, none, none]) (show vless _ _ from trivial) rfl ?_
      exact hJ74 (0 : Int32) s63
    · refine V_iconst (pc := 69) dX12_strew_69 ic_1 ?_
      refine V_goto (pc := 70) (tgt := 74) dX12_strew_70 (by decide +kernel) ?_
      refine V_sub (vs' := [none, none, none, none]) (show vless _ _ from trivial) rfl ?_
      exact hJ74 (1 : Int32) s63
  refine V_aload_n (pc := 0) dX12_strew_0 rfl rfl ?_
  refine V_iconst (pc := 1) dX12_strew_1 ic_0 ?_
  refine V_puti (pc := 2) fp_X12_3 rfl dX12_strew_2 kc_171 rf_12_0_171 (fun s2 => ?_)
  refine V_aload_n (pc := 5) dX12_strew_5 rfl rfl ?_
  refine V_iload_n (pc := 6) dX12_strew_6 rfl rfl ?_
  refine V_callSpi (pc := 7) (As := [.int p1]) (rest := [.ref (wB w + 171)]) (c_X12_noRoom w p1 s2) cs_X12_133 rfl rfl dX12_strew_7 ⟨Nat.le_of_ble_eq_true rfl, Nat.le_of_ble_eq_true rfl⟩ rfl rfl (Nat.le_of_ble_eq_true rfl) (Nat.le_of_ble_eq_true rfl) (Nat.le_of_ble_eq_true rfl) rfl (fun q7 => ?_)
  refine V_iconst (pc := 10) dX12_strew_10 ic_1 ?_
  refine V_callVi (pc := 11) (As := [.int q7, .int (1 : Int32)]) (rest := []) (c_X12_throwsIf w q7 (1 : Int32) s2) cw_X12_257 rfl rfl dX12_strew_11 kc_171 ci_12 ⟨Nat.le_of_ble_eq_true rfl, Nat.le_of_ble_eq_true rfl⟩ rfl rfl (Nat.le_of_ble_eq_true rfl) (Nat.le_of_ble_eq_true rfl) (Nat.le_of_ble_eq_true rfl) rfl (fun q11 => ?_)
  refine V_if_eq (pc := 14) (tgt := 19) dX12_strew_14 (by decide +kernel) ?_ ?_
  · refine V_aload_n (pc := 19) dX12_strew_19 rfl rfl ?_
    refine V_callVv (pc := 20) (As := []) (rest := []) (c_X12_remembers w n  q11.2) cw_X12_333 rfl rfl dX12_strew_20 kc_171 ci_12 ⟨Nat.le_of_ble_eq_true rfl, Nat.le_of_ble_eq_true rfl⟩ rfl rfl (Nat.le_of_ble_eq_true rfl) (Nat.le_of_ble_eq_true rfl) (Nat.le_of_ble_eq_true rfl) rfl (fun q20 => ?_)
    refine V_aload_n (pc := 23) dX12_strew_23 rfl rfl ?_
    refine V_iload_n (pc := 24) dX12_strew_24 rfl rfl ?_
    refine V_callVpi (pc := 25) (As := [.int p1]) (rest := []) (c_X12_hasFlour w p1 q20.2) cw_X12_397 rfl rfl dX12_strew_25 kc_171 ci_12 ⟨Nat.le_of_ble_eq_true rfl, Nat.le_of_ble_eq_true rfl⟩ rfl rfl (Nat.le_of_ble_eq_true rfl) (Nat.le_of_ble_eq_true rfl) (Nat.le_of_ble_eq_true rfl) rfl (fun q25 => ?_)
    refine V_istore_n (pc := 28) (vs' := [some (.ref (wB w + 171)), some (.int p1), some (.int p2), some (.int q25)]) dX12_strew_28 rfl (Nat.le_of_ble_eq_true rfl) (Nat.le_of_ble_eq_true rfl) rfl ?_
    refine V_aload_n (pc := 29) dX12_strew_29 rfl rfl ?_
    refine V_getr (pc := 30) (t := 172) fk_X12_13 rfl dX12_strew_30 kc_171 rf_12_1_171 ?_
    refine V_iconst (pc := 33) dX12_strew_33 ic_4 ?_
    refine V_iload_n (pc := 34) dX12_strew_34 rfl rfl ?_
    refine V_if_eq (pc := 35) (tgt := 51) dX12_strew_35 (by decide +kernel) ?_ ?_
    · refine V_aload_n (pc := 51) dX12_strew_51 rfl rfl ?_
      refine V_getr (pc := 52) (t := 172) fk_X12_13 rfl dX12_strew_52 kc_171 rf_12_1_171 ?_
      refine V_iconst (pc := 55) dX12_strew_55 ic_4 ?_
      refine V_ialdC (pc := 56) (n := 2172) dX12_strew_56 kc_172 lc_172 inb_4_2172 ?_
      refine V_iconst (pc := 57) dX12_strew_57 ic_1 ?_
      refine V_iload_n (pc := 58) dX12_strew_58 rfl rfl ?_
      refine V_ishl (pc := 59) dX12_strew_59 ?_
      refine V_iconst (pc := 60) dX12_strew_60 ic_m1 ?_
      refine V_ixor (pc := 61) dX12_strew_61 ?_
      refine V_iand (pc := 62) dX12_strew_62 ?_
      refine V_sub (vs' := [none, none, some (.int p2), some (.int q25)]) (show vless _ _ from ⟨rfl, ⟨rfl, trivial⟩⟩) rfl ?_
      exact hJ63 q25 ((q20.2 172 4) &&& ((shlI (1 : Int32) p1) ^^^ (-1 : Int32))) q20.2
    · refine V_aload_n (pc := 38) dX12_strew_38 rfl rfl ?_
      refine V_getr (pc := 39) (t := 172) fk_X12_13 rfl dX12_strew_39 kc_171 rf_12_1_171 ?_
      refine V_iconst (pc := 42) dX12_strew_42 ic_4 ?_
      refine V_ialdC (pc := 43) (n := 2172) dX12_strew_43 kc_172 lc_172 inb_4_2172 ?_
      refine V_iconst (pc := 44) dX12_strew_44 ic_1 ?_
      refine V_iload_n (pc := 45) dX12_strew_45 rfl rfl ?_
      refine V_ishl (pc := 46) dX12_strew_46 ?_
      refine V_ior (pc := 47) dX12_strew_47 ?_
      refine V_goto (pc := 48) (tgt := 63) dX12_strew_48 (by decide +kernel) ?_
      refine V_sub (vs' := [none, none, some (.int p2), some (.int q25)]) (show vless _ _ from ⟨rfl, ⟨rfl, trivial⟩⟩) rfl ?_
      exact hJ63 q25 ((q20.2 172 4) ||| (shlI (1 : Int32) p1)) q20.2
  · refine V_iconst (pc := 17) dX12_strew_17 ic_0 ?_
    exact V_iretz (pc := 18) dX12_strew_18 rfl rfl (hk := fun h => h)
def J_X12_wed_68 (n : Nat)  (σ : MS) : Option (Int32 × MS) := some (0, σ)
def J_X12_wed_61 (n : Nat) (v1 : Int32) (v2 : Int32) (t0 : Int32) (σ : MS) : Option (Int32 × MS) := ((f_X12_throwsIf t0 (3 : Int32) σ).bind (fun q62 => (if q62.1 = 0 then ((f_X12_remembers n  q62.2).bind (fun q70 => ((f_X12_weds v1 v2 q70.2).bind (fun q76 => some (0, q76.2))))) else J_X12_wed_68 n  q62.2)))
def J_X12_wed_56 (n : Nat) (v1 : Int32) (v2 : Int32) (σ : MS) : Option (Int32 × MS) := J_X12_wed_61 n v1 v2 (1 : Int32) σ
def J_X12_wed_30 (n : Nat) (v1 : Int32) (v2 : Int32) (t0 : Int32) (σ : MS) : Option (Int32 × MS) := ((f_X12_throwsIf t0 (2 : Int32) σ).bind (fun q31 => (if q31.1 = 0 then ((f_X12_of v1 (1 : Int32) q31.2).bind (fun q41 => (if 0 ≤ q41 then J_X12_wed_56 n v1 v2 q31.2 else ((f_X12_of v2 (1 : Int32) q31.2).bind (fun q50 => (if q50 < 0 then J_X12_wed_61 n v1 v2 (0 : Int32) q31.2 else J_X12_wed_56 n v1 v2 q31.2)))))) else J_X12_wed_68 n  q31.2)))
def f_X12_wed (n : Nat) (p1 : Int32) (p2 : Int32) (σ : MS) : Option (Int32 × MS) := (ltM (mu σ 171 0 (0 : Int32)) (fun s2 => ((f_X12_noBoth p1 p2 s2).bind (fun q9 => ((f_X12_throwsIf q9 (1 : Int32) s2).bind (fun q13 => (if q13.1 = 0 then (if p1 = p2 then J_X12_wed_30 n p1 p2 (1 : Int32) q13.2 else J_X12_wed_30 n p1 p2 (0 : Int32) q13.2) else J_X12_wed_68 n  q13.2)))))))
set_option maxRecDepth 20000 in
set_option maxHeartbeats 2000000 in
theorem c_X12_wed (w : TG) (n : Nat) (p1 : Int32) (p2 : Int32) (σ : MS) : MC m_X12_wed w [.ref (wB w + 171), .int p1, .int p2] σ (f_X12_wed n p1 p2 σ) := by
  refine V_meth (by decide +kernel) (Nat.le_of_ble_eq_true rfl) (by intro v hv; simp only [List.mem_cons, List.not_mem_nil, or_false] at hv; rcases hv with rfl | rfl | rfl <;> rfl) (fun g x => ?_)
  show VV m_X12_wed w g 0 0 (QM m_X12_wed w g x) (fun b : Int32 × MS => b = x) 0 [some (.ref (wB w + 171)), some (.int p1), some (.int p2)] [] σ (f_X12_wed n p1 p2 σ)
  have hJ68 : ∀ (σ : MS), VV m_X12_wed w g 0 0 (QM m_X12_wed w g x) (fun b : Int32 × MS => b = x) 68 [none, none, none] [] σ (J_X12_wed_68 n  σ) := by
    intro σ
    exact V_ret (pc := 68) dX12_wed_68 rfl (hk := fun h => h)
  have hJ61 : ∀ (t0 : Int32) (σ : MS), VV m_X12_wed w g 0 0 (QM m_X12_wed w g x) (fun b : Int32 × MS => b = x) 61 [some (.ref (wB w + 171)), some (.int p1), some (.int p2)] [.int t0, .ref (wB w + 171)] σ (J_X12_wed_61 n p1 p2 t0 σ) := by
    intro t0 σ
    refine V_iconst (pc := 61) dX12_wed_61 ic_3 ?_
    refine V_callVi (pc := 62) (As := [.int t0, .int (3 : Int32)]) (rest := []) (c_X12_throwsIf w t0 (3 : Int32) σ) cw_X12_257 rfl rfl dX12_wed_62 kc_171 ci_12 ⟨Nat.le_of_ble_eq_true rfl, Nat.le_of_ble_eq_true rfl⟩ rfl rfl (Nat.le_of_ble_eq_true rfl) (Nat.le_of_ble_eq_true rfl) (Nat.le_of_ble_eq_true rfl) rfl (fun q62 => ?_)
    refine V_if_eq (pc := 65) (tgt := 69) dX12_wed_65 (by decide +kernel) ?_ ?_
    · refine V_aload_n (pc := 69) dX12_wed_69 rfl rfl ?_
      refine V_callVv (pc := 70) (As := []) (rest := []) (c_X12_remembers w n  q62.2) cw_X12_333 rfl rfl dX12_wed_70 kc_171 ci_12 ⟨Nat.le_of_ble_eq_true rfl, Nat.le_of_ble_eq_true rfl⟩ rfl rfl (Nat.le_of_ble_eq_true rfl) (Nat.le_of_ble_eq_true rfl) (Nat.le_of_ble_eq_true rfl) rfl (fun q70 => ?_)
      refine V_aload_n (pc := 73) dX12_wed_73 rfl rfl ?_
      refine V_iload_n (pc := 74) dX12_wed_74 rfl rfl ?_
      refine V_iload_n (pc := 75) dX12_wed_75 rfl rfl ?_
      refine V_callVv (pc := 76) (As := [.int p1, .int p2]) (rest := []) (c_X12_weds w p1 p2 q70.2) cw_X12_129 rfl rfl dX12_wed_76 kc_171 ci_12 ⟨Nat.le_of_ble_eq_true rfl, Nat.le_of_ble_eq_true rfl⟩ rfl rfl (Nat.le_of_ble_eq_true rfl) (Nat.le_of_ble_eq_true rfl) (Nat.le_of_ble_eq_true rfl) rfl (fun q76 => ?_)
      exact V_ret (pc := 79) dX12_wed_79 rfl (hk := fun h => h)
    · refine V_sub (vs' := [none, none, none]) (show vless _ _ from trivial) rfl ?_
      exact hJ68 q62.2
  have hJ56 : ∀ (σ : MS), VV m_X12_wed w g 0 0 (QM m_X12_wed w g x) (fun b : Int32 × MS => b = x) 56 [some (.ref (wB w + 171)), some (.int p1), some (.int p2)] [.ref (wB w + 171)] σ (J_X12_wed_56 n p1 p2 σ) := by
    intro σ
    refine V_iconst (pc := 56) dX12_wed_56 ic_1 ?_
    refine V_goto (pc := 57) (tgt := 61) dX12_wed_57 (by decide +kernel) ?_
    exact hJ61 (1 : Int32) σ
  have hJ30 : ∀ (t0 : Int32) (σ : MS), VV m_X12_wed w g 0 0 (QM m_X12_wed w g x) (fun b : Int32 × MS => b = x) 30 [some (.ref (wB w + 171)), some (.int p1), some (.int p2)] [.int t0, .ref (wB w + 171)] σ (J_X12_wed_30 n p1 p2 t0 σ) := by
    intro t0 σ
    refine V_iconst (pc := 30) dX12_wed_30 ic_2 ?_
    refine V_callVi (pc := 31) (As := [.int t0, .int (2 : Int32)]) (rest := []) (c_X12_throwsIf w t0 (2 : Int32) σ) cw_X12_257 rfl rfl dX12_wed_31 kc_171 ci_12 ⟨Nat.le_of_ble_eq_true rfl, Nat.le_of_ble_eq_true rfl⟩ rfl rfl (Nat.le_of_ble_eq_true rfl) (Nat.le_of_ble_eq_true rfl) (Nat.le_of_ble_eq_true rfl) rfl (fun q31 => ?_)
    refine V_if_ne (pc := 34) (tgt := 68) dX12_wed_34 (by decide +kernel) ?_ ?_
    · refine V_sub (vs' := [none, none, none]) (show vless _ _ from trivial) rfl ?_
      exact hJ68 q31.2
    · refine V_aload_n (pc := 37) dX12_wed_37 rfl rfl ?_
      refine V_aload_n (pc := 38) dX12_wed_38 rfl rfl ?_
      refine V_iload_n (pc := 39) dX12_wed_39 rfl rfl ?_
      refine V_iconst (pc := 40) dX12_wed_40 ic_1 ?_
      refine V_callVpi (pc := 41) (As := [.int p1, .int (1 : Int32)]) (rest := [.ref (wB w + 171)]) (c_X12_of w p1 (1 : Int32) q31.2) cw_X12_73 rfl rfl dX12_wed_41 kc_171 ci_12 ⟨Nat.le_of_ble_eq_true rfl, Nat.le_of_ble_eq_true rfl⟩ rfl rfl (Nat.le_of_ble_eq_true rfl) (Nat.le_of_ble_eq_true rfl) (Nat.le_of_ble_eq_true rfl) rfl (fun q41 => ?_)
      refine V_if_ge (pc := 44) (tgt := 56) dX12_wed_44 (by decide +kernel) ?_ ?_
      · exact hJ56 q31.2
      · refine V_aload_n (pc := 47) dX12_wed_47 rfl rfl ?_
        refine V_iload_n (pc := 48) dX12_wed_48 rfl rfl ?_
        refine V_iconst (pc := 49) dX12_wed_49 ic_1 ?_
        refine V_callVpi (pc := 50) (As := [.int p2, .int (1 : Int32)]) (rest := [.ref (wB w + 171)]) (c_X12_of w p2 (1 : Int32) q31.2) cw_X12_73 rfl rfl dX12_wed_50 kc_171 ci_12 ⟨Nat.le_of_ble_eq_true rfl, Nat.le_of_ble_eq_true rfl⟩ rfl rfl (Nat.le_of_ble_eq_true rfl) (Nat.le_of_ble_eq_true rfl) (Nat.le_of_ble_eq_true rfl) rfl (fun q50 => ?_)
        refine V_if_lt (pc := 53) (tgt := 60) dX12_wed_53 (by decide +kernel) ?_ ?_
        · refine V_iconst (pc := 60) dX12_wed_60 ic_0 ?_
          exact hJ61 (0 : Int32) q31.2
        · exact hJ56 q31.2
  refine V_aload_n (pc := 0) dX12_wed_0 rfl rfl ?_
  refine V_iconst (pc := 1) dX12_wed_1 ic_0 ?_
  refine V_puti (pc := 2) fp_X12_3 rfl dX12_wed_2 kc_171 rf_12_0_171 (fun s2 => ?_)
  refine V_aload_n (pc := 5) dX12_wed_5 rfl rfl ?_
  refine V_aload_n (pc := 6) dX12_wed_6 rfl rfl ?_
  refine V_iload_n (pc := 7) dX12_wed_7 rfl rfl ?_
  refine V_iload_n (pc := 8) dX12_wed_8 rfl rfl ?_
  refine V_callVpi (pc := 9) (As := [.int p1, .int p2]) (rest := [.ref (wB w + 171)]) (c_X12_noBoth w p1 p2 s2) cw_X12_300 rfl rfl dX12_wed_9 kc_171 ci_12 ⟨Nat.le_of_ble_eq_true rfl, Nat.le_of_ble_eq_true rfl⟩ rfl rfl (Nat.le_of_ble_eq_true rfl) (Nat.le_of_ble_eq_true rfl) (Nat.le_of_ble_eq_true rfl) rfl (fun q9 => ?_)
  refine V_iconst (pc := 12) dX12_wed_12 ic_1 ?_
  refine V_callVi (pc := 13) (As := [.int q9, .int (1 : Int32)]) (rest := []) (c_X12_throwsIf w q9 (1 : Int32) s2) cw_X12_257 rfl rfl dX12_wed_13 kc_171 ci_12 ⟨Nat.le_of_ble_eq_true rfl, Nat.le_of_ble_eq_true rfl⟩ rfl rfl (Nat.le_of_ble_eq_true rfl) (Nat.le_of_ble_eq_true rfl) (Nat.le_of_ble_eq_true rfl) rfl (fun q13 => ?_)
  refine V_if_ne (pc := 16) (tgt := 68) dX12_wed_16 (by decide +kernel) ?_ ?_
  · refine V_sub (vs' := [none, none, none]) (show vless _ _ from trivial) rfl ?_
    exact hJ68 q13.2
  · refine V_aload_n (pc := 19) dX12_wed_19 rfl rfl ?_
    refine V_iload_n (pc := 20) dX12_wed_20 rfl rfl ?_
    refine V_iload_n (pc := 21) dX12_wed_21 rfl rfl ?_
    refine V_icmp_ne (pc := 22) (tgt := 29) dX12_wed_22 (by decide +kernel) ?_ ?_
    · refine V_iconst (pc := 29) dX12_wed_29 ic_0 ?_
      exact hJ30 (0 : Int32) q13.2
    · refine V_iconst (pc := 25) dX12_wed_25 ic_1 ?_
      refine V_goto (pc := 26) (tgt := 30) dX12_wed_26 (by decide +kernel) ?_
      exact hJ30 (1 : Int32) q13.2
def f_X12_clear (n : Nat) (p1 : Int32) (σ : MS) : Option (Int32 × MS) := (ltM (mu σ 171 0 (0 : Int32)) (fun s2 => ((f_X12_noPerson p1 s2).bind (fun q8 => ((f_X12_throwsIf q8 (1 : Int32) s2).bind (fun q12 => (if q12.1 = 0 then ((f_X12_remembers n  q12.2).bind (fun q21 => ((f_X12_of p1 (2 : Int32) q21.2).bind (fun q27 => ((f_X12_at p1 (2 : Int32) q21.2).bind (fun q37 => (if inb q37 2172 then ltM (mu q21.2 172 (ix q37) (0 : Int32)) (fun s41 => some (q27, s41)) else none))))))) else some ((0 : Int32), q12.2))))))))
set_option maxRecDepth 20000 in
set_option maxHeartbeats 2000000 in
theorem c_X12_clear (w : TG) (n : Nat) (p1 : Int32) (σ : MS) : MC m_X12_clear w [.ref (wB w + 171), .int p1] σ (f_X12_clear n p1 σ) := by
  refine V_meth (by decide +kernel) (Nat.le_of_ble_eq_true rfl) (by intro v hv; simp only [List.mem_cons, List.not_mem_nil, or_false] at hv; rcases hv with rfl | rfl <;> rfl) (fun g x => ?_)
  show VV m_X12_clear w g 0 0 (QM m_X12_clear w g x) (fun b : Int32 × MS => b = x) 0 [some (.ref (wB w + 171)), some (.int p1), none] [] σ (f_X12_clear n p1 σ)
  refine V_aload_n (pc := 0) dX12_clear_0 rfl rfl ?_
  refine V_iconst (pc := 1) dX12_clear_1 ic_0 ?_
  refine V_puti (pc := 2) fp_X12_3 rfl dX12_clear_2 kc_171 rf_12_0_171 (fun s2 => ?_)
  refine V_aload_n (pc := 5) dX12_clear_5 rfl rfl ?_
  refine V_aload_n (pc := 6) dX12_clear_6 rfl rfl ?_
  refine V_iload_n (pc := 7) dX12_clear_7 rfl rfl ?_
  refine V_callVpi (pc := 8) (As := [.int p1]) (rest := [.ref (wB w + 171)]) (c_X12_noPerson w p1 s2) cw_X12_297 rfl rfl dX12_clear_8 kc_171 ci_12 ⟨Nat.le_of_ble_eq_true rfl, Nat.le_of_ble_eq_true rfl⟩ rfl rfl (Nat.le_of_ble_eq_true rfl) (Nat.le_of_ble_eq_true rfl) (Nat.le_of_ble_eq_true rfl) rfl (fun q8 => ?_)
  refine V_iconst (pc := 11) dX12_clear_11 ic_1 ?_
  refine V_callVi (pc := 12) (As := [.int q8, .int (1 : Int32)]) (rest := []) (c_X12_throwsIf w q8 (1 : Int32) s2) cw_X12_257 rfl rfl dX12_clear_12 kc_171 ci_12 ⟨Nat.le_of_ble_eq_true rfl, Nat.le_of_ble_eq_true rfl⟩ rfl rfl (Nat.le_of_ble_eq_true rfl) (Nat.le_of_ble_eq_true rfl) (Nat.le_of_ble_eq_true rfl) rfl (fun q12 => ?_)
  refine V_if_eq (pc := 15) (tgt := 20) dX12_clear_15 (by decide +kernel) ?_ ?_
  · refine V_aload_n (pc := 20) dX12_clear_20 rfl rfl ?_
    refine V_callVv (pc := 21) (As := []) (rest := []) (c_X12_remembers w n  q12.2) cw_X12_333 rfl rfl dX12_clear_21 kc_171 ci_12 ⟨Nat.le_of_ble_eq_true rfl, Nat.le_of_ble_eq_true rfl⟩ rfl rfl (Nat.le_of_ble_eq_true rfl) (Nat.le_of_ble_eq_true rfl) (Nat.le_of_ble_eq_true rfl) rfl (fun q21 => ?_)
    refine V_aload_n (pc := 24) dX12_clear_24 rfl rfl ?_
    refine V_iload_n (pc := 25) dX12_clear_25 rfl rfl ?_
    refine V_iconst (pc := 26) dX12_clear_26 ic_2 ?_
    refine V_callVpi (pc := 27) (As := [.int p1, .int (2 : Int32)]) (rest := []) (c_X12_of w p1 (2 : Int32) q21.2) cw_X12_73 rfl rfl dX12_clear_27 kc_171 ci_12 ⟨Nat.le_of_ble_eq_true rfl, Nat.le_of_ble_eq_true rfl⟩ rfl rfl (Nat.le_of_ble_eq_true rfl) (Nat.le_of_ble_eq_true rfl) (Nat.le_of_ble_eq_true rfl) rfl (fun q27 => ?_)
    refine V_istore_n (pc := 30) (vs' := [some (.ref (wB w + 171)), some (.int p1), some (.int q27)]) dX12_clear_30 rfl (Nat.le_of_ble_eq_true rfl) (Nat.le_of_ble_eq_true rfl) rfl ?_
    refine V_aload_n (pc := 31) dX12_clear_31 rfl rfl ?_
    refine V_getr (pc := 32) (t := 172) fk_X12_13 rfl dX12_clear_32 kc_171 rf_12_1_171 ?_
    refine V_iload_n (pc := 35) dX12_clear_35 rfl rfl ?_
    refine V_iconst (pc := 36) dX12_clear_36 ic_2 ?_
    refine V_callSpi (pc := 37) (As := [.int p1, .int (2 : Int32)]) (rest := [.ref (wB w + 172)]) (c_X12_at w p1 (2 : Int32) q21.2) cs_X12_62 rfl rfl dX12_clear_37 ⟨Nat.le_of_ble_eq_true rfl, Nat.le_of_ble_eq_true rfl⟩ rfl rfl (Nat.le_of_ble_eq_true rfl) (Nat.le_of_ble_eq_true rfl) (Nat.le_of_ble_eq_true rfl) rfl (fun q37 => ?_)
    refine V_iconst (pc := 40) dX12_clear_40 ic_0 ?_
    refine V_iast (pc := 41) (n := 2172) dX12_clear_41 kc_172 lc_172 (fun s41 => ?_)
    refine V_iload_n (pc := 42) dX12_clear_42 rfl rfl ?_
    exact V_ireti (pc := 43) dX12_clear_43 rfl (hk := fun h => h)
  · refine V_iconst (pc := 18) dX12_clear_18 ic_0 ?_
    exact V_ireti (pc := 19) dX12_clear_19 rfl (hk := fun h => h)
def f_X12_suspects (p1 : Int32) (p2 : Int32) (σ : MS) : Option (Int32 × MS) := ((f_X12_at p1 (2 : Int32) σ).bind (fun q6 => ((f_X12_of p1 (2 : Int32) σ).bind (fun q14 => (if inb q6 2172 then ltM (mu σ 172 (ix q6) (mnI (99 : Int32) (q14 + p2))) (fun s22 => some (0, s22)) else none)))))
set_option maxRecDepth 20000 in
set_option maxHeartbeats 2000000 in
theorem c_X12_suspects (w : TG) (p1 : Int32) (p2 : Int32) (σ : MS) : MC m_X12_suspects w [.ref (wB w + 171), .int p1, .int p2] σ (f_X12_suspects p1 p2 σ) := by
  refine V_meth (by decide +kernel) (Nat.le_of_ble_eq_true rfl) (by intro v hv; simp only [List.mem_cons, List.not_mem_nil, or_false] at hv; rcases hv with rfl | rfl | rfl <;> rfl) (fun g x => ?_)
  show VV m_X12_suspects w g 0 0 (QM m_X12_suspects w g x) (fun b : Int32 × MS => b = x) 0 [some (.ref (wB w + 171)), some (.int p1), some (.int p2)] [] σ (f_X12_suspects p1 p2 σ)
  refine V_aload_n (pc := 0) dX12_suspects_0 rfl rfl ?_
  refine V_getr (pc := 1) (t := 172) fk_X12_13 rfl dX12_suspects_1 kc_171 rf_12_1_171 ?_
  refine V_iload_n (pc := 4) dX12_suspects_4 rfl rfl ?_
  refine V_iconst (pc := 5) dX12_suspects_5 ic_2 ?_
  refine V_callSpi (pc := 6) (As := [.int p1, .int (2 : Int32)]) (rest := [.ref (wB w + 172)]) (c_X12_at w p1 (2 : Int32) σ) cs_X12_62 rfl rfl dX12_suspects_6 ⟨Nat.le_of_ble_eq_true rfl, Nat.le_of_ble_eq_true rfl⟩ rfl rfl (Nat.le_of_ble_eq_true rfl) (Nat.le_of_ble_eq_true rfl) (Nat.le_of_ble_eq_true rfl) rfl (fun q6 => ?_)
  refine V_bipush (pc := 9) dX12_suspects_9 bp_99 ?_
  refine V_aload_n (pc := 11) dX12_suspects_11 rfl rfl ?_
  refine V_iload_n (pc := 12) dX12_suspects_12 rfl rfl ?_
  refine V_iconst (pc := 13) dX12_suspects_13 ic_2 ?_
  refine V_callVpi (pc := 14) (As := [.int p1, .int (2 : Int32)]) (rest := [.int (99 : Int32), .int q6, .ref (wB w + 172)]) (c_X12_of w p1 (2 : Int32) σ) cw_X12_73 rfl rfl dX12_suspects_14 kc_171 ci_12 ⟨Nat.le_of_ble_eq_true rfl, Nat.le_of_ble_eq_true rfl⟩ rfl rfl (Nat.le_of_ble_eq_true rfl) (Nat.le_of_ble_eq_true rfl) (Nat.le_of_ble_eq_true rfl) rfl (fun q14 => ?_)
  refine V_iload_n (pc := 17) dX12_suspects_17 rfl rfl ?_
  refine V_iadd (pc := 18) dX12_suspects_18 ?_
  refine V_mmin (pc := 19) dX12_suspects_19 rfl mw_X12_283 (Nat.le_of_ble_eq_true rfl) (Nat.le_of_ble_eq_true rfl) (Nat.le_of_ble_eq_true rfl) (Nat.le_of_ble_eq_true rfl) ?_
  refine V_iast (pc := 22) (n := 2172) dX12_suspects_22 kc_172 lc_172 (fun s22 => ?_)
  exact V_ret (pc := 23) dX12_suspects_23 rfl (hk := fun h => h)
def L_X12_leavesFootprints_30 (n : Nat) (v1 : Int32) (v2 : Int32) (σ : MS) (a30 : Int32 × MS) : Option ((Int32 × MS) ⊕ (Int32 × MS)) := (if a30.1 < (4 : Int32) then ((ltM (mu a30.2 172 234 (a30.2 172 3)) (fun s79 => (ltM (mu s79 172 235 v1) (fun s88 => (ltM (mu s88 172 236 v2) (fun s97 => ((f_X12_of v1 (0 : Int32) s97).bind (fun q108 => (ltM (mu s97 172 237 q108) (fun s111 => (ltM (mu s111 172 8 (mnI (60 : Int32) ((s111 172 8) + (1 : Int32)))) (fun s132 => (ltM (mu s132 172 7 ((s132 172 7) + (1 : Int32))) (fun s143 => some (0, s143)))))))))))))))).map Sum.inr else (if inb (((234 : Int32) + a30.1) - (4 : Int32)) 2172 then (if inb ((234 : Int32) + a30.1) 2172 then ltM (mu a30.2 172 (ix ((234 : Int32) + a30.1)) (a30.2 172 (ix (((234 : Int32) + a30.1) - (4 : Int32))))) (fun s59 => some (.inl ((a30.1 + (-1 : Int32)), s59))) else none) else none))
def f_X12_leavesFootprints (n : Nat) (p1 : Int32) (p2 : Int32) (σ : MS) : Option (Int32 × MS) := ((f_X12_looks p1 p2 (0 : Int32) (0 : Int32) σ).bind (fun q5 => ((f_X12_suspectsBy n  q5.2).bind (fun q9 => ((f_X12_suspects p1 q9.1 q9.2).bind (fun q16 => ((f_X12_suspects p2 q9.1 q16.2).bind (fun q22 => itr (L_X12_leavesFootprints_30 n p1 p2 σ) n ((239 : Int32), q22.2)))))))))
set_option maxRecDepth 20000 in
set_option maxHeartbeats 2000000 in
theorem c_X12_leavesFootprints (w : TG) (n : Nat) (p1 : Int32) (p2 : Int32) (σ : MS) : MC m_X12_leavesFootprints w [.ref (wB w + 171), .int p1, .int p2] σ (f_X12_leavesFootprints n p1 p2 σ) := by
  refine V_meth (by decide +kernel) (Nat.le_of_ble_eq_true rfl) (by intro v hv; simp only [List.mem_cons, List.not_mem_nil, or_false] at hv; rcases hv with rfl | rfl | rfl <;> rfl) (fun g x => ?_)
  show VV m_X12_leavesFootprints w g 0 0 (QM m_X12_leavesFootprints w g x) (fun b : Int32 × MS => b = x) 0 [some (.ref (wB w + 171)), some (.int p1), some (.int p2), none, none] [] σ (f_X12_leavesFootprints n p1 p2 σ)
  have hL30 : ∀  (n0 : Nat) (a : Int32 × MS), VV m_X12_leavesFootprints w g 0 0 (QM m_X12_leavesFootprints w g x) (fun b : Int32 × MS => b = x) 30 [some (.ref (wB w + 171)), some (.int p1), some (.int p2), none, some (.int a.1)] [] a.2 (itr (L_X12_leavesFootprints_30 n p1 p2 σ) n0 a) := by
    refine V_itr (vf := fun a : Int32 × MS => [some (.ref (wB w + 171)), some (.int p1), some (.int p2), none, some (.int a.1)]) (sf := fun a : Int32 × MS => a.2) (fun κ30 b30 r30 a30 => ?_)
    obtain ⟨a30_1, a30_2⟩ := a30
    show VV m_X12_leavesFootprints w g 0 0 (QM m_X12_leavesFootprints w g x) κ30 30 [some (.ref (wB w + 171)), some (.int p1), some (.int p2), none, some (.int a30_1)] [] a30_2 (L_X12_leavesFootprints_30 n p1 p2 σ (a30_1, a30_2))
    refine V_iload (pc := 30) dX12_leavesFootprints_30 rfl ?_
    refine V_iconst (pc := 32) dX12_leavesFootprints_32 ic_4 ?_
    refine V_icmp_lt (pc := 33) (tgt := 66) dX12_leavesFootprints_33 (by decide +kernel) ?_ ?_
    · refine V_exit r30 ?_
      refine V_aload_n (pc := 66) dX12_leavesFootprints_66 rfl rfl ?_
      refine V_getr (pc := 67) (t := 172) fk_X12_13 rfl dX12_leavesFootprints_67 kc_171 rf_12_1_171 ?_
      refine V_sipush (pc := 70) dX12_leavesFootprints_70 sp_234 ?_
      refine V_aload_n (pc := 73) dX12_leavesFootprints_73 rfl rfl ?_
      refine V_getr (pc := 74) (t := 172) fk_X12_13 rfl dX12_leavesFootprints_74 kc_171 rf_12_1_171 ?_
      refine V_iconst (pc := 77) dX12_leavesFootprints_77 ic_3 ?_
      refine V_ialdC (pc := 78) (n := 2172) dX12_leavesFootprints_78 kc_172 lc_172 inb_3_2172 ?_
      refine V_iastC (pc := 79) (n := 2172) dX12_leavesFootprints_79 kc_172 lc_172 inb_234_2172 (fun s79 => ?_)
      refine V_aload_n (pc := 80) dX12_leavesFootprints_80 rfl rfl ?_
      refine V_getr (pc := 81) (t := 172) fk_X12_13 rfl dX12_leavesFootprints_81 kc_171 rf_12_1_171 ?_
      refine V_sipush (pc := 84) dX12_leavesFootprints_84 sp_235 ?_
      refine V_iload_n (pc := 87) dX12_leavesFootprints_87 rfl rfl ?_
      refine V_iastC (pc := 88) (n := 2172) dX12_leavesFootprints_88 kc_172 lc_172 inb_235_2172 (fun s88 => ?_)
      refine V_aload_n (pc := 89) dX12_leavesFootprints_89 rfl rfl ?_
      refine V_getr (pc := 90) (t := 172) fk_X12_13 rfl dX12_leavesFootprints_90 kc_171 rf_12_1_171 ?_
      refine V_sipush (pc := 93) dX12_leavesFootprints_93 sp_236 ?_
      refine V_iload_n (pc := 96) dX12_leavesFootprints_96 rfl rfl ?_
      refine V_iastC (pc := 97) (n := 2172) dX12_leavesFootprints_97 kc_172 lc_172 inb_236_2172 (fun s97 => ?_)
      refine V_aload_n (pc := 98) dX12_leavesFootprints_98 rfl rfl ?_
      refine V_getr (pc := 99) (t := 172) fk_X12_13 rfl dX12_leavesFootprints_99 kc_171 rf_12_1_171 ?_
      refine V_sipush (pc := 102) dX12_leavesFootprints_102 sp_237 ?_
      refine V_aload_n (pc := 105) dX12_leavesFootprints_105 rfl rfl ?_
      refine V_iload_n (pc := 106) dX12_leavesFootprints_106 rfl rfl ?_
      refine V_iconst (pc := 107) dX12_leavesFootprints_107 ic_0 ?_
      refine V_callVpi (pc := 108) (As := [.int p1, .int (0 : Int32)]) (rest := [.int (237 : Int32), .ref (wB w + 172)]) (c_X12_of w p1 (0 : Int32) s97) cw_X12_73 rfl rfl dX12_leavesFootprints_108 kc_171 ci_12 ⟨Nat.le_of_ble_eq_true rfl, Nat.le_of_ble_eq_true rfl⟩ rfl rfl (Nat.le_of_ble_eq_true rfl) (Nat.le_of_ble_eq_true rfl) (Nat.le_of_ble_eq_true rfl) rfl (fun q108 => ?_)
      refine V_iastC (pc := 111) (n := 2172) dX12_leavesFootprints_111 kc_172 lc_172 inb_237_2172 (fun s111 => ?_)
      refine V_aload_n (pc := 112) dX12_leavesFootprints_112 rfl rfl ?_
      refine V_getr (pc := 113) (t := 172) fk_X12_13 rfl dX12_leavesFootprints_113 kc_171 rf_12_1_171 ?_
      refine V_bipush (pc := 116) dX12_leavesFootprints_116 bp_8 ?_
      refine V_bipush (pc := 118) dX12_leavesFootprints_118 bp_60 ?_
      refine V_aload_n (pc := 120) dX12_leavesFootprints_120 rfl rfl ?_
      refine V_getr (pc := 121) (t := 172) fk_X12_13 rfl dX12_leavesFootprints_121 kc_171 rf_12_1_171 ?_
      refine V_bipush (pc := 124) dX12_leavesFootprints_124 bp_8 ?_
      refine V_ialdC (pc := 126) (n := 2172) dX12_leavesFootprints_126 kc_172 lc_172 inb_8_2172 ?_
      refine V_iconst (pc := 127) dX12_leavesFootprints_127 ic_1 ?_
      refine V_iadd (pc := 128) dX12_leavesFootprints_128 ?_
      refine V_mmin (pc := 129) dX12_leavesFootprints_129 rfl mw_X12_283 (Nat.le_of_ble_eq_true rfl) (Nat.le_of_ble_eq_true rfl) (Nat.le_of_ble_eq_true rfl) (Nat.le_of_ble_eq_true rfl) ?_
      refine V_iastC (pc := 132) (n := 2172) dX12_leavesFootprints_132 kc_172 lc_172 inb_8_2172 (fun s132 => ?_)
      refine V_aload_n (pc := 133) dX12_leavesFootprints_133 rfl rfl ?_
      refine V_getr (pc := 134) (t := 172) fk_X12_13 rfl dX12_leavesFootprints_134 kc_171 rf_12_1_171 ?_
      refine V_bipush (pc := 137) dX12_leavesFootprints_137 bp_7 ?_
      refine V_dup2 (pc := 139) dX12_leavesFootprints_139 rfl rfl ?_
      refine V_ialdC (pc := 140) (n := 2172) dX12_leavesFootprints_140 kc_172 lc_172 inb_7_2172 ?_
      refine V_iconst (pc := 141) dX12_leavesFootprints_141 ic_1 ?_
      refine V_iadd (pc := 142) dX12_leavesFootprints_142 ?_
      refine V_iastC (pc := 143) (n := 2172) dX12_leavesFootprints_143 kc_172 lc_172 inb_7_2172 (fun s143 => ?_)
      exact V_ret (pc := 144) dX12_leavesFootprints_144 rfl (hk := fun h => h)
    · refine V_aload_n (pc := 36) dX12_leavesFootprints_36 rfl rfl ?_
      refine V_getr (pc := 37) (t := 172) fk_X12_13 rfl dX12_leavesFootprints_37 kc_171 rf_12_1_171 ?_
      refine V_sipush (pc := 40) dX12_leavesFootprints_40 sp_234 ?_
      refine V_iload (pc := 43) dX12_leavesFootprints_43 rfl ?_
      refine V_iadd (pc := 45) dX12_leavesFootprints_45 ?_
      refine V_aload_n (pc := 46) dX12_leavesFootprints_46 rfl rfl ?_
      refine V_getr (pc := 47) (t := 172) fk_X12_13 rfl dX12_leavesFootprints_47 kc_171 rf_12_1_171 ?_
      refine V_sipush (pc := 50) dX12_leavesFootprints_50 sp_234 ?_
      refine V_iload (pc := 53) dX12_leavesFootprints_53 rfl ?_
      refine V_iadd (pc := 55) dX12_leavesFootprints_55 ?_
      refine V_iconst (pc := 56) dX12_leavesFootprints_56 ic_4 ?_
      refine V_isub (pc := 57) dX12_leavesFootprints_57 ?_
      refine V_iald (pc := 58) (n := 2172) dX12_leavesFootprints_58 kc_172 lc_172 ?_
      refine V_iast (pc := 59) (n := 2172) dX12_leavesFootprints_59 kc_172 lc_172 (fun s59 => ?_)
      refine V_iincC (pc := 60) (vs' := [some (.ref (wB w + 171)), some (.int p1), some (.int p2), none, some (.int (a30_1 + (-1 : Int32)))]) dX12_leavesFootprints_60 (Nat.le_of_ble_eq_true rfl) rfl ic_m1 rfl ?_
      refine V_goto (pc := 63) (tgt := 30) dX12_leavesFootprints_63 (by decide +kernel) ?_
      exact V_back (b30 ((a30_1 + (-1 : Int32)), s59))
  refine V_aload_n (pc := 0) dX12_leavesFootprints_0 rfl rfl ?_
  refine V_iload_n (pc := 1) dX12_leavesFootprints_1 rfl rfl ?_
  refine V_iload_n (pc := 2) dX12_leavesFootprints_2 rfl rfl ?_
  refine V_iconst (pc := 3) dX12_leavesFootprints_3 ic_0 ?_
  refine V_iconst (pc := 4) dX12_leavesFootprints_4 ic_0 ?_
  refine V_callVv (pc := 5) (As := [.int p1, .int p2, .int (0 : Int32), .int (0 : Int32)]) (rest := []) (c_X12_looks w p1 p2 (0 : Int32) (0 : Int32) σ) cw_X12_303 rfl rfl dX12_leavesFootprints_5 kc_171 ci_12 ⟨Nat.le_of_ble_eq_true rfl, Nat.le_of_ble_eq_true rfl⟩ rfl rfl (Nat.le_of_ble_eq_true rfl) (Nat.le_of_ble_eq_true rfl) (Nat.le_of_ble_eq_true rfl) rfl (fun q5 => ?_)
  refine V_aload_n (pc := 8) dX12_leavesFootprints_8 rfl rfl ?_
  refine V_callVi (pc := 9) (As := []) (rest := []) (c_X12_suspectsBy w n  q5.2) cw_X12_309 rfl rfl dX12_leavesFootprints_9 kc_171 ci_12 ⟨Nat.le_of_ble_eq_true rfl, Nat.le_of_ble_eq_true rfl⟩ rfl rfl (Nat.le_of_ble_eq_true rfl) (Nat.le_of_ble_eq_true rfl) (Nat.le_of_ble_eq_true rfl) rfl (fun q9 => ?_)
  refine V_istore_n (pc := 12) (vs' := [some (.ref (wB w + 171)), some (.int p1), some (.int p2), some (.int q9.1), none]) dX12_leavesFootprints_12 rfl (Nat.le_of_ble_eq_true rfl) (Nat.le_of_ble_eq_true rfl) rfl ?_
  refine V_aload_n (pc := 13) dX12_leavesFootprints_13 rfl rfl ?_
  refine V_iload_n (pc := 14) dX12_leavesFootprints_14 rfl rfl ?_
  refine V_iload_n (pc := 15) dX12_leavesFootprints_15 rfl rfl ?_
  refine V_callVv (pc := 16) (As := [.int p1, .int q9.1]) (rest := []) (c_X12_suspects w p1 q9.1 q9.2) cw_X12_400 rfl rfl dX12_leavesFootprints_16 kc_171 ci_12 ⟨Nat.le_of_ble_eq_true rfl, Nat.le_of_ble_eq_true rfl⟩ rfl rfl (Nat.le_of_ble_eq_true rfl) (Nat.le_of_ble_eq_true rfl) (Nat.le_of_ble_eq_true rfl) rfl (fun q16 => ?_)
  refine V_aload_n (pc := 19) dX12_leavesFootprints_19 rfl rfl ?_
  refine V_iload_n (pc := 20) dX12_leavesFootprints_20 rfl rfl ?_
  refine V_iload_n (pc := 21) dX12_leavesFootprints_21 rfl rfl ?_
  refine V_callVv (pc := 22) (As := [.int p2, .int q9.1]) (rest := []) (c_X12_suspects w p2 q9.1 q16.2) cw_X12_400 rfl rfl dX12_leavesFootprints_22 kc_171 ci_12 ⟨Nat.le_of_ble_eq_true rfl, Nat.le_of_ble_eq_true rfl⟩ rfl rfl (Nat.le_of_ble_eq_true rfl) (Nat.le_of_ble_eq_true rfl) (Nat.le_of_ble_eq_true rfl) rfl (fun q22 => ?_)
  refine V_sipush (pc := 25) dX12_leavesFootprints_25 sp_239 ?_
  refine V_istore (pc := 28) (vs' := [some (.ref (wB w + 171)), some (.int p1), some (.int p2), some (.int q9.1), some (.int (239 : Int32))]) dX12_leavesFootprints_28 (Nat.le_of_ble_eq_true rfl) (Nat.le_of_ble_eq_true rfl) rfl ?_
  refine V_sub (vs' := [some (.ref (wB w + 171)), some (.int p1), some (.int p2), none, some (.int (239 : Int32))]) (show vless _ _ from ⟨rfl, ⟨rfl, ⟨rfl, ⟨rfl, trivial⟩⟩⟩⟩) rfl ?_
  exact hL30 n ((239 : Int32), q22.2)
def J_X12_oneDay_180 (n : Nat) (v2 : Int32) (v3 : Int32) (v4 : Int32) (σ : MS) : Option ((Int32 × MS) ⊕ ((Int32 × MS) ⊕ (Int32 × MS))) := some (.inl ((v4 + (1 : Int32)), σ))
def L_X12_oneDay_88 (n : Nat) (v2 : Int32) (v3 : Int32) (σ : MS) (a88 : Int32 × MS) : Option ((Int32 × MS) ⊕ ((Int32 × MS) ⊕ (Int32 × MS))) := ((f_X12_people  a88.2).bind (fun q91 => (if q91 ≤ a88.1 then (some (.inl ((v3 + (1 : Int32)), a88.2))).map Sum.inr else ((f_X12_of v3 (0 : Int32) a88.2).bind (fun q100 => ((f_X12_of a88.1 (0 : Int32) a88.2).bind (fun q107 => (if q100 = q107 then ((f_X12_at v3 (3 : Int32) a88.2).bind (fun q122 => (if inb q122 2172 then (if inb q122 2172 then ltM (mu a88.2 172 (ix q122) ((a88.2 172 (ix q122)) ||| (shlI (1 : Int32) a88.1))) (fun s132 => ((f_X12_at a88.1 (3 : Int32) s132).bind (fun q140 => (if inb q140 2172 then (if inb q140 2172 then ltM (mu s132 172 (ix q140) ((s132 172 (ix q140)) ||| (shlI (1 : Int32) v3))) (fun s149 => ((f_X12_isSecret v3 a88.1 s149).bind (fun q154 => (if q154 = 0 then J_X12_oneDay_180 n v2 v3 a88.1 s149 else ((f_X12_of v3 (0 : Int32) s149).bind (fun q164 => ((f_X12_hasFlour q164 s149).bind (fun q167 => (if q167 = 0 then J_X12_oneDay_180 n v2 v3 a88.1 s149 else ((f_X12_leavesFootprints n v3 a88.1 s149).bind (fun q177 => J_X12_oneDay_180 n v2 v3 a88.1 q177.2))))))))))) else none) else none)))) else none) else none))) else J_X12_oneDay_180 n v2 v3 a88.1 a88.2))))))))
def L_X12_oneDay_75 (n : Nat) (v2 : Int32) (σ : MS) (a75 : Int32 × MS) : Option ((Int32 × MS) ⊕ (Int32 × MS)) := ((f_X12_people  a75.2).bind (fun q77 => (if q77 ≤ a75.1 then ((ltM (mu a75.2 172 3 (mnI (9999 : Int32) ((a75.2 172 3) + (1 : Int32)))) (fun s211 => some (((s211 172 7) - v2), s211)))).map Sum.inr else itr (L_X12_oneDay_88 n v2 a75.1 σ) n ((a75.1 + (1 : Int32)), a75.2))))
def J_X12_oneDay_67 (n : Nat) (v1 : Int32) (v2 : Int32) (v3 : Int32) (σ : MS) : Option ((Int32 × MS) ⊕ (Int32 × MS)) := some (.inl ((v3 + (1 : Int32)), σ))
def J_X12_oneDay_50 (n : Nat) (v1 : Int32) (v2 : Int32) (v3 : Int32) (v4 : Int32) (σ : MS) : Option ((Int32 × MS) ⊕ (Int32 × MS)) := ((f_X12_at v3 (0 : Int32) σ).bind (fun q56 => ((f_X12_of v4 (0 : Int32) σ).bind (fun q63 => (if inb q56 2172 then ltM (mu σ 172 (ix q56) q63) (fun s66 => J_X12_oneDay_67 n v1 v2 v3 s66) else none)))))
def L_X12_oneDay_10 (n : Nat) (v1 : Int32) (v2 : Int32) (σ : MS) (a10 : Int32 × MS) : Option ((Int32 × MS) ⊕ (Int32 × MS)) := ((f_X12_people  a10.2).bind (fun q12 => (if q12 ≤ a10.1 then (itr (L_X12_oneDay_75 n v2 σ) n ((0 : Int32), a10.2)).map Sum.inr else ((f_X12_mostOf n a10.1 a10.2).bind (fun q20 => (if q20 < 0 then J_X12_oneDay_67 n v1 v2 a10.1 a10.2 else (if v1 = 0 then ((f_X12_drawn (10 : Int32) a10.2).bind (fun q37 => ((f_X12_bondOf a10.1 q20 q37.2).bind (fun q44 => (if q44 ≤ q37.1 then J_X12_oneDay_67 n v1 v2 a10.1 q37.2 else J_X12_oneDay_50 n v1 v2 a10.1 q20 q37.2))))) else J_X12_oneDay_50 n v1 v2 a10.1 q20 a10.2)))))))
def f_X12_oneDay (n : Nat) (p1 : Int32) (σ : MS) : Option (Int32 × MS) := itr (L_X12_oneDay_10 n p1 (σ 172 7) σ) n ((0 : Int32), σ)
set_option maxRecDepth 20000 in
set_option maxHeartbeats 2000000 in
theorem c_X12_oneDay (w : TG) (n : Nat) (p1 : Int32) (σ : MS) : MC m_X12_oneDay w [.ref (wB w + 171), .int p1] σ (f_X12_oneDay n p1 σ) := by
  refine V_meth (by decide +kernel) (Nat.le_of_ble_eq_true rfl) (by intro v hv; simp only [List.mem_cons, List.not_mem_nil, or_false] at hv; rcases hv with rfl | rfl <;> rfl) (fun g x => ?_)
  show VV m_X12_oneDay w g 0 0 (QM m_X12_oneDay w g x) (fun b : Int32 × MS => b = x) 0 [some (.ref (wB w + 171)), some (.int p1), none, none, none] [] σ (f_X12_oneDay n p1 σ)
  have hL75 : ∀ (v2 : Int32) (n0 : Nat) (a : Int32 × MS), VV m_X12_oneDay w g 0 0 (QM m_X12_oneDay w g x) (fun b : Int32 × MS => b = x) 75 [some (.ref (wB w + 171)), none, some (.int v2), some (.int a.1), none] [] a.2 (itr (L_X12_oneDay_75 n v2 σ) n0 a) := by
    intro v2
    refine V_itr (vf := fun a : Int32 × MS => [some (.ref (wB w + 171)), none, some (.int v2), some (.int a.1), none]) (sf := fun a : Int32 × MS => a.2) (fun κ75 b75 r75 a75 => ?_)
    obtain ⟨a75_1, a75_2⟩ := a75
    show VV m_X12_oneDay w g 0 0 (QM m_X12_oneDay w g x) κ75 75 [some (.ref (wB w + 171)), none, some (.int v2), some (.int a75_1), none] [] a75_2 (L_X12_oneDay_75 n v2 σ (a75_1, a75_2))
    have hL88 : ∀ (v3 : Int32) (n0 : Nat) (a : Int32 × MS), VV m_X12_oneDay w g 0 0 (QM m_X12_oneDay w g x) κ75 88 [some (.ref (wB w + 171)), none, some (.int v2), some (.int v3), some (.int a.1)] [] a.2 (itr (L_X12_oneDay_88 n v2 v3 σ) n0 a) := by
      intro v3
      refine V_itr (vf := fun a : Int32 × MS => [some (.ref (wB w + 171)), none, some (.int v2), some (.int v3), some (.int a.1)]) (sf := fun a : Int32 × MS => a.2) (fun κ88 b88 r88 a88 => ?_)
      obtain ⟨a88_1, a88_2⟩ := a88
      show VV m_X12_oneDay w g 0 0 (QM m_X12_oneDay w g x) κ88 88 [some (.ref (wB w + 171)), none, some (.int v2), some (.int v3), some (.int a88_1)] [] a88_2 (L_X12_oneDay_88 n v2 v3 σ (a88_1, a88_2))
      have hJ180 : ∀ (v4 : Int32) (σ : MS), VV m_X12_oneDay w g 0 0 (QM m_X12_oneDay w g x) κ88 180 [some (.ref (wB w + 171)), none, some (.int v2), some (.int v3), some (.int v4)] [] σ (J_X12_oneDay_180 n v2 v3 v4 σ) := by
        intro v4 σ
        refine V_iincC (pc := 180) (vs' := [some (.ref (wB w + 171)), none, some (.int v2), some (.int v3), some (.int (v4 + (1 : Int32)))]) dX12_oneDay_180 (Nat.le_of_ble_eq_true rfl) rfl ic_1 rfl ?_
        refine V_goto (pc := 183) (tgt := 88) dX12_oneDay_183 (by decide +kernel) ?_
        exact V_back (b88 ((v4 + (1 : Int32)), σ))
      refine V_iload (pc := 88) dX12_oneDay_88 rfl ?_
      refine V_aload_n (pc := 90) dX12_oneDay_90 rfl rfl ?_
      refine V_callVpi (pc := 91) (As := []) (rest := [.int a88_1]) (c_X12_people w  a88_2) cw_X12_58 rfl rfl dX12_oneDay_91 kc_171 ci_12 ⟨Nat.le_of_ble_eq_true rfl, Nat.le_of_ble_eq_true rfl⟩ rfl rfl (Nat.le_of_ble_eq_true rfl) (Nat.le_of_ble_eq_true rfl) (Nat.le_of_ble_eq_true rfl) rfl (fun q91 => ?_)
      refine V_icmp_ge (pc := 94) (tgt := 186) dX12_oneDay_94 (by decide +kernel) ?_ ?_
      · refine V_exit r88 ?_
        refine V_iincC (pc := 186) (vs' := [some (.ref (wB w + 171)), none, some (.int v2), some (.int (v3 + (1 : Int32))), some (.int a88_1)]) dX12_oneDay_186 (Nat.le_of_ble_eq_true rfl) rfl ic_1 rfl ?_
        refine V_goto (pc := 189) (tgt := 75) dX12_oneDay_189 (by decide +kernel) ?_
        refine V_sub (vs' := [some (.ref (wB w + 171)), none, some (.int v2), some (.int (v3 + (1 : Int32))), none]) (show vless _ _ from ⟨rfl, ⟨rfl, ⟨rfl, trivial⟩⟩⟩) rfl ?_
        exact V_back (b75 ((v3 + (1 : Int32)), a88_2))
      · refine V_aload_n (pc := 97) dX12_oneDay_97 rfl rfl ?_
        refine V_iload_n (pc := 98) dX12_oneDay_98 rfl rfl ?_
        refine V_iconst (pc := 99) dX12_oneDay_99 ic_0 ?_
        refine V_callVpi (pc := 100) (As := [.int v3, .int (0 : Int32)]) (rest := []) (c_X12_of w v3 (0 : Int32) a88_2) cw_X12_73 rfl rfl dX12_oneDay_100 kc_171 ci_12 ⟨Nat.le_of_ble_eq_true rfl, Nat.le_of_ble_eq_true rfl⟩ rfl rfl (Nat.le_of_ble_eq_true rfl) (Nat.le_of_ble_eq_true rfl) (Nat.le_of_ble_eq_true rfl) rfl (fun q100 => ?_)
        refine V_aload_n (pc := 103) dX12_oneDay_103 rfl rfl ?_
        refine V_iload (pc := 104) dX12_oneDay_104 rfl ?_
        refine V_iconst (pc := 106) dX12_oneDay_106 ic_0 ?_
        refine V_callVpi (pc := 107) (As := [.int a88_1, .int (0 : Int32)]) (rest := [.int q100]) (c_X12_of w a88_1 (0 : Int32) a88_2) cw_X12_73 rfl rfl dX12_oneDay_107 kc_171 ci_12 ⟨Nat.le_of_ble_eq_true rfl, Nat.le_of_ble_eq_true rfl⟩ rfl rfl (Nat.le_of_ble_eq_true rfl) (Nat.le_of_ble_eq_true rfl) (Nat.le_of_ble_eq_true rfl) rfl (fun q107 => ?_)
        refine V_icmp_eq (pc := 110) (tgt := 116) dX12_oneDay_110 (by decide +kernel) ?_ ?_
        · refine V_aload_n (pc := 116) dX12_oneDay_116 rfl rfl ?_
          refine V_getr (pc := 117) (t := 172) fk_X12_13 rfl dX12_oneDay_117 kc_171 rf_12_1_171 ?_
          refine V_iload_n (pc := 120) dX12_oneDay_120 rfl rfl ?_
          refine V_iconst (pc := 121) dX12_oneDay_121 ic_3 ?_
          refine V_callSpi (pc := 122) (As := [.int v3, .int (3 : Int32)]) (rest := [.ref (wB w + 172)]) (c_X12_at w v3 (3 : Int32) a88_2) cs_X12_62 rfl rfl dX12_oneDay_122 ⟨Nat.le_of_ble_eq_true rfl, Nat.le_of_ble_eq_true rfl⟩ rfl rfl (Nat.le_of_ble_eq_true rfl) (Nat.le_of_ble_eq_true rfl) (Nat.le_of_ble_eq_true rfl) rfl (fun q122 => ?_)
          refine V_dup2 (pc := 125) dX12_oneDay_125 rfl rfl ?_
          refine V_iald (pc := 126) (n := 2172) dX12_oneDay_126 kc_172 lc_172 ?_
          refine V_iconst (pc := 127) dX12_oneDay_127 ic_1 ?_
          refine V_iload (pc := 128) dX12_oneDay_128 rfl ?_
          refine V_ishl (pc := 130) dX12_oneDay_130 ?_
          refine V_ior (pc := 131) dX12_oneDay_131 ?_
          refine V_iast (pc := 132) (n := 2172) dX12_oneDay_132 kc_172 lc_172 (fun s132 => ?_)
          refine V_aload_n (pc := 133) dX12_oneDay_133 rfl rfl ?_
          refine V_getr (pc := 134) (t := 172) fk_X12_13 rfl dX12_oneDay_134 kc_171 rf_12_1_171 ?_
          refine V_iload (pc := 137) dX12_oneDay_137 rfl ?_
          refine V_iconst (pc := 139) dX12_oneDay_139 ic_3 ?_
          refine V_callSpi (pc := 140) (As := [.int a88_1, .int (3 : Int32)]) (rest := [.ref (wB w + 172)]) (c_X12_at w a88_1 (3 : Int32) s132) cs_X12_62 rfl rfl dX12_oneDay_140 ⟨Nat.le_of_ble_eq_true rfl, Nat.le_of_ble_eq_true rfl⟩ rfl rfl (Nat.le_of_ble_eq_true rfl) (Nat.le_of_ble_eq_true rfl) (Nat.le_of_ble_eq_true rfl) rfl (fun q140 => ?_)
          refine V_dup2 (pc := 143) dX12_oneDay_143 rfl rfl ?_
          refine V_iald (pc := 144) (n := 2172) dX12_oneDay_144 kc_172 lc_172 ?_
          refine V_iconst (pc := 145) dX12_oneDay_145 ic_1 ?_
          refine V_iload_n (pc := 146) dX12_oneDay_146 rfl rfl ?_
          refine V_ishl (pc := 147) dX12_oneDay_147 ?_
          refine V_ior (pc := 148) dX12_oneDay_148 ?_
          refine V_iast (pc := 149) (n := 2172) dX12_oneDay_149 kc_172 lc_172 (fun s149 => ?_)
          refine V_aload_n (pc := 150) dX12_oneDay_150 rfl rfl ?_
          refine V_iload_n (pc := 151) dX12_oneDay_151 rfl rfl ?_
          refine V_iload (pc := 152) dX12_oneDay_152 rfl ?_
          refine V_callVpi (pc := 154) (As := [.int v3, .int a88_1]) (rest := []) (c_X12_isSecret w v3 a88_1 s149) cw_X12_372 rfl rfl dX12_oneDay_154 kc_171 ci_12 ⟨Nat.le_of_ble_eq_true rfl, Nat.le_of_ble_eq_true rfl⟩ rfl rfl (Nat.le_of_ble_eq_true rfl) (Nat.le_of_ble_eq_true rfl) (Nat.le_of_ble_eq_true rfl) rfl (fun q154 => ?_)
          refine V_if_eq (pc := 157) (tgt := 180) dX12_oneDay_157 (by decide +kernel) ?_ ?_
          · exact hJ180 a88_1 s149
          · refine V_aload_n (pc := 160) dX12_oneDay_160 rfl rfl ?_
            refine V_aload_n (pc := 161) dX12_oneDay_161 rfl rfl ?_
            refine V_iload_n (pc := 162) dX12_oneDay_162 rfl rfl ?_
            refine V_iconst (pc := 163) dX12_oneDay_163 ic_0 ?_
            refine V_callVpi (pc := 164) (As := [.int v3, .int (0 : Int32)]) (rest := [.ref (wB w + 171)]) (c_X12_of w v3 (0 : Int32) s149) cw_X12_73 rfl rfl dX12_oneDay_164 kc_171 ci_12 ⟨Nat.le_of_ble_eq_true rfl, Nat.le_of_ble_eq_true rfl⟩ rfl rfl (Nat.le_of_ble_eq_true rfl) (Nat.le_of_ble_eq_true rfl) (Nat.le_of_ble_eq_true rfl) rfl (fun q164 => ?_)
            refine V_callVpi (pc := 167) (As := [.int q164]) (rest := []) (c_X12_hasFlour w q164 s149) cw_X12_397 rfl rfl dX12_oneDay_167 kc_171 ci_12 ⟨Nat.le_of_ble_eq_true rfl, Nat.le_of_ble_eq_true rfl⟩ rfl rfl (Nat.le_of_ble_eq_true rfl) (Nat.le_of_ble_eq_true rfl) (Nat.le_of_ble_eq_true rfl) rfl (fun q167 => ?_)
            refine V_if_eq (pc := 170) (tgt := 180) dX12_oneDay_170 (by decide +kernel) ?_ ?_
            · exact hJ180 a88_1 s149
            · refine V_aload_n (pc := 173) dX12_oneDay_173 rfl rfl ?_
              refine V_iload_n (pc := 174) dX12_oneDay_174 rfl rfl ?_
              refine V_iload (pc := 175) dX12_oneDay_175 rfl ?_
              refine V_callVv (pc := 177) (As := [.int v3, .int a88_1]) (rest := []) (c_X12_leavesFootprints w n v3 a88_1 s149) cw_X12_406 rfl rfl dX12_oneDay_177 kc_171 ci_12 ⟨Nat.le_of_ble_eq_true rfl, Nat.le_of_ble_eq_true rfl⟩ rfl rfl (Nat.le_of_ble_eq_true rfl) (Nat.le_of_ble_eq_true rfl) (Nat.le_of_ble_eq_true rfl) rfl (fun q177 => ?_)
              exact hJ180 a88_1 q177.2
        · refine V_goto (pc := 113) (tgt := 180) dX12_oneDay_113 (by decide +kernel) ?_
          exact hJ180 a88_1 a88_2
    refine V_iload_n (pc := 75) dX12_oneDay_75 rfl rfl ?_
    refine V_aload_n (pc := 76) dX12_oneDay_76 rfl rfl ?_
    refine V_callVpi (pc := 77) (As := []) (rest := [.int a75_1]) (c_X12_people w  a75_2) cw_X12_58 rfl rfl dX12_oneDay_77 kc_171 ci_12 ⟨Nat.le_of_ble_eq_true rfl, Nat.le_of_ble_eq_true rfl⟩ rfl rfl (Nat.le_of_ble_eq_true rfl) (Nat.le_of_ble_eq_true rfl) (Nat.le_of_ble_eq_true rfl) rfl (fun q77 => ?_)
    refine V_icmp_ge (pc := 80) (tgt := 192) dX12_oneDay_80 (by decide +kernel) ?_ ?_
    · refine V_exit r75 ?_
      refine V_aload_n (pc := 192) dX12_oneDay_192 rfl rfl ?_
      refine V_getr (pc := 193) (t := 172) fk_X12_13 rfl dX12_oneDay_193 kc_171 rf_12_1_171 ?_
      refine V_iconst (pc := 196) dX12_oneDay_196 ic_3 ?_
      refine V_sipush (pc := 197) dX12_oneDay_197 sp_9999 ?_
      refine V_aload_n (pc := 200) dX12_oneDay_200 rfl rfl ?_
      refine V_getr (pc := 201) (t := 172) fk_X12_13 rfl dX12_oneDay_201 kc_171 rf_12_1_171 ?_
      refine V_iconst (pc := 204) dX12_oneDay_204 ic_3 ?_
      refine V_ialdC (pc := 205) (n := 2172) dX12_oneDay_205 kc_172 lc_172 inb_3_2172 ?_
      refine V_iconst (pc := 206) dX12_oneDay_206 ic_1 ?_
      refine V_iadd (pc := 207) dX12_oneDay_207 ?_
      refine V_mmin (pc := 208) dX12_oneDay_208 rfl mw_X12_283 (Nat.le_of_ble_eq_true rfl) (Nat.le_of_ble_eq_true rfl) (Nat.le_of_ble_eq_true rfl) (Nat.le_of_ble_eq_true rfl) ?_
      refine V_iastC (pc := 211) (n := 2172) dX12_oneDay_211 kc_172 lc_172 inb_3_2172 (fun s211 => ?_)
      refine V_aload_n (pc := 212) dX12_oneDay_212 rfl rfl ?_
      refine V_getr (pc := 213) (t := 172) fk_X12_13 rfl dX12_oneDay_213 kc_171 rf_12_1_171 ?_
      refine V_bipush (pc := 216) dX12_oneDay_216 bp_7 ?_
      refine V_ialdC (pc := 218) (n := 2172) dX12_oneDay_218 kc_172 lc_172 inb_7_2172 ?_
      refine V_iload_n (pc := 219) dX12_oneDay_219 rfl rfl ?_
      refine V_isub (pc := 220) dX12_oneDay_220 ?_
      exact V_ireti (pc := 221) dX12_oneDay_221 rfl (hk := fun h => h)
    · refine V_iload_n (pc := 83) dX12_oneDay_83 rfl rfl ?_
      refine V_iconst (pc := 84) dX12_oneDay_84 ic_1 ?_
      refine V_iadd (pc := 85) dX12_oneDay_85 ?_
      refine V_istore (pc := 86) (vs' := [some (.ref (wB w + 171)), none, some (.int v2), some (.int a75_1), some (.int (a75_1 + (1 : Int32)))]) dX12_oneDay_86 (Nat.le_of_ble_eq_true rfl) (Nat.le_of_ble_eq_true rfl) rfl ?_
      exact hL88 a75_1 n ((a75_1 + (1 : Int32)), a75_2)
  have hL10 : ∀ (v2 : Int32) (n0 : Nat) (a : Int32 × MS), VV m_X12_oneDay w g 0 0 (QM m_X12_oneDay w g x) (fun b : Int32 × MS => b = x) 10 [some (.ref (wB w + 171)), some (.int p1), some (.int v2), some (.int a.1), none] [] a.2 (itr (L_X12_oneDay_10 n p1 v2 σ) n0 a) := by
    intro v2
    refine V_itr (vf := fun a : Int32 × MS => [some (.ref (wB w + 171)), some (.int p1), some (.int v2), some (.int a.1), none]) (sf := fun a : Int32 × MS => a.2) (fun κ10 b10 r10 a10 => ?_)
    obtain ⟨a10_1, a10_2⟩ := a10
    show VV m_X12_oneDay w g 0 0 (QM m_X12_oneDay w g x) κ10 10 [some (.ref (wB w + 171)), some (.int p1), some (.int v2), some (.int a10_1), none] [] a10_2 (L_X12_oneDay_10 n p1 v2 σ (a10_1, a10_2))
    have hJ67 : ∀ (v3 : Int32) (σ : MS), VV m_X12_oneDay w g 0 0 (QM m_X12_oneDay w g x) κ10 67 [some (.ref (wB w + 171)), some (.int p1), some (.int v2), some (.int v3), none] [] σ (J_X12_oneDay_67 n p1 v2 v3 σ) := by
      intro v3 σ
      refine V_iincC (pc := 67) (vs' := [some (.ref (wB w + 171)), some (.int p1), some (.int v2), some (.int (v3 + (1 : Int32))), none]) dX12_oneDay_67 (Nat.le_of_ble_eq_true rfl) rfl ic_1 rfl ?_
      refine V_goto (pc := 70) (tgt := 10) dX12_oneDay_70 (by decide +kernel) ?_
      exact V_back (b10 ((v3 + (1 : Int32)), σ))
    have hJ50 : ∀ (v3 : Int32) (v4 : Int32) (σ : MS), VV m_X12_oneDay w g 0 0 (QM m_X12_oneDay w g x) κ10 50 [some (.ref (wB w + 171)), some (.int p1), some (.int v2), some (.int v3), some (.int v4)] [] σ (J_X12_oneDay_50 n p1 v2 v3 v4 σ) := by
      intro v3 v4 σ
      refine V_aload_n (pc := 50) dX12_oneDay_50 rfl rfl ?_
      refine V_getr (pc := 51) (t := 172) fk_X12_13 rfl dX12_oneDay_51 kc_171 rf_12_1_171 ?_
      refine V_iload_n (pc := 54) dX12_oneDay_54 rfl rfl ?_
      refine V_iconst (pc := 55) dX12_oneDay_55 ic_0 ?_
      refine V_callSpi (pc := 56) (As := [.int v3, .int (0 : Int32)]) (rest := [.ref (wB w + 172)]) (c_X12_at w v3 (0 : Int32) σ) cs_X12_62 rfl rfl dX12_oneDay_56 ⟨Nat.le_of_ble_eq_true rfl, Nat.le_of_ble_eq_true rfl⟩ rfl rfl (Nat.le_of_ble_eq_true rfl) (Nat.le_of_ble_eq_true rfl) (Nat.le_of_ble_eq_true rfl) rfl (fun q56 => ?_)
      refine V_aload_n (pc := 59) dX12_oneDay_59 rfl rfl ?_
      refine V_iload (pc := 60) dX12_oneDay_60 rfl ?_
      refine V_iconst (pc := 62) dX12_oneDay_62 ic_0 ?_
      refine V_callVpi (pc := 63) (As := [.int v4, .int (0 : Int32)]) (rest := [.int q56, .ref (wB w + 172)]) (c_X12_of w v4 (0 : Int32) σ) cw_X12_73 rfl rfl dX12_oneDay_63 kc_171 ci_12 ⟨Nat.le_of_ble_eq_true rfl, Nat.le_of_ble_eq_true rfl⟩ rfl rfl (Nat.le_of_ble_eq_true rfl) (Nat.le_of_ble_eq_true rfl) (Nat.le_of_ble_eq_true rfl) rfl (fun q63 => ?_)
      refine V_iast (pc := 66) (n := 2172) dX12_oneDay_66 kc_172 lc_172 (fun s66 => ?_)
      refine V_sub (vs' := [some (.ref (wB w + 171)), some (.int p1), some (.int v2), some (.int v3), none]) (show vless _ _ from ⟨rfl, ⟨rfl, ⟨rfl, ⟨rfl, trivial⟩⟩⟩⟩) rfl ?_
      exact hJ67 v3 s66
    refine V_iload_n (pc := 10) dX12_oneDay_10 rfl rfl ?_
    refine V_aload_n (pc := 11) dX12_oneDay_11 rfl rfl ?_
    refine V_callVpi (pc := 12) (As := []) (rest := [.int a10_1]) (c_X12_people w  a10_2) cw_X12_58 rfl rfl dX12_oneDay_12 kc_171 ci_12 ⟨Nat.le_of_ble_eq_true rfl, Nat.le_of_ble_eq_true rfl⟩ rfl rfl (Nat.le_of_ble_eq_true rfl) (Nat.le_of_ble_eq_true rfl) (Nat.le_of_ble_eq_true rfl) rfl (fun q12 => ?_)
    refine V_icmp_ge (pc := 15) (tgt := 73) dX12_oneDay_15 (by decide +kernel) ?_ ?_
    · refine V_exit r10 ?_
      refine V_iconst (pc := 73) dX12_oneDay_73 ic_0 ?_
      refine V_istore_n (pc := 74) (vs' := [some (.ref (wB w + 171)), some (.int p1), some (.int v2), some (.int (0 : Int32)), none]) dX12_oneDay_74 rfl (Nat.le_of_ble_eq_true rfl) (Nat.le_of_ble_eq_true rfl) rfl ?_
      refine V_sub (vs' := [some (.ref (wB w + 171)), none, some (.int v2), some (.int (0 : Int32)), none]) (show vless _ _ from ⟨rfl, ⟨rfl, ⟨rfl, trivial⟩⟩⟩) rfl ?_
      exact hL75 v2 n ((0 : Int32), a10_2)
    · refine V_aload_n (pc := 18) dX12_oneDay_18 rfl rfl ?_
      refine V_iload_n (pc := 19) dX12_oneDay_19 rfl rfl ?_
      refine V_callVpi (pc := 20) (As := [.int a10_1]) (rest := []) (c_X12_mostOf w n a10_1 a10_2) cw_X12_354 rfl rfl dX12_oneDay_20 kc_171 ci_12 ⟨Nat.le_of_ble_eq_true rfl, Nat.le_of_ble_eq_true rfl⟩ rfl rfl (Nat.le_of_ble_eq_true rfl) (Nat.le_of_ble_eq_true rfl) (Nat.le_of_ble_eq_true rfl) rfl (fun q20 => ?_)
      refine V_istore (pc := 23) (vs' := [some (.ref (wB w + 171)), some (.int p1), some (.int v2), some (.int a10_1), some (.int q20)]) dX12_oneDay_23 (Nat.le_of_ble_eq_true rfl) (Nat.le_of_ble_eq_true rfl) rfl ?_
      refine V_iload (pc := 25) dX12_oneDay_25 rfl ?_
      refine V_if_lt (pc := 27) (tgt := 67) dX12_oneDay_27 (by decide +kernel) ?_ ?_
      · refine V_sub (vs' := [some (.ref (wB w + 171)), some (.int p1), some (.int v2), some (.int a10_1), none]) (show vless _ _ from ⟨rfl, ⟨rfl, ⟨rfl, ⟨rfl, trivial⟩⟩⟩⟩) rfl ?_
        exact hJ67 a10_1 a10_2
      · refine V_iload_n (pc := 30) dX12_oneDay_30 rfl rfl ?_
        refine V_if_ne (pc := 31) (tgt := 50) dX12_oneDay_31 (by decide +kernel) ?_ ?_
        · exact hJ50 a10_1 q20 a10_2
        · refine V_aload_n (pc := 34) dX12_oneDay_34 rfl rfl ?_
          refine V_bipush (pc := 35) dX12_oneDay_35 bp_10 ?_
          refine V_callVi (pc := 37) (As := [.int (10 : Int32)]) (rest := []) (c_X12_drawn w (10 : Int32) a10_2) cw_X12_403 rfl rfl dX12_oneDay_37 kc_171 ci_12 ⟨Nat.le_of_ble_eq_true rfl, Nat.le_of_ble_eq_true rfl⟩ rfl rfl (Nat.le_of_ble_eq_true rfl) (Nat.le_of_ble_eq_true rfl) (Nat.le_of_ble_eq_true rfl) rfl (fun q37 => ?_)
          refine V_aload_n (pc := 40) dX12_oneDay_40 rfl rfl ?_
          refine V_iload_n (pc := 41) dX12_oneDay_41 rfl rfl ?_
          refine V_iload (pc := 42) dX12_oneDay_42 rfl ?_
          refine V_callVpi (pc := 44) (As := [.int a10_1, .int q20]) (rest := [.int q37.1]) (c_X12_bondOf w a10_1 q20 q37.2) cw_X12_315 rfl rfl dX12_oneDay_44 kc_171 ci_12 ⟨Nat.le_of_ble_eq_true rfl, Nat.le_of_ble_eq_true rfl⟩ rfl rfl (Nat.le_of_ble_eq_true rfl) (Nat.le_of_ble_eq_true rfl) (Nat.le_of_ble_eq_true rfl) rfl (fun q44 => ?_)
          refine V_icmp_ge (pc := 47) (tgt := 67) dX12_oneDay_47 (by decide +kernel) ?_ ?_
          · refine V_sub (vs' := [some (.ref (wB w + 171)), some (.int p1), some (.int v2), some (.int a10_1), none]) (show vless _ _ from ⟨rfl, ⟨rfl, ⟨rfl, ⟨rfl, trivial⟩⟩⟩⟩) rfl ?_
            exact hJ67 a10_1 q37.2
          · exact hJ50 a10_1 q20 q37.2
  refine V_aload_n (pc := 0) dX12_oneDay_0 rfl rfl ?_
  refine V_getr (pc := 1) (t := 172) fk_X12_13 rfl dX12_oneDay_1 kc_171 rf_12_1_171 ?_
  refine V_bipush (pc := 4) dX12_oneDay_4 bp_7 ?_
  refine V_ialdC (pc := 6) (n := 2172) dX12_oneDay_6 kc_172 lc_172 inb_7_2172 ?_
  refine V_istore_n (pc := 7) (vs' := [some (.ref (wB w + 171)), some (.int p1), some (.int (σ 172 7)), none, none]) dX12_oneDay_7 rfl (Nat.le_of_ble_eq_true rfl) (Nat.le_of_ble_eq_true rfl) rfl ?_
  refine V_iconst (pc := 8) dX12_oneDay_8 ic_0 ?_
  refine V_istore_n (pc := 9) (vs' := [some (.ref (wB w + 171)), some (.int p1), some (.int (σ 172 7)), some (.int (0 : Int32)), none]) dX12_oneDay_9 rfl (Nat.le_of_ble_eq_true rfl) (Nat.le_of_ble_eq_true rfl) rfl ?_
  exact hL10 (σ 172 7) n ((0 : Int32), σ)
def L_X12_days_38 (n : Nat) (v1 : Int32) (σ : MS) (a38 : Int32 × Int32 × MS) : Option ((Int32 × Int32 × MS) ⊕ (Int32 × MS)) := (if v1 ≤ a38.2.1 then (some (a38.1, a38.2.2)).map Sum.inr else ((f_X12_oneDay n (0 : Int32) a38.2.2).bind (fun q46 => some (.inl ((a38.1 + q46.1), (a38.2.1 + (1 : Int32)), q46.2)))))
def J_X12_days_21 (n : Nat) (v1 : Int32) (t0 : Int32) (σ : MS) : Option (Int32 × MS) := ((f_X12_throwsIf t0 (1 : Int32) σ).bind (fun q22 => (if q22.1 = 0 then ((f_X12_remembers n  q22.2).bind (fun q31 => itr (L_X12_days_38 n v1 σ) n ((0 : Int32), (0 : Int32), q31.2))) else some ((0 : Int32), q22.2))))
def f_X12_days (n : Nat) (p1 : Int32) (σ : MS) : Option (Int32 × MS) := (ltM (mu σ 171 0 (0 : Int32)) (fun s2 => ((f_X12_in p1 (1 : Int32) (60 : Int32) s2).bind (fun q10 => (if q10 = 0 then J_X12_days_21 n p1 (1 : Int32) s2 else J_X12_days_21 n p1 (0 : Int32) s2)))))
set_option maxRecDepth 20000 in
set_option maxHeartbeats 2000000 in
theorem c_X12_days (w : TG) (n : Nat) (p1 : Int32) (σ : MS) : MC m_X12_days w [.ref (wB w + 171), .int p1] σ (f_X12_days n p1 σ) := by
  refine V_meth (by decide +kernel) (Nat.le_of_ble_eq_true rfl) (by intro v hv; simp only [List.mem_cons, List.not_mem_nil, or_false] at hv; rcases hv with rfl | rfl <;> rfl) (fun g x => ?_)
  show VV m_X12_days w g 0 0 (QM m_X12_days w g x) (fun b : Int32 × MS => b = x) 0 [some (.ref (wB w + 171)), some (.int p1), none, none] [] σ (f_X12_days n p1 σ)
  have hL38 : ∀  (n0 : Nat) (a : Int32 × Int32 × MS), VV m_X12_days w g 0 0 (QM m_X12_days w g x) (fun b : Int32 × MS => b = x) 38 [some (.ref (wB w + 171)), some (.int p1), some (.int a.1), some (.int a.2.1)] [] a.2.2 (itr (L_X12_days_38 n p1 σ) n0 a) := by
    refine V_itr (vf := fun a : Int32 × Int32 × MS => [some (.ref (wB w + 171)), some (.int p1), some (.int a.1), some (.int a.2.1)]) (sf := fun a : Int32 × Int32 × MS => a.2.2) (fun κ38 b38 r38 a38 => ?_)
    obtain ⟨a38_1, a38_2, a38_3⟩ := a38
    show VV m_X12_days w g 0 0 (QM m_X12_days w g x) κ38 38 [some (.ref (wB w + 171)), some (.int p1), some (.int a38_1), some (.int a38_2)] [] a38_3 (L_X12_days_38 n p1 σ (a38_1, a38_2, a38_3))
    refine V_iload_n (pc := 38) dX12_days_38 rfl rfl ?_
    refine V_iload_n (pc := 39) dX12_days_39 rfl rfl ?_
    refine V_icmp_ge (pc := 40) (tgt := 57) dX12_days_40 (by decide +kernel) ?_ ?_
    · refine V_exit r38 ?_
      refine V_iload_n (pc := 57) dX12_days_57 rfl rfl ?_
      exact V_ireti (pc := 58) dX12_days_58 rfl (hk := fun h => h)
    · refine V_iload_n (pc := 43) dX12_days_43 rfl rfl ?_
      refine V_aload_n (pc := 44) dX12_days_44 rfl rfl ?_
      refine V_iconst (pc := 45) dX12_days_45 ic_0 ?_
      refine V_callVi (pc := 46) (As := [.int (0 : Int32)]) (rest := [.int a38_1]) (c_X12_oneDay w n (0 : Int32) a38_3) cw_X12_409 rfl rfl dX12_days_46 kc_171 ci_12 ⟨Nat.le_of_ble_eq_true rfl, Nat.le_of_ble_eq_true rfl⟩ rfl rfl (Nat.le_of_ble_eq_true rfl) (Nat.le_of_ble_eq_true rfl) (Nat.le_of_ble_eq_true rfl) rfl (fun q46 => ?_)
      refine V_iadd (pc := 49) dX12_days_49 ?_
      refine V_istore_n (pc := 50) (vs' := [some (.ref (wB w + 171)), some (.int p1), some (.int (a38_1 + q46.1)), some (.int a38_2)]) dX12_days_50 rfl (Nat.le_of_ble_eq_true rfl) (Nat.le_of_ble_eq_true rfl) rfl ?_
      refine V_iincC (pc := 51) (vs' := [some (.ref (wB w + 171)), some (.int p1), some (.int (a38_1 + q46.1)), some (.int (a38_2 + (1 : Int32)))]) dX12_days_51 (Nat.le_of_ble_eq_true rfl) rfl ic_1 rfl ?_
      refine V_goto (pc := 54) (tgt := 38) dX12_days_54 (by decide +kernel) ?_
      exact V_back (b38 ((a38_1 + q46.1), (a38_2 + (1 : Int32)), q46.2))
  have hJ21 : ∀ (t0 : Int32) (σ : MS), VV m_X12_days w g 0 0 (QM m_X12_days w g x) (fun b : Int32 × MS => b = x) 21 [some (.ref (wB w + 171)), some (.int p1), none, none] [.int t0, .ref (wB w + 171)] σ (J_X12_days_21 n p1 t0 σ) := by
    intro t0 σ
    refine V_iconst (pc := 21) dX12_days_21 ic_1 ?_
    refine V_callVi (pc := 22) (As := [.int t0, .int (1 : Int32)]) (rest := []) (c_X12_throwsIf w t0 (1 : Int32) σ) cw_X12_257 rfl rfl dX12_days_22 kc_171 ci_12 ⟨Nat.le_of_ble_eq_true rfl, Nat.le_of_ble_eq_true rfl⟩ rfl rfl (Nat.le_of_ble_eq_true rfl) (Nat.le_of_ble_eq_true rfl) (Nat.le_of_ble_eq_true rfl) rfl (fun q22 => ?_)
    refine V_if_eq (pc := 25) (tgt := 30) dX12_days_25 (by decide +kernel) ?_ ?_
    · refine V_aload_n (pc := 30) dX12_days_30 rfl rfl ?_
      refine V_callVv (pc := 31) (As := []) (rest := []) (c_X12_remembers w n  q22.2) cw_X12_333 rfl rfl dX12_days_31 kc_171 ci_12 ⟨Nat.le_of_ble_eq_true rfl, Nat.le_of_ble_eq_true rfl⟩ rfl rfl (Nat.le_of_ble_eq_true rfl) (Nat.le_of_ble_eq_true rfl) (Nat.le_of_ble_eq_true rfl) rfl (fun q31 => ?_)
      refine V_iconst (pc := 34) dX12_days_34 ic_0 ?_
      refine V_istore_n (pc := 35) (vs' := [some (.ref (wB w + 171)), some (.int p1), some (.int (0 : Int32)), none]) dX12_days_35 rfl (Nat.le_of_ble_eq_true rfl) (Nat.le_of_ble_eq_true rfl) rfl ?_
      refine V_iconst (pc := 36) dX12_days_36 ic_0 ?_
      refine V_istore_n (pc := 37) (vs' := [some (.ref (wB w + 171)), some (.int p1), some (.int (0 : Int32)), some (.int (0 : Int32))]) dX12_days_37 rfl (Nat.le_of_ble_eq_true rfl) (Nat.le_of_ble_eq_true rfl) rfl ?_
      exact hL38 n ((0 : Int32), (0 : Int32), q31.2)
    · refine V_iconst (pc := 28) dX12_days_28 ic_0 ?_
      exact V_ireti (pc := 29) dX12_days_29 rfl (hk := fun h => h)
  refine V_aload_n (pc := 0) dX12_days_0 rfl rfl ?_
  refine V_iconst (pc := 1) dX12_days_1 ic_0 ?_
  refine V_puti (pc := 2) fp_X12_3 rfl dX12_days_2 kc_171 rf_12_0_171 (fun s2 => ?_)
  refine V_aload_n (pc := 5) dX12_days_5 rfl rfl ?_
  refine V_iload_n (pc := 6) dX12_days_6 rfl rfl ?_
  refine V_iconst (pc := 7) dX12_days_7 ic_1 ?_
  refine V_bipush (pc := 8) dX12_days_8 bp_60 ?_
  refine V_callSpi (pc := 10) (As := [.int p1, .int (1 : Int32), .int (60 : Int32)]) (rest := [.ref (wB w + 171)]) (c_X12_in w p1 (1 : Int32) (60 : Int32) s2) cs_X12_79 rfl rfl dX12_days_10 ⟨Nat.le_of_ble_eq_true rfl, Nat.le_of_ble_eq_true rfl⟩ rfl rfl (Nat.le_of_ble_eq_true rfl) (Nat.le_of_ble_eq_true rfl) (Nat.le_of_ble_eq_true rfl) rfl (fun q10 => ?_)
  refine V_if_ne (pc := 13) (tgt := 20) dX12_days_13 (by decide +kernel) ?_ ?_
  · refine V_iconst (pc := 20) dX12_days_20 ic_0 ?_
    exact hJ21 (0 : Int32) s2
  · refine V_iconst (pc := 16) dX12_days_16 ic_1 ?_
    refine V_goto (pc := 17) (tgt := 21) dX12_days_17 (by decide +kernel) ?_
    exact hJ21 (1 : Int32) s2
def J_X12_ahead_80 (n : Nat) (t0 : Int32) (t1 : Int32) (σ : MS) : Option (Int32 × MS) := ((f_X12_of t1 t0 σ).bind (fun q80 => ((f_X12_bringsBack n  σ).bind (fun q86 => some (q80, q86.2)))))
def L_X12_ahead_51 (n : Nat) (v1 : Int32) (v2 : Int32) (v3 : Int32) (σ : MS) (a51 : Int32 × MS) : Option ((Int32 × MS) ⊕ (Int32 × MS)) := (if v2 ≤ a51.1 then ((if v3 = 0 then J_X12_ahead_80 n (0 : Int32) v1 a51.2 else J_X12_ahead_80 n (2 : Int32) v1 a51.2)).map Sum.inr else ((f_X12_oneDay n (1 : Int32) a51.2).bind (fun q59 => some (.inl ((a51.1 + (1 : Int32)), q59.2)))))
def J_X12_ahead_42 (n : Nat)  (σ : MS) : Option (Int32 × MS) := some ((0 : Int32), σ)
def J_X12_ahead_35 (n : Nat) (v1 : Int32) (v2 : Int32) (v3 : Int32) (t0 : Int32) (σ : MS) : Option (Int32 × MS) := ((f_X12_throwsIf t0 (2 : Int32) σ).bind (fun q36 => (if q36.1 = 0 then ((f_X12_keepsAll n  q36.2).bind (fun q45 => itr (L_X12_ahead_51 n v1 v2 v3 σ) n ((0 : Int32), q45.2))) else J_X12_ahead_42 n  q36.2)))
def f_X12_ahead (n : Nat) (p1 : Int32) (p2 : Int32) (p3 : Int32) (σ : MS) : Option (Int32 × MS) := (ltM (mu σ 171 0 (0 : Int32)) (fun s2 => ((f_X12_noPerson p1 s2).bind (fun q8 => ((f_X12_throwsIf q8 (1 : Int32) s2).bind (fun q12 => (if q12.1 = 0 then ((f_X12_in p2 (0 : Int32) (400 : Int32) q12.2).bind (fun q24 => (if q24 = 0 then J_X12_ahead_35 n p1 p2 p3 (1 : Int32) q12.2 else J_X12_ahead_35 n p1 p2 p3 (0 : Int32) q12.2))) else J_X12_ahead_42 n  q12.2)))))))
set_option maxRecDepth 20000 in
set_option maxHeartbeats 2000000 in
theorem c_X12_ahead (w : TG) (n : Nat) (p1 : Int32) (p2 : Int32) (p3 : Int32) (σ : MS) : MC m_X12_ahead w [.ref (wB w + 171), .int p1, .int p2, .int p3] σ (f_X12_ahead n p1 p2 p3 σ) := by
  refine V_meth (by decide +kernel) (Nat.le_of_ble_eq_true rfl) (by intro v hv; simp only [List.mem_cons, List.not_mem_nil, or_false] at hv; rcases hv with rfl | rfl | rfl | rfl <;> rfl) (fun g x => ?_)
  show VV m_X12_ahead w g 0 0 (QM m_X12_ahead w g x) (fun b : Int32 × MS => b = x) 0 [some (.ref (wB w + 171)), some (.int p1), some (.int p2), some (.int p3), none] [] σ (f_X12_ahead n p1 p2 p3 σ)
  have hJ80 : ∀ (t0 : Int32) (t1 : Int32) (σ : MS), VV m_X12_ahead w g 0 0 (QM m_X12_ahead w g x) (fun b : Int32 × MS => b = x) 80 [some (.ref (wB w + 171)), none, none, none, none] [.int t0, .int t1, .ref (wB w + 171)] σ (J_X12_ahead_80 n t0 t1 σ) := by
    intro t0 t1 σ
    refine V_callVpi (pc := 80) (As := [.int t1, .int t0]) (rest := []) (c_X12_of w t1 t0 σ) cw_X12_73 rfl rfl dX12_ahead_80 kc_171 ci_12 ⟨Nat.le_of_ble_eq_true rfl, Nat.le_of_ble_eq_true rfl⟩ rfl rfl (Nat.le_of_ble_eq_true rfl) (Nat.le_of_ble_eq_true rfl) (Nat.le_of_ble_eq_true rfl) rfl (fun q80 => ?_)
    refine V_istore (pc := 83) (vs' := [some (.ref (wB w + 171)), none, none, none, some (.int q80)]) dX12_ahead_83 (Nat.le_of_ble_eq_true rfl) (Nat.le_of_ble_eq_true rfl) rfl ?_
    refine V_aload_n (pc := 85) dX12_ahead_85 rfl rfl ?_
    refine V_callVv (pc := 86) (As := []) (rest := []) (c_X12_bringsBack w n  σ) cw_X12_342 rfl rfl dX12_ahead_86 kc_171 ci_12 ⟨Nat.le_of_ble_eq_true rfl, Nat.le_of_ble_eq_true rfl⟩ rfl rfl (Nat.le_of_ble_eq_true rfl) (Nat.le_of_ble_eq_true rfl) (Nat.le_of_ble_eq_true rfl) rfl (fun q86 => ?_)
    refine V_iload (pc := 89) dX12_ahead_89 rfl ?_
    exact V_ireti (pc := 91) dX12_ahead_91 rfl (hk := fun h => h)
  have hL51 : ∀  (n0 : Nat) (a : Int32 × MS), VV m_X12_ahead w g 0 0 (QM m_X12_ahead w g x) (fun b : Int32 × MS => b = x) 51 [some (.ref (wB w + 171)), some (.int p1), some (.int p2), some (.int p3), some (.int a.1)] [] a.2 (itr (L_X12_ahead_51 n p1 p2 p3 σ) n0 a) := by
    refine V_itr (vf := fun a : Int32 × MS => [some (.ref (wB w + 171)), some (.int p1), some (.int p2), some (.int p3), some (.int a.1)]) (sf := fun a : Int32 × MS => a.2) (fun κ51 b51 r51 a51 => ?_)
    obtain ⟨a51_1, a51_2⟩ := a51
    show VV m_X12_ahead w g 0 0 (QM m_X12_ahead w g x) κ51 51 [some (.ref (wB w + 171)), some (.int p1), some (.int p2), some (.int p3), some (.int a51_1)] [] a51_2 (L_X12_ahead_51 n p1 p2 p3 σ (a51_1, a51_2))
    refine V_iload (pc := 51) dX12_ahead_51 rfl ?_
    refine V_iload_n (pc := 53) dX12_ahead_53 rfl rfl ?_
    refine V_icmp_ge (pc := 54) (tgt := 69) dX12_ahead_54 (by decide +kernel) ?_ ?_
    · refine V_exit r51 ?_
      refine V_aload_n (pc := 69) dX12_ahead_69 rfl rfl ?_
      refine V_iload_n (pc := 70) dX12_ahead_70 rfl rfl ?_
      refine V_iload_n (pc := 71) dX12_ahead_71 rfl rfl ?_
      refine V_if_eq (pc := 72) (tgt := 79) dX12_ahead_72 (by decide +kernel) ?_ ?_
      · refine V_iconst (pc := 79) dX12_ahead_79 ic_0 ?_
        refine V_sub (vs' := [some (.ref (wB w + 171)), none, none, none, none]) (show vless _ _ from ⟨rfl, trivial⟩) rfl ?_
        exact hJ80 (0 : Int32) p1 a51_2
      · refine V_iconst (pc := 75) dX12_ahead_75 ic_2 ?_
        refine V_goto (pc := 76) (tgt := 80) dX12_ahead_76 (by decide +kernel) ?_
        refine V_sub (vs' := [some (.ref (wB w + 171)), none, none, none, none]) (show vless _ _ from ⟨rfl, trivial⟩) rfl ?_
        exact hJ80 (2 : Int32) p1 a51_2
    · refine V_aload_n (pc := 57) dX12_ahead_57 rfl rfl ?_
      refine V_iconst (pc := 58) dX12_ahead_58 ic_1 ?_
      refine V_callVi (pc := 59) (As := [.int (1 : Int32)]) (rest := []) (c_X12_oneDay w n (1 : Int32) a51_2) cw_X12_409 rfl rfl dX12_ahead_59 kc_171 ci_12 ⟨Nat.le_of_ble_eq_true rfl, Nat.le_of_ble_eq_true rfl⟩ rfl rfl (Nat.le_of_ble_eq_true rfl) (Nat.le_of_ble_eq_true rfl) (Nat.le_of_ble_eq_true rfl) rfl (fun q59 => ?_)
      refine V_pop (pc := 62) dX12_ahead_62 rfl ?_
      refine V_iincC (pc := 63) (vs' := [some (.ref (wB w + 171)), some (.int p1), some (.int p2), some (.int p3), some (.int (a51_1 + (1 : Int32)))]) dX12_ahead_63 (Nat.le_of_ble_eq_true rfl) rfl ic_1 rfl ?_
      refine V_goto (pc := 66) (tgt := 51) dX12_ahead_66 (by decide +kernel) ?_
      exact V_back (b51 ((a51_1 + (1 : Int32)), q59.2))
  have hJ42 : ∀ (σ : MS), VV m_X12_ahead w g 0 0 (QM m_X12_ahead w g x) (fun b : Int32 × MS => b = x) 42 [none, none, none, none, none] [] σ (J_X12_ahead_42 n  σ) := by
    intro σ
    refine V_iconst (pc := 42) dX12_ahead_42 ic_0 ?_
    exact V_ireti (pc := 43) dX12_ahead_43 rfl (hk := fun h => h)
  have hJ35 : ∀ (t0 : Int32) (σ : MS), VV m_X12_ahead w g 0 0 (QM m_X12_ahead w g x) (fun b : Int32 × MS => b = x) 35 [some (.ref (wB w + 171)), some (.int p1), some (.int p2), some (.int p3), none] [.int t0, .ref (wB w + 171)] σ (J_X12_ahead_35 n p1 p2 p3 t0 σ) := by
    intro t0 σ
    refine V_iconst (pc := 35) dX12_ahead_35 ic_2 ?_
    refine V_callVi (pc := 36) (As := [.int t0, .int (2 : Int32)]) (rest := []) (c_X12_throwsIf w t0 (2 : Int32) σ) cw_X12_257 rfl rfl dX12_ahead_36 kc_171 ci_12 ⟨Nat.le_of_ble_eq_true rfl, Nat.le_of_ble_eq_true rfl⟩ rfl rfl (Nat.le_of_ble_eq_true rfl) (Nat.le_of_ble_eq_true rfl) (Nat.le_of_ble_eq_true rfl) rfl (fun q36 => ?_)
    refine V_if_eq (pc := 39) (tgt := 44) dX12_ahead_39 (by decide +kernel) ?_ ?_
    · refine V_aload_n (pc := 44) dX12_ahead_44 rfl rfl ?_
      refine V_callVv (pc := 45) (As := []) (rest := []) (c_X12_keepsAll w n  q36.2) cw_X12_339 rfl rfl dX12_ahead_45 kc_171 ci_12 ⟨Nat.le_of_ble_eq_true rfl, Nat.le_of_ble_eq_true rfl⟩ rfl rfl (Nat.le_of_ble_eq_true rfl) (Nat.le_of_ble_eq_true rfl) (Nat.le_of_ble_eq_true rfl) rfl (fun q45 => ?_)
      refine V_iconst (pc := 48) dX12_ahead_48 ic_0 ?_
      refine V_istore (pc := 49) (vs' := [some (.ref (wB w + 171)), some (.int p1), some (.int p2), some (.int p3), some (.int (0 : Int32))]) dX12_ahead_49 (Nat.le_of_ble_eq_true rfl) (Nat.le_of_ble_eq_true rfl) rfl ?_
      exact hL51 n ((0 : Int32), q45.2)
    · refine V_sub (vs' := [none, none, none, none, none]) (show vless _ _ from trivial) rfl ?_
      exact hJ42 q36.2
  refine V_aload_n (pc := 0) dX12_ahead_0 rfl rfl ?_
  refine V_iconst (pc := 1) dX12_ahead_1 ic_0 ?_
  refine V_puti (pc := 2) fp_X12_3 rfl dX12_ahead_2 kc_171 rf_12_0_171 (fun s2 => ?_)
  refine V_aload_n (pc := 5) dX12_ahead_5 rfl rfl ?_
  refine V_aload_n (pc := 6) dX12_ahead_6 rfl rfl ?_
  refine V_iload_n (pc := 7) dX12_ahead_7 rfl rfl ?_
  refine V_callVpi (pc := 8) (As := [.int p1]) (rest := [.ref (wB w + 171)]) (c_X12_noPerson w p1 s2) cw_X12_297 rfl rfl dX12_ahead_8 kc_171 ci_12 ⟨Nat.le_of_ble_eq_true rfl, Nat.le_of_ble_eq_true rfl⟩ rfl rfl (Nat.le_of_ble_eq_true rfl) (Nat.le_of_ble_eq_true rfl) (Nat.le_of_ble_eq_true rfl) rfl (fun q8 => ?_)
  refine V_iconst (pc := 11) dX12_ahead_11 ic_1 ?_
  refine V_callVi (pc := 12) (As := [.int q8, .int (1 : Int32)]) (rest := []) (c_X12_throwsIf w q8 (1 : Int32) s2) cw_X12_257 rfl rfl dX12_ahead_12 kc_171 ci_12 ⟨Nat.le_of_ble_eq_true rfl, Nat.le_of_ble_eq_true rfl⟩ rfl rfl (Nat.le_of_ble_eq_true rfl) (Nat.le_of_ble_eq_true rfl) (Nat.le_of_ble_eq_true rfl) rfl (fun q12 => ?_)
  refine V_if_ne (pc := 15) (tgt := 42) dX12_ahead_15 (by decide +kernel) ?_ ?_
  · refine V_sub (vs' := [none, none, none, none, none]) (show vless _ _ from trivial) rfl ?_
    exact hJ42 q12.2
  · refine V_aload_n (pc := 18) dX12_ahead_18 rfl rfl ?_
    refine V_iload_n (pc := 19) dX12_ahead_19 rfl rfl ?_
    refine V_iconst (pc := 20) dX12_ahead_20 ic_0 ?_
    refine V_sipush (pc := 21) dX12_ahead_21 sp_400 ?_
    refine V_callSpi (pc := 24) (As := [.int p2, .int (0 : Int32), .int (400 : Int32)]) (rest := [.ref (wB w + 171)]) (c_X12_in w p2 (0 : Int32) (400 : Int32) q12.2) cs_X12_79 rfl rfl dX12_ahead_24 ⟨Nat.le_of_ble_eq_true rfl, Nat.le_of_ble_eq_true rfl⟩ rfl rfl (Nat.le_of_ble_eq_true rfl) (Nat.le_of_ble_eq_true rfl) (Nat.le_of_ble_eq_true rfl) rfl (fun q24 => ?_)
    refine V_if_ne (pc := 27) (tgt := 34) dX12_ahead_27 (by decide +kernel) ?_ ?_
    · refine V_iconst (pc := 34) dX12_ahead_34 ic_0 ?_
      exact hJ35 (0 : Int32) q12.2
    · refine V_iconst (pc := 30) dX12_ahead_30 ic_1 ?_
      refine V_goto (pc := 31) (tgt := 35) dX12_ahead_31 (by decide +kernel) ?_
      exact hJ35 (1 : Int32) q12.2
def J_X12_calm_58 (n : Nat) (v1 : Int32) (v3 : Int32) (t0 : Int32) (t1 : Int32) (σ : MS) : Option ((Int32 × Int32 × MS) ⊕ (Int32 × MS)) := some (.inl ((t1 + t0), (v3 + (1 : Int32)), σ))
def L_X12_calm_39 (n : Nat) (v1 : Int32) (σ : MS) (a39 : Int32 × Int32 × MS) : Option ((Int32 × Int32 × MS) ⊕ (Int32 × MS)) := (if v1 ≤ a39.2.1 then (((f_X12_bringsBack n  a39.2.2).bind (fun q67 => some (a39.1, q67.2)))).map Sum.inr else ((f_X12_oneDay n (1 : Int32) a39.2.2).bind (fun q47 => (if q47.1 = 0 then J_X12_calm_58 n v1 a39.2.1 (1 : Int32) a39.1 q47.2 else J_X12_calm_58 n v1 a39.2.1 (0 : Int32) a39.1 q47.2))))
def J_X12_calm_22 (n : Nat) (v1 : Int32) (t0 : Int32) (σ : MS) : Option (Int32 × MS) := ((f_X12_throwsIf t0 (1 : Int32) σ).bind (fun q23 => (if q23.1 = 0 then ((f_X12_keepsAll n  q23.2).bind (fun q32 => itr (L_X12_calm_39 n v1 σ) n ((0 : Int32), (0 : Int32), q32.2))) else some ((0 : Int32), q23.2))))
def f_X12_calm (n : Nat) (p1 : Int32) (σ : MS) : Option (Int32 × MS) := (ltM (mu σ 171 0 (0 : Int32)) (fun s2 => ((f_X12_in p1 (0 : Int32) (400 : Int32) s2).bind (fun q11 => (if q11 = 0 then J_X12_calm_22 n p1 (1 : Int32) s2 else J_X12_calm_22 n p1 (0 : Int32) s2)))))
set_option maxRecDepth 20000 in
set_option maxHeartbeats 2000000 in
theorem c_X12_calm (w : TG) (n : Nat) (p1 : Int32) (σ : MS) : MC m_X12_calm w [.ref (wB w + 171), .int p1] σ (f_X12_calm n p1 σ) := by
  refine V_meth (by decide +kernel) (Nat.le_of_ble_eq_true rfl) (by intro v hv; simp only [List.mem_cons, List.not_mem_nil, or_false] at hv; rcases hv with rfl | rfl <;> rfl) (fun g x => ?_)
  show VV m_X12_calm w g 0 0 (QM m_X12_calm w g x) (fun b : Int32 × MS => b = x) 0 [some (.ref (wB w + 171)), some (.int p1), none, none] [] σ (f_X12_calm n p1 σ)
  have hL39 : ∀  (n0 : Nat) (a : Int32 × Int32 × MS), VV m_X12_calm w g 0 0 (QM m_X12_calm w g x) (fun b : Int32 × MS => b = x) 39 [some (.ref (wB w + 171)), some (.int p1), some (.int a.1), some (.int a.2.1)] [] a.2.2 (itr (L_X12_calm_39 n p1 σ) n0 a) := by
    refine V_itr (vf := fun a : Int32 × Int32 × MS => [some (.ref (wB w + 171)), some (.int p1), some (.int a.1), some (.int a.2.1)]) (sf := fun a : Int32 × Int32 × MS => a.2.2) (fun κ39 b39 r39 a39 => ?_)
    obtain ⟨a39_1, a39_2, a39_3⟩ := a39
    show VV m_X12_calm w g 0 0 (QM m_X12_calm w g x) κ39 39 [some (.ref (wB w + 171)), some (.int p1), some (.int a39_1), some (.int a39_2)] [] a39_3 (L_X12_calm_39 n p1 σ (a39_1, a39_2, a39_3))
    have hJ58 : ∀ (v3 : Int32) (t0 : Int32) (t1 : Int32) (σ : MS), VV m_X12_calm w g 0 0 (QM m_X12_calm w g x) κ39 58 [some (.ref (wB w + 171)), some (.int p1), none, some (.int v3)] [.int t0, .int t1] σ (J_X12_calm_58 n p1 v3 t0 t1 σ) := by
      intro v3 t0 t1 σ
      refine V_iadd (pc := 58) dX12_calm_58 ?_
      refine V_istore_n (pc := 59) (vs' := [some (.ref (wB w + 171)), some (.int p1), some (.int (t1 + t0)), some (.int v3)]) dX12_calm_59 rfl (Nat.le_of_ble_eq_true rfl) (Nat.le_of_ble_eq_true rfl) rfl ?_
      refine V_iincC (pc := 60) (vs' := [some (.ref (wB w + 171)), some (.int p1), some (.int (t1 + t0)), some (.int (v3 + (1 : Int32)))]) dX12_calm_60 (Nat.le_of_ble_eq_true rfl) rfl ic_1 rfl ?_
      refine V_goto (pc := 63) (tgt := 39) dX12_calm_63 (by decide +kernel) ?_
      exact V_back (b39 ((t1 + t0), (v3 + (1 : Int32)), σ))
    refine V_iload_n (pc := 39) dX12_calm_39 rfl rfl ?_
    refine V_iload_n (pc := 40) dX12_calm_40 rfl rfl ?_
    refine V_icmp_ge (pc := 41) (tgt := 66) dX12_calm_41 (by decide +kernel) ?_ ?_
    · refine V_exit r39 ?_
      refine V_aload_n (pc := 66) dX12_calm_66 rfl rfl ?_
      refine V_callVv (pc := 67) (As := []) (rest := []) (c_X12_bringsBack w n  a39_3) cw_X12_342 rfl rfl dX12_calm_67 kc_171 ci_12 ⟨Nat.le_of_ble_eq_true rfl, Nat.le_of_ble_eq_true rfl⟩ rfl rfl (Nat.le_of_ble_eq_true rfl) (Nat.le_of_ble_eq_true rfl) (Nat.le_of_ble_eq_true rfl) rfl (fun q67 => ?_)
      refine V_iload_n (pc := 70) dX12_calm_70 rfl rfl ?_
      exact V_ireti (pc := 71) dX12_calm_71 rfl (hk := fun h => h)
    · refine V_iload_n (pc := 44) dX12_calm_44 rfl rfl ?_
      refine V_aload_n (pc := 45) dX12_calm_45 rfl rfl ?_
      refine V_iconst (pc := 46) dX12_calm_46 ic_1 ?_
      refine V_callVi (pc := 47) (As := [.int (1 : Int32)]) (rest := [.int a39_1]) (c_X12_oneDay w n (1 : Int32) a39_3) cw_X12_409 rfl rfl dX12_calm_47 kc_171 ci_12 ⟨Nat.le_of_ble_eq_true rfl, Nat.le_of_ble_eq_true rfl⟩ rfl rfl (Nat.le_of_ble_eq_true rfl) (Nat.le_of_ble_eq_true rfl) (Nat.le_of_ble_eq_true rfl) rfl (fun q47 => ?_)
      refine V_if_ne (pc := 50) (tgt := 57) dX12_calm_50 (by decide +kernel) ?_ ?_
      · refine V_iconst (pc := 57) dX12_calm_57 ic_0 ?_
        refine V_sub (vs' := [some (.ref (wB w + 171)), some (.int p1), none, some (.int a39_2)]) (show vless _ _ from ⟨rfl, ⟨rfl, ⟨rfl, trivial⟩⟩⟩) rfl ?_
        exact hJ58 a39_2 (0 : Int32) a39_1 q47.2
      · refine V_iconst (pc := 53) dX12_calm_53 ic_1 ?_
        refine V_goto (pc := 54) (tgt := 58) dX12_calm_54 (by decide +kernel) ?_
        refine V_sub (vs' := [some (.ref (wB w + 171)), some (.int p1), none, some (.int a39_2)]) (show vless _ _ from ⟨rfl, ⟨rfl, ⟨rfl, trivial⟩⟩⟩) rfl ?_
        exact hJ58 a39_2 (1 : Int32) a39_1 q47.2
  have hJ22 : ∀ (t0 : Int32) (σ : MS), VV m_X12_calm w g 0 0 (QM m_X12_calm w g x) (fun b : Int32 × MS => b = x) 22 [some (.ref (wB w + 171)), some (.int p1), none, none] [.int t0, .ref (wB w + 171)] σ (J_X12_calm_22 n p1 t0 σ) := by
    intro t0 σ
    refine V_iconst (pc := 22) dX12_calm_22 ic_1 ?_
    refine V_callVi (pc := 23) (As := [.int t0, .int (1 : Int32)]) (rest := []) (c_X12_throwsIf w t0 (1 : Int32) σ) cw_X12_257 rfl rfl dX12_calm_23 kc_171 ci_12 ⟨Nat.le_of_ble_eq_true rfl, Nat.le_of_ble_eq_true rfl⟩ rfl rfl (Nat.le_of_ble_eq_true rfl) (Nat.le_of_ble_eq_true rfl) (Nat.le_of_ble_eq_true rfl) rfl (fun q23 => ?_)
    refine V_if_eq (pc := 26) (tgt := 31) dX12_calm_26 (by decide +kernel) ?_ ?_
    · refine V_aload_n (pc := 31) dX12_calm_31 rfl rfl ?_
      refine V_callVv (pc := 32) (As := []) (rest := []) (c_X12_keepsAll w n  q23.2) cw_X12_339 rfl rfl dX12_calm_32 kc_171 ci_12 ⟨Nat.le_of_ble_eq_true rfl, Nat.le_of_ble_eq_true rfl⟩ rfl rfl (Nat.le_of_ble_eq_true rfl) (Nat.le_of_ble_eq_true rfl) (Nat.le_of_ble_eq_true rfl) rfl (fun q32 => ?_)
      refine V_iconst (pc := 35) dX12_calm_35 ic_0 ?_
      refine V_istore_n (pc := 36) (vs' := [some (.ref (wB w + 171)), some (.int p1), some (.int (0 : Int32)), none]) dX12_calm_36 rfl (Nat.le_of_ble_eq_true rfl) (Nat.le_of_ble_eq_true rfl) rfl ?_
      refine V_iconst (pc := 37) dX12_calm_37 ic_0 ?_
      refine V_istore_n (pc := 38) (vs' := [some (.ref (wB w + 171)), some (.int p1), some (.int (0 : Int32)), some (.int (0 : Int32))]) dX12_calm_38 rfl (Nat.le_of_ble_eq_true rfl) (Nat.le_of_ble_eq_true rfl) rfl ?_
      exact hL39 n ((0 : Int32), (0 : Int32), q32.2)
    · refine V_iconst (pc := 29) dX12_calm_29 ic_0 ?_
      exact V_ireti (pc := 30) dX12_calm_30 rfl (hk := fun h => h)
  refine V_aload_n (pc := 0) dX12_calm_0 rfl rfl ?_
  refine V_iconst (pc := 1) dX12_calm_1 ic_0 ?_
  refine V_puti (pc := 2) fp_X12_3 rfl dX12_calm_2 kc_171 rf_12_0_171 (fun s2 => ?_)
  refine V_aload_n (pc := 5) dX12_calm_5 rfl rfl ?_
  refine V_iload_n (pc := 6) dX12_calm_6 rfl rfl ?_
  refine V_iconst (pc := 7) dX12_calm_7 ic_0 ?_
  refine V_sipush (pc := 8) dX12_calm_8 sp_400 ?_
  refine V_callSpi (pc := 11) (As := [.int p1, .int (0 : Int32), .int (400 : Int32)]) (rest := [.ref (wB w + 171)]) (c_X12_in w p1 (0 : Int32) (400 : Int32) s2) cs_X12_79 rfl rfl dX12_calm_11 ⟨Nat.le_of_ble_eq_true rfl, Nat.le_of_ble_eq_true rfl⟩ rfl rfl (Nat.le_of_ble_eq_true rfl) (Nat.le_of_ble_eq_true rfl) (Nat.le_of_ble_eq_true rfl) rfl (fun q11 => ?_)
  refine V_if_ne (pc := 14) (tgt := 21) dX12_calm_14 (by decide +kernel) ?_ ?_
  · refine V_iconst (pc := 21) dX12_calm_21 ic_0 ?_
    exact hJ22 (0 : Int32) s2
  · refine V_iconst (pc := 17) dX12_calm_17 ic_1 ?_
    refine V_goto (pc := 18) (tgt := 22) dX12_calm_18 (by decide +kernel) ?_
    exact hJ22 (1 : Int32) s2
def J_X12_isTold_95 (n : Nat) (v1 : Int32) (σ : MS) : Option (Int32) := (if v1 = 0 ∨ v1 = 1 then some v1 else none)
def J_X12_isTold_88 (n : Nat) (v2 : Int32) (t0 : Int32) (σ : MS) : Option ((Int32 × Int32) ⊕ (Int32)) := some (.inl (t0, (v2 + (3 : Int32))))
def J_X12_isTold_87 (n : Nat) (v2 : Int32) (σ : MS) : Option ((Int32 × Int32) ⊕ (Int32)) := J_X12_isTold_88 n v2 (0 : Int32) σ
def L_X12_isTold_26 (n : Nat)  (σ : MS) (a26 : Int32 × Int32) : Option ((Int32 × Int32) ⊕ (Int32)) := (if (σ 171 11) ≤ a26.2 then (J_X12_isTold_95 n a26.1 σ).map Sum.inr else (if a26.1 = 0 then (J_X12_isTold_95 n a26.1 σ).map Sum.inr else (if inb a26.2 400 then ((f_X12_noPerson (σ 177 (ix a26.2)) σ).bind (fun q45 => (if q45 = 0 then (if inb (a26.2 + (1 : Int32)) 400 then ((f_X12_noPerson (σ 177 (ix (a26.2 + (1 : Int32)))) σ).bind (fun q60 => (if q60 = 0 then (if inb a26.2 400 then (if inb (a26.2 + (1 : Int32)) 400 then (if (σ 177 (ix (a26.2 + (1 : Int32)))) < (σ 177 (ix a26.2)) then J_X12_isTold_87 n a26.2 σ else J_X12_isTold_88 n a26.2 (1 : Int32) σ) else none) else none) else J_X12_isTold_87 n a26.2 σ))) else none) else J_X12_isTold_87 n a26.2 σ))) else none)))
def J_X12_isTold_23 (n : Nat) (t0 : Int32) (σ : MS) : Option (Int32) := itr (L_X12_isTold_26 n  σ) n (t0, (0 : Int32))
def J_X12_isTold_22 (n : Nat)  (σ : MS) : Option (Int32) := J_X12_isTold_23 n (0 : Int32) σ
def f_X12_isTold (n : Nat)  (σ : MS) : Option (Int32) := (if (remI (σ 171 11) (3 : Int32)) = 0 then (if (36 : Int32) < (σ 171 11) then J_X12_isTold_22 n  σ else J_X12_isTold_23 n (1 : Int32) σ) else J_X12_isTold_22 n  σ)
set_option maxRecDepth 20000 in
set_option maxHeartbeats 2000000 in
theorem c_X12_isTold (w : TG) (n : Nat)  (σ : MS) : MC m_X12_isTold w [.ref (wB w + 171)] σ ((f_X12_isTold n  σ).map (fun r => (r, σ))) := by
  refine V_methp (by decide +kernel) (Nat.le_of_ble_eq_true rfl) (by intro v hv; simp only [List.mem_cons, List.not_mem_nil, or_false] at hv; subst hv; rfl) (fun g x => ?_)
  show VV m_X12_isTold w g 0 0 (QM m_X12_isTold w g x) (fun b : Int32 => (b, σ) = x) 0 [some (.ref (wB w + 171)), none, none] [] σ (f_X12_isTold n  σ)
  have hJ95 : ∀ (v1 : Int32), VV m_X12_isTold w g 0 0 (QM m_X12_isTold w g x) (fun b : Int32 => (b, σ) = x) 95 [none, some (.int v1), none] [] σ (J_X12_isTold_95 n v1 σ) := by
    intro v1
    refine V_iload_n (pc := 95) dX12_isTold_95 rfl rfl ?_
    exact V_iretZ (pc := 96) dX12_isTold_96 rfl (hk := fun h => h)
  have hL26 : ∀  (n0 : Nat) (a : Int32 × Int32), VV m_X12_isTold w g 0 0 (QM m_X12_isTold w g x) (fun b : Int32 => (b, σ) = x) 26 [some (.ref (wB w + 171)), some (.int a.1), some (.int a.2)] [] σ (itr (L_X12_isTold_26 n  σ) n0 a) := by
    refine V_itr (vf := fun a : Int32 × Int32 => [some (.ref (wB w + 171)), some (.int a.1), some (.int a.2)]) (sf := fun a : Int32 × Int32 => σ) (fun κ26 b26 r26 a26 => ?_)
    obtain ⟨a26_1, a26_2⟩ := a26
    show VV m_X12_isTold w g 0 0 (QM m_X12_isTold w g x) κ26 26 [some (.ref (wB w + 171)), some (.int a26_1), some (.int a26_2)] [] σ (L_X12_isTold_26 n  σ (a26_1, a26_2))
    have hJ88 : ∀ (v2 : Int32) (t0 : Int32), VV m_X12_isTold w g 0 0 (QM m_X12_isTold w g x) κ26 88 [some (.ref (wB w + 171)), none, some (.int v2)] [.int t0] σ (J_X12_isTold_88 n v2 t0 σ) := by
      intro v2 t0
      refine V_istore_n (pc := 88) (vs' := [some (.ref (wB w + 171)), some (.int t0), some (.int v2)]) dX12_isTold_88 rfl (Nat.le_of_ble_eq_true rfl) (Nat.le_of_ble_eq_true rfl) rfl ?_
      refine V_iincC (pc := 89) (vs' := [some (.ref (wB w + 171)), some (.int t0), some (.int (v2 + (3 : Int32)))]) dX12_isTold_89 (Nat.le_of_ble_eq_true rfl) rfl ic_3 rfl ?_
      refine V_goto (pc := 92) (tgt := 26) dX12_isTold_92 (by decide +kernel) ?_
      exact V_back (b26 (t0, (v2 + (3 : Int32))))
    have hJ87 : ∀ (v2 : Int32), VV m_X12_isTold w g 0 0 (QM m_X12_isTold w g x) κ26 87 [some (.ref (wB w + 171)), none, some (.int v2)] [] σ (J_X12_isTold_87 n v2 σ) := by
      intro v2
      refine V_iconst (pc := 87) dX12_isTold_87 ic_0 ?_
      exact hJ88 v2 (0 : Int32)
    refine V_iload_n (pc := 26) dX12_isTold_26 rfl rfl ?_
    refine V_aload_n (pc := 27) dX12_isTold_27 rfl rfl ?_
    refine V_geti (pc := 28) fk_X12_90 rfl dX12_isTold_28 kc_171 rf_12_11_171 ?_
    refine V_icmp_ge (pc := 31) (tgt := 95) dX12_isTold_31 (by decide +kernel) ?_ ?_
    · refine V_exit r26 ?_
      refine V_sub (vs' := [none, some (.int a26_1), none]) (show vless _ _ from ⟨rfl, trivial⟩) rfl ?_
      exact hJ95 a26_1
    · refine V_iload_n (pc := 34) dX12_isTold_34 rfl rfl ?_
      refine V_if_eq (pc := 35) (tgt := 95) dX12_isTold_35 (by decide +kernel) ?_ ?_
      · refine V_exit r26 ?_
        refine V_sub (vs' := [none, some (.int a26_1), none]) (show vless _ _ from ⟨rfl, trivial⟩) rfl ?_
        exact hJ95 a26_1
      · refine V_aload_n (pc := 38) dX12_isTold_38 rfl rfl ?_
        refine V_aload_n (pc := 39) dX12_isTold_39 rfl rfl ?_
        refine V_getr (pc := 40) (t := 177) fk_X12_29 rfl dX12_isTold_40 kc_171 rf_12_8_171 ?_
        refine V_iload_n (pc := 43) dX12_isTold_43 rfl rfl ?_
        refine V_bald (pc := 44) (n := 400) dX12_isTold_44 kc_177 lc_177 ?_
        refine V_callVpi (pc := 45) (As := [.int (σ 177 (ix a26_2))]) (rest := []) (c_X12_noPerson w (σ 177 (ix a26_2)) σ) cw_X12_297 rfl rfl dX12_isTold_45 kc_171 ci_12 ⟨Nat.le_of_ble_eq_true rfl, Nat.le_of_ble_eq_true rfl⟩ rfl rfl (Nat.le_of_ble_eq_true rfl) (Nat.le_of_ble_eq_true rfl) (Nat.le_of_ble_eq_true rfl) rfl (fun q45 => ?_)
        refine V_if_ne (pc := 48) (tgt := 87) dX12_isTold_48 (by decide +kernel) ?_ ?_
        · refine V_sub (vs' := [some (.ref (wB w + 171)), none, some (.int a26_2)]) (show vless _ _ from ⟨rfl, ⟨rfl, trivial⟩⟩) rfl ?_
          exact hJ87 a26_2
        · refine V_aload_n (pc := 51) dX12_isTold_51 rfl rfl ?_
          refine V_aload_n (pc := 52) dX12_isTold_52 rfl rfl ?_
          refine V_getr (pc := 53) (t := 177) fk_X12_29 rfl dX12_isTold_53 kc_171 rf_12_8_171 ?_
          refine V_iload_n (pc := 56) dX12_isTold_56 rfl rfl ?_
          refine V_iconst (pc := 57) dX12_isTold_57 ic_1 ?_
          refine V_iadd (pc := 58) dX12_isTold_58 ?_
          refine V_bald (pc := 59) (n := 400) dX12_isTold_59 kc_177 lc_177 ?_
          refine V_callVpi (pc := 60) (As := [.int (σ 177 (ix (a26_2 + (1 : Int32))))]) (rest := []) (c_X12_noPerson w (σ 177 (ix (a26_2 + (1 : Int32)))) σ) cw_X12_297 rfl rfl dX12_isTold_60 kc_171 ci_12 ⟨Nat.le_of_ble_eq_true rfl, Nat.le_of_ble_eq_true rfl⟩ rfl rfl (Nat.le_of_ble_eq_true rfl) (Nat.le_of_ble_eq_true rfl) (Nat.le_of_ble_eq_true rfl) rfl (fun q60 => ?_)
          refine V_if_ne (pc := 63) (tgt := 87) dX12_isTold_63 (by decide +kernel) ?_ ?_
          · refine V_sub (vs' := [some (.ref (wB w + 171)), none, some (.int a26_2)]) (show vless _ _ from ⟨rfl, ⟨rfl, trivial⟩⟩) rfl ?_
            exact hJ87 a26_2
          · refine V_aload_n (pc := 66) dX12_isTold_66 rfl rfl ?_
            refine V_getr (pc := 67) (t := 177) fk_X12_29 rfl dX12_isTold_67 kc_171 rf_12_8_171 ?_
            refine V_iload_n (pc := 70) dX12_isTold_70 rfl rfl ?_
            refine V_bald (pc := 71) (n := 400) dX12_isTold_71 kc_177 lc_177 ?_
            refine V_aload_n (pc := 72) dX12_isTold_72 rfl rfl ?_
            refine V_getr (pc := 73) (t := 177) fk_X12_29 rfl dX12_isTold_73 kc_171 rf_12_8_171 ?_
            refine V_iload_n (pc := 76) dX12_isTold_76 rfl rfl ?_
            refine V_iconst (pc := 77) dX12_isTold_77 ic_1 ?_
            refine V_iadd (pc := 78) dX12_isTold_78 ?_
            refine V_bald (pc := 79) (n := 400) dX12_isTold_79 kc_177 lc_177 ?_
            refine V_icmp_gt (pc := 80) (tgt := 87) dX12_isTold_80 (by decide +kernel) ?_ ?_
            · refine V_sub (vs' := [some (.ref (wB w + 171)), none, some (.int a26_2)]) (show vless _ _ from ⟨rfl, ⟨rfl, trivial⟩⟩) rfl ?_
              exact hJ87 a26_2
            · refine V_iconst (pc := 83) dX12_isTold_83 ic_1 ?_
              refine V_goto (pc := 84) (tgt := 88) dX12_isTold_84 (by decide +kernel) ?_
              refine V_sub (vs' := [some (.ref (wB w + 171)), none, some (.int a26_2)]) (show vless _ _ from ⟨rfl, ⟨rfl, trivial⟩⟩) rfl ?_
              exact hJ88 a26_2 (1 : Int32)
  have hJ23 : ∀ (t0 : Int32), VV m_X12_isTold w g 0 0 (QM m_X12_isTold w g x) (fun b : Int32 => (b, σ) = x) 23 [some (.ref (wB w + 171)), none, none] [.int t0] σ (J_X12_isTold_23 n t0 σ) := by
    intro t0
    refine V_istore_n (pc := 23) (vs' := [some (.ref (wB w + 171)), some (.int t0), none]) dX12_isTold_23 rfl (Nat.le_of_ble_eq_true rfl) (Nat.le_of_ble_eq_true rfl) rfl ?_
    refine V_iconst (pc := 24) dX12_isTold_24 ic_0 ?_
    refine V_istore_n (pc := 25) (vs' := [some (.ref (wB w + 171)), some (.int t0), some (.int (0 : Int32))]) dX12_isTold_25 rfl (Nat.le_of_ble_eq_true rfl) (Nat.le_of_ble_eq_true rfl) rfl ?_
    exact hL26 n (t0, (0 : Int32))
  have hJ22 : ∀ (_ : Unit), VV m_X12_isTold w g 0 0 (QM m_X12_isTold w g x) (fun b : Int32 => (b, σ) = x) 22 [some (.ref (wB w + 171)), none, none] [] σ (J_X12_isTold_22 n  σ) := by
    intro _
    refine V_iconst (pc := 22) dX12_isTold_22 ic_0 ?_
    exact hJ23 (0 : Int32)
  refine V_aload_n (pc := 0) dX12_isTold_0 rfl rfl ?_
  refine V_geti (pc := 1) fk_X12_90 rfl dX12_isTold_1 kc_171 rf_12_11_171 ?_
  refine V_iconst (pc := 4) dX12_isTold_4 ic_3 ?_
  refine V_irem (pc := 5) dX12_isTold_5 (by decide +kernel) ?_
  refine V_if_ne (pc := 6) (tgt := 22) dX12_isTold_6 (by decide +kernel) ?_ ?_
  · exact hJ22 ()
  · refine V_aload_n (pc := 9) dX12_isTold_9 rfl rfl ?_
    refine V_geti (pc := 10) fk_X12_90 rfl dX12_isTold_10 kc_171 rf_12_11_171 ?_
    refine V_bipush (pc := 13) dX12_isTold_13 bp_36 ?_
    refine V_icmp_gt (pc := 15) (tgt := 22) dX12_isTold_15 (by decide +kernel) ?_ ?_
    · exact hJ22 ()
    · refine V_iconst (pc := 18) dX12_isTold_18 ic_1 ?_
      refine V_goto (pc := 19) (tgt := 23) dX12_isTold_19 (by decide +kernel) ?_
      exact hJ23 (1 : Int32)
def J_X12_fits_66 (n : Nat) (v1 : Int32) (v3 : Int32) (t0 : Int32) (σ : MS) : Option ((Int32 × Int32) ⊕ (Int32)) := some (.inl (t0, (v3 + (3 : Int32))))
def J_X12_fits_65 (n : Nat) (v1 : Int32) (v3 : Int32) (σ : MS) : Option ((Int32 × Int32) ⊕ (Int32)) := J_X12_fits_66 n v1 v3 (0 : Int32) σ
def L_X12_fits_4 (n : Nat) (v1 : Int32) (σ : MS) (a4 : Int32 × Int32) : Option ((Int32 × Int32) ⊕ (Int32)) := (if (σ 171 11) ≤ a4.2 then ((if a4.1 = 0 ∨ a4.1 = 1 then some a4.1 else none)).map Sum.inr else (if inb (a4.2 + (1 : Int32)) 400 then (if inb a4.2 400 then (if a4.1 = 0 then J_X12_fits_65 n v1 a4.2 σ else ((f_J6_bitCount_0f7a4 (v1 &&& ((shlI (1 : Int32) ((σ 177 (ix (a4.2 + (1 : Int32)))) + (1 : Int32))) - (shlI (1 : Int32) (σ 177 (ix a4.2))))) σ).bind (fun q43 => (if inb (a4.2 + (2 : Int32)) 400 then (if q43 = ((σ 177 (ix (a4.2 + (2 : Int32)))) &&& (255 : Int32)) then J_X12_fits_66 n v1 a4.2 (1 : Int32) σ else J_X12_fits_65 n v1 a4.2 σ) else none)))) else none) else none))
def f_X12_fits (n : Nat) (p1 : Int32) (σ : MS) : Option (Int32) := itr (L_X12_fits_4 n p1 σ) n ((1 : Int32), (0 : Int32))
set_option maxRecDepth 20000 in
set_option maxHeartbeats 2000000 in
theorem c_X12_fits (w : TG) (n : Nat) (p1 : Int32) (σ : MS) : MC m_X12_fits w [.ref (wB w + 171), .int p1] σ ((f_X12_fits n p1 σ).map (fun r => (r, σ))) := by
  refine V_methp (by decide +kernel) (Nat.le_of_ble_eq_true rfl) (by intro v hv; simp only [List.mem_cons, List.not_mem_nil, or_false] at hv; rcases hv with rfl | rfl <;> rfl) (fun g x => ?_)
  show VV m_X12_fits w g 0 0 (QM m_X12_fits w g x) (fun b : Int32 => (b, σ) = x) 0 [some (.ref (wB w + 171)), some (.int p1), none, none, none] [] σ (f_X12_fits n p1 σ)
  have hL4 : ∀  (n0 : Nat) (a : Int32 × Int32), VV m_X12_fits w g 0 0 (QM m_X12_fits w g x) (fun b : Int32 => (b, σ) = x) 4 [some (.ref (wB w + 171)), some (.int p1), some (.int a.1), some (.int a.2), none] [] σ (itr (L_X12_fits_4 n p1 σ) n0 a) := by
    refine V_itr (vf := fun a : Int32 × Int32 => [some (.ref (wB w + 171)), some (.int p1), some (.int a.1), some (.int a.2), none]) (sf := fun a : Int32 × Int32 => σ) (fun κ4 b4 r4 a4 => ?_)
    obtain ⟨a4_1, a4_2⟩ := a4
    show VV m_X12_fits w g 0 0 (QM m_X12_fits w g x) κ4 4 [some (.ref (wB w + 171)), some (.int p1), some (.int a4_1), some (.int a4_2), none] [] σ (L_X12_fits_4 n p1 σ (a4_1, a4_2))
    have hJ66 : ∀ (v3 : Int32) (t0 : Int32), VV m_X12_fits w g 0 0 (QM m_X12_fits w g x) κ4 66 [some (.ref (wB w + 171)), some (.int p1), none, some (.int v3), none] [.int t0] σ (J_X12_fits_66 n p1 v3 t0 σ) := by
      intro v3 t0
      refine V_istore_n (pc := 66) (vs' := [some (.ref (wB w + 171)), some (.int p1), some (.int t0), some (.int v3), none]) dX12_fits_66 rfl (Nat.le_of_ble_eq_true rfl) (Nat.le_of_ble_eq_true rfl) rfl ?_
      refine V_iincC (pc := 67) (vs' := [some (.ref (wB w + 171)), some (.int p1), some (.int t0), some (.int (v3 + (3 : Int32))), none]) dX12_fits_67 (Nat.le_of_ble_eq_true rfl) rfl ic_3 rfl ?_
      refine V_goto (pc := 70) (tgt := 4) dX12_fits_70 (by decide +kernel) ?_
      exact V_back (b4 (t0, (v3 + (3 : Int32))))
    have hJ65 : ∀ (v3 : Int32), VV m_X12_fits w g 0 0 (QM m_X12_fits w g x) κ4 65 [some (.ref (wB w + 171)), some (.int p1), none, some (.int v3), none] [] σ (J_X12_fits_65 n p1 v3 σ) := by
      intro v3
      refine V_iconst (pc := 65) dX12_fits_65 ic_0 ?_
      exact hJ66 v3 (0 : Int32)
    refine V_iload_n (pc := 4) dX12_fits_4 rfl rfl ?_
    refine V_aload_n (pc := 5) dX12_fits_5 rfl rfl ?_
    refine V_geti (pc := 6) fk_X12_90 rfl dX12_fits_6 kc_171 rf_12_11_171 ?_
    refine V_icmp_ge (pc := 9) (tgt := 73) dX12_fits_9 (by decide +kernel) ?_ ?_
    · refine V_exit r4 ?_
      refine V_iload_n (pc := 73) dX12_fits_73 rfl rfl ?_
      exact V_iretZ (pc := 74) dX12_fits_74 rfl (hk := fun h => h)
    · refine V_iconst (pc := 12) dX12_fits_12 ic_1 ?_
      refine V_aload_n (pc := 13) dX12_fits_13 rfl rfl ?_
      refine V_getr (pc := 14) (t := 177) fk_X12_29 rfl dX12_fits_14 kc_171 rf_12_8_171 ?_
      refine V_iload_n (pc := 17) dX12_fits_17 rfl rfl ?_
      refine V_iconst (pc := 18) dX12_fits_18 ic_1 ?_
      refine V_iadd (pc := 19) dX12_fits_19 ?_
      refine V_bald (pc := 20) (n := 400) dX12_fits_20 kc_177 lc_177 ?_
      refine V_iconst (pc := 21) dX12_fits_21 ic_1 ?_
      refine V_iadd (pc := 22) dX12_fits_22 ?_
      refine V_ishl (pc := 23) dX12_fits_23 ?_
      refine V_iconst (pc := 24) dX12_fits_24 ic_1 ?_
      refine V_aload_n (pc := 25) dX12_fits_25 rfl rfl ?_
      refine V_getr (pc := 26) (t := 177) fk_X12_29 rfl dX12_fits_26 kc_171 rf_12_8_171 ?_
      refine V_iload_n (pc := 29) dX12_fits_29 rfl rfl ?_
      refine V_bald (pc := 30) (n := 400) dX12_fits_30 kc_177 lc_177 ?_
      refine V_ishl (pc := 31) dX12_fits_31 ?_
      refine V_isub (pc := 32) dX12_fits_32 ?_
      refine V_istore (pc := 33) (vs' := [some (.ref (wB w + 171)), some (.int p1), some (.int a4_1), some (.int a4_2), some (.int ((shlI (1 : Int32) ((σ 177 (ix (a4_2 + (1 : Int32)))) + (1 : Int32))) - (shlI (1 : Int32) (σ 177 (ix a4_2)))))]) dX12_fits_33 (Nat.le_of_ble_eq_true rfl) (Nat.le_of_ble_eq_true rfl) rfl ?_
      refine V_iload_n (pc := 35) dX12_fits_35 rfl rfl ?_
      refine V_if_eq (pc := 36) (tgt := 65) dX12_fits_36 (by decide +kernel) ?_ ?_
      · refine V_sub (vs' := [some (.ref (wB w + 171)), some (.int p1), none, some (.int a4_2), none]) (show vless _ _ from ⟨rfl, ⟨rfl, ⟨rfl, trivial⟩⟩⟩) rfl ?_
        exact hJ65 a4_2
      · refine V_iload_n (pc := 39) dX12_fits_39 rfl rfl ?_
        refine V_iload (pc := 40) dX12_fits_40 rfl ?_
        refine V_iand (pc := 42) dX12_fits_42 ?_
        refine V_callSpi (pc := 43) (As := [.int (p1 &&& ((shlI (1 : Int32) ((σ 177 (ix (a4_2 + (1 : Int32)))) + (1 : Int32))) - (shlI (1 : Int32) (σ 177 (ix a4_2)))))]) (rest := []) (c_J6_bitCount_0f7a4 w (p1 &&& ((shlI (1 : Int32) ((σ 177 (ix (a4_2 + (1 : Int32)))) + (1 : Int32))) - (shlI (1 : Int32) (σ 177 (ix a4_2))))) σ) cs_X12_318 rfl rfl dX12_fits_43 ⟨Nat.le_of_ble_eq_true rfl, Nat.le_of_ble_eq_true rfl⟩ rfl rfl (Nat.le_of_ble_eq_true rfl) (Nat.le_of_ble_eq_true rfl) (Nat.le_of_ble_eq_true rfl) rfl (fun q43 => ?_)
        refine V_aload_n (pc := 46) dX12_fits_46 rfl rfl ?_
        refine V_getr (pc := 47) (t := 177) fk_X12_29 rfl dX12_fits_47 kc_171 rf_12_8_171 ?_
        refine V_iload_n (pc := 50) dX12_fits_50 rfl rfl ?_
        refine V_iconst (pc := 51) dX12_fits_51 ic_2 ?_
        refine V_iadd (pc := 52) dX12_fits_52 ?_
        refine V_bald (pc := 53) (n := 400) dX12_fits_53 kc_177 lc_177 ?_
        refine V_sipush (pc := 54) dX12_fits_54 sp_255 ?_
        refine V_iand (pc := 57) dX12_fits_57 ?_
        refine V_icmp_ne (pc := 58) (tgt := 65) dX12_fits_58 (by decide +kernel) ?_ ?_
        · refine V_sub (vs' := [some (.ref (wB w + 171)), some (.int p1), none, some (.int a4_2), none]) (show vless _ _ from ⟨rfl, ⟨rfl, ⟨rfl, trivial⟩⟩⟩) rfl ?_
          exact hJ65 a4_2
        · refine V_iconst (pc := 61) dX12_fits_61 ic_1 ?_
          refine V_goto (pc := 62) (tgt := 66) dX12_fits_62 (by decide +kernel) ?_
          refine V_sub (vs' := [some (.ref (wB w + 171)), some (.int p1), none, some (.int a4_2), none]) (show vless _ _ from ⟨rfl, ⟨rfl, ⟨rfl, trivial⟩⟩⟩) rfl ?_
          exact hJ66 a4_2 (1 : Int32)
  refine V_iconst (pc := 0) dX12_fits_0 ic_1 ?_
  refine V_istore_n (pc := 1) (vs' := [some (.ref (wB w + 171)), some (.int p1), some (.int (1 : Int32)), none, none]) dX12_fits_1 rfl (Nat.le_of_ble_eq_true rfl) (Nat.le_of_ble_eq_true rfl) rfl ?_
  refine V_iconst (pc := 2) dX12_fits_2 ic_0 ?_
  refine V_istore_n (pc := 3) (vs' := [some (.ref (wB w + 171)), some (.int p1), some (.int (1 : Int32)), some (.int (0 : Int32)), none]) dX12_fits_3 rfl (Nat.le_of_ble_eq_true rfl) (Nat.le_of_ble_eq_true rfl) rfl ?_
  exact hL4 n ((1 : Int32), (0 : Int32))
def J_X12_drank_88 (n : Nat) (t0 : Int32) (σ : MS) : Option (Int32 × MS) := some (t0, σ)
def J_X12_drank_65 (n : Nat) (v1 : Int32) (v2 : Int32) (v3 : Int32) (v4 : Int32) (σ : MS) : Option ((Int32 × Int32 × Int32) ⊕ (Int32 × MS)) := some (.inl (v2, v3, (v4 + (1 : Int32))))
def L_X12_drank_36 (n : Nat) (v1 : Int32) (σ : MS) (a36 : Int32 × Int32 × Int32) : Option ((Int32 × Int32 × Int32) ⊕ (Int32 × MS)) := ((f_X12_everybody  σ).bind (fun q39 => (if q39 < a36.2.2 then ((if v1 = 0 then J_X12_drank_88 n a36.1 σ else (if a36.1 = 0 then J_X12_drank_88 n (0 : Int32) σ else J_X12_drank_88 n a36.2.1 σ))).map Sum.inr else ((f_X12_fits n a36.2.2 σ).bind (fun q48 => (if q48 = 0 then J_X12_drank_65 n v1 a36.1 a36.2.1 a36.2.2 σ else J_X12_drank_65 n v1 (a36.1 + (1 : Int32)) (a36.2.1 &&& a36.2.2) a36.2.2 σ))))))
def J_X12_drank_17 (n : Nat) (v1 : Int32) (t0 : Int32) (σ : MS) : Option (Int32 × MS) := ((f_X12_throwsIf t0 (1 : Int32) σ).bind (fun q18 => (if q18.1 = 0 then ((f_X12_everybody  q18.2).bind (fun q29 => itr (L_X12_drank_36 n v1 q18.2) n ((0 : Int32), q29, (0 : Int32)))) else some ((0 : Int32), q18.2))))
def f_X12_drank (n : Nat) (p1 : Int32) (σ : MS) : Option (Int32 × MS) := ((f_X12_uses  σ).bind (fun q1 => ((f_X12_isTold n  q1.2).bind (fun q6 => (if q6 = 0 then J_X12_drank_17 n p1 (1 : Int32) q1.2 else J_X12_drank_17 n p1 (0 : Int32) q1.2)))))
set_option maxRecDepth 20000 in
set_option maxHeartbeats 2000000 in
theorem c_X12_drank (w : TG) (n : Nat) (p1 : Int32) (σ : MS) : MC m_X12_drank w [.ref (wB w + 171), .int p1] σ (f_X12_drank n p1 σ) := by
  refine V_meth (by decide +kernel) (Nat.le_of_ble_eq_true rfl) (by intro v hv; simp only [List.mem_cons, List.not_mem_nil, or_false] at hv; rcases hv with rfl | rfl <;> rfl) (fun g x => ?_)
  show VV m_X12_drank w g 0 0 (QM m_X12_drank w g x) (fun b : Int32 × MS => b = x) 0 [some (.ref (wB w + 171)), some (.int p1), none, none, none] [] σ (f_X12_drank n p1 σ)
  have hJ88 : ∀ (t0 : Int32) (σ : MS), VV m_X12_drank w g 0 0 (QM m_X12_drank w g x) (fun b : Int32 × MS => b = x) 88 [none, none, none, none, none] [.int t0] σ (J_X12_drank_88 n t0 σ) := by
    intro t0 σ
    exact V_ireti (pc := 88) dX12_drank_88 rfl (hk := fun h => h)
  have hL36 : ∀ (σ : MS) (n0 : Nat) (a : Int32 × Int32 × Int32), VV m_X12_drank w g 0 0 (QM m_X12_drank w g x) (fun b : Int32 × MS => b = x) 36 [some (.ref (wB w + 171)), some (.int p1), some (.int a.1), some (.int a.2.1), some (.int a.2.2)] [] σ (itr (L_X12_drank_36 n p1 σ) n0 a) := by
    intro σ
    refine V_itr (vf := fun a : Int32 × Int32 × Int32 => [some (.ref (wB w + 171)), some (.int p1), some (.int a.1), some (.int a.2.1), some (.int a.2.2)]) (sf := fun a : Int32 × Int32 × Int32 => σ) (fun κ36 b36 r36 a36 => ?_)
    obtain ⟨a36_1, a36_2, a36_3⟩ := a36
    show VV m_X12_drank w g 0 0 (QM m_X12_drank w g x) κ36 36 [some (.ref (wB w + 171)), some (.int p1), some (.int a36_1), some (.int a36_2), some (.int a36_3)] [] σ (L_X12_drank_36 n p1 σ (a36_1, a36_2, a36_3))
    have hJ65 : ∀ (v2 : Int32) (v3 : Int32) (v4 : Int32), VV m_X12_drank w g 0 0 (QM m_X12_drank w g x) κ36 65 [some (.ref (wB w + 171)), some (.int p1), some (.int v2), some (.int v3), some (.int v4)] [] σ (J_X12_drank_65 n p1 v2 v3 v4 σ) := by
      intro v2 v3 v4
      refine V_iincC (pc := 65) (vs' := [some (.ref (wB w + 171)), some (.int p1), some (.int v2), some (.int v3), some (.int (v4 + (1 : Int32)))]) dX12_drank_65 (Nat.le_of_ble_eq_true rfl) rfl ic_1 rfl ?_
      refine V_goto (pc := 68) (tgt := 36) dX12_drank_68 (by decide +kernel) ?_
      exact V_back (b36 (v2, v3, (v4 + (1 : Int32))))
    refine V_iload (pc := 36) dX12_drank_36 rfl ?_
    refine V_aload_n (pc := 38) dX12_drank_38 rfl rfl ?_
    refine V_callVpi (pc := 39) (As := []) (rest := [.int a36_3]) (c_X12_everybody w  σ) cw_X12_327 rfl rfl dX12_drank_39 kc_171 ci_12 ⟨Nat.le_of_ble_eq_true rfl, Nat.le_of_ble_eq_true rfl⟩ rfl rfl (Nat.le_of_ble_eq_true rfl) (Nat.le_of_ble_eq_true rfl) (Nat.le_of_ble_eq_true rfl) rfl (fun q39 => ?_)
    refine V_icmp_gt (pc := 42) (tgt := 71) dX12_drank_42 (by decide +kernel) ?_ ?_
    · refine V_exit r36 ?_
      refine V_iload_n (pc := 71) dX12_drank_71 rfl rfl ?_
      refine V_if_ne (pc := 72) (tgt := 79) dX12_drank_72 (by decide +kernel) ?_ ?_
      · refine V_iload_n (pc := 79) dX12_drank_79 rfl rfl ?_
        refine V_if_ne (pc := 80) (tgt := 87) dX12_drank_80 (by decide +kernel) ?_ ?_
        · refine V_iload_n (pc := 87) dX12_drank_87 rfl rfl ?_
          refine V_sub (vs' := [none, none, none, none, none]) (show vless _ _ from trivial) rfl ?_
          exact hJ88 a36_2 σ
        · refine V_iconst (pc := 83) dX12_drank_83 ic_0 ?_
          refine V_goto (pc := 84) (tgt := 88) dX12_drank_84 (by decide +kernel) ?_
          refine V_sub (vs' := [none, none, none, none, none]) (show vless _ _ from trivial) rfl ?_
          exact hJ88 (0 : Int32) σ
      · refine V_iload_n (pc := 75) dX12_drank_75 rfl rfl ?_
        refine V_goto (pc := 76) (tgt := 88) dX12_drank_76 (by decide +kernel) ?_
        refine V_sub (vs' := [none, none, none, none, none]) (show vless _ _ from trivial) rfl ?_
        exact hJ88 a36_1 σ
    · refine V_aload_n (pc := 45) dX12_drank_45 rfl rfl ?_
      refine V_iload (pc := 46) dX12_drank_46 rfl ?_
      refine V_callVpi (pc := 48) (As := [.int a36_3]) (rest := []) (c_X12_fits w n a36_3 σ) cw_X12_415 rfl rfl dX12_drank_48 kc_171 ci_12 ⟨Nat.le_of_ble_eq_true rfl, Nat.le_of_ble_eq_true rfl⟩ rfl rfl (Nat.le_of_ble_eq_true rfl) (Nat.le_of_ble_eq_true rfl) (Nat.le_of_ble_eq_true rfl) rfl (fun q48 => ?_)
      refine V_if_ne (pc := 51) (tgt := 57) dX12_drank_51 (by decide +kernel) ?_ ?_
      · refine V_iincC (pc := 57) (vs' := [some (.ref (wB w + 171)), some (.int p1), some (.int (a36_1 + (1 : Int32))), some (.int a36_2), some (.int a36_3)]) dX12_drank_57 (Nat.le_of_ble_eq_true rfl) rfl ic_1 rfl ?_
        refine V_iload_n (pc := 60) dX12_drank_60 rfl rfl ?_
        refine V_iload (pc := 61) dX12_drank_61 rfl ?_
        refine V_iand (pc := 63) dX12_drank_63 ?_
        refine V_istore_n (pc := 64) (vs' := [some (.ref (wB w + 171)), some (.int p1), some (.int (a36_1 + (1 : Int32))), some (.int (a36_2 &&& a36_3)), some (.int a36_3)]) dX12_drank_64 rfl (Nat.le_of_ble_eq_true rfl) (Nat.le_of_ble_eq_true rfl) rfl ?_
        exact hJ65 (a36_1 + (1 : Int32)) (a36_2 &&& a36_3) a36_3
      · refine V_goto (pc := 54) (tgt := 65) dX12_drank_54 (by decide +kernel) ?_
        exact hJ65 a36_1 a36_2 a36_3
  have hJ17 : ∀ (t0 : Int32) (σ : MS), VV m_X12_drank w g 0 0 (QM m_X12_drank w g x) (fun b : Int32 × MS => b = x) 17 [some (.ref (wB w + 171)), some (.int p1), none, none, none] [.int t0, .ref (wB w + 171)] σ (J_X12_drank_17 n p1 t0 σ) := by
    intro t0 σ
    refine V_iconst (pc := 17) dX12_drank_17 ic_1 ?_
    refine V_callVi (pc := 18) (As := [.int t0, .int (1 : Int32)]) (rest := []) (c_X12_throwsIf w t0 (1 : Int32) σ) cw_X12_257 rfl rfl dX12_drank_18 kc_171 ci_12 ⟨Nat.le_of_ble_eq_true rfl, Nat.le_of_ble_eq_true rfl⟩ rfl rfl (Nat.le_of_ble_eq_true rfl) (Nat.le_of_ble_eq_true rfl) (Nat.le_of_ble_eq_true rfl) rfl (fun q18 => ?_)
    refine V_if_eq (pc := 21) (tgt := 26) dX12_drank_21 (by decide +kernel) ?_ ?_
    · refine V_iconst (pc := 26) dX12_drank_26 ic_0 ?_
      refine V_istore_n (pc := 27) (vs' := [some (.ref (wB w + 171)), some (.int p1), some (.int (0 : Int32)), none, none]) dX12_drank_27 rfl (Nat.le_of_ble_eq_true rfl) (Nat.le_of_ble_eq_true rfl) rfl ?_
      refine V_aload_n (pc := 28) dX12_drank_28 rfl rfl ?_
      refine V_callVpi (pc := 29) (As := []) (rest := []) (c_X12_everybody w  q18.2) cw_X12_327 rfl rfl dX12_drank_29 kc_171 ci_12 ⟨Nat.le_of_ble_eq_true rfl, Nat.le_of_ble_eq_true rfl⟩ rfl rfl (Nat.le_of_ble_eq_true rfl) (Nat.le_of_ble_eq_true rfl) (Nat.le_of_ble_eq_true rfl) rfl (fun q29 => ?_)
      refine V_istore_n (pc := 32) (vs' := [some (.ref (wB w + 171)), some (.int p1), some (.int (0 : Int32)), some (.int q29), none]) dX12_drank_32 rfl (Nat.le_of_ble_eq_true rfl) (Nat.le_of_ble_eq_true rfl) rfl ?_
      refine V_iconst (pc := 33) dX12_drank_33 ic_0 ?_
      refine V_istore (pc := 34) (vs' := [some (.ref (wB w + 171)), some (.int p1), some (.int (0 : Int32)), some (.int q29), some (.int (0 : Int32))]) dX12_drank_34 (Nat.le_of_ble_eq_true rfl) (Nat.le_of_ble_eq_true rfl) rfl ?_
      exact hL36 q18.2 n ((0 : Int32), q29, (0 : Int32))
    · refine V_iconst (pc := 24) dX12_drank_24 ic_0 ?_
      exact V_ireti (pc := 25) dX12_drank_25 rfl (hk := fun h => h)
  refine V_aload_n (pc := 0) dX12_drank_0 rfl rfl ?_
  refine V_callVv (pc := 1) (As := []) (rest := []) (c_X12_uses w  σ) cw_X12_246 rfl rfl dX12_drank_1 kc_171 ci_12 ⟨Nat.le_of_ble_eq_true rfl, Nat.le_of_ble_eq_true rfl⟩ rfl rfl (Nat.le_of_ble_eq_true rfl) (Nat.le_of_ble_eq_true rfl) (Nat.le_of_ble_eq_true rfl) rfl (fun q1 => ?_)
  refine V_aload_n (pc := 4) dX12_drank_4 rfl rfl ?_
  refine V_aload_n (pc := 5) dX12_drank_5 rfl rfl ?_
  refine V_callVpi (pc := 6) (As := []) (rest := [.ref (wB w + 171)]) (c_X12_isTold w n  q1.2) cw_X12_412 rfl rfl dX12_drank_6 kc_171 ci_12 ⟨Nat.le_of_ble_eq_true rfl, Nat.le_of_ble_eq_true rfl⟩ rfl rfl (Nat.le_of_ble_eq_true rfl) (Nat.le_of_ble_eq_true rfl) (Nat.le_of_ble_eq_true rfl) rfl (fun q6 => ?_)
  refine V_if_ne (pc := 9) (tgt := 16) dX12_drank_9 (by decide +kernel) ?_ ?_
  · refine V_iconst (pc := 16) dX12_drank_16 ic_0 ?_
    exact hJ17 (0 : Int32) q1.2
  · refine V_iconst (pc := 12) dX12_drank_12 ic_1 ?_
    refine V_goto (pc := 13) (tgt := 17) dX12_drank_13 (by decide +kernel) ?_
    exact hJ17 (1 : Int32) q1.2
