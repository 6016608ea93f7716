def m_X12_readLine : MD := (yX12_readLine, cX12_readLine, 3, (some .boolean), 39, 936, 0, 0)
def m_X12_readAll : MD := (yX12_readAll, cX12_readAll, 3, (some .int), 40, 958, 0, 0)
def m_X12_house : MD := (yX12_house, cX12_house, 3, (some .int), 41, 980, 0, 0)
def m_X12_law : MD := (yX12_law, cX12_law, 3, (some .int), 41, 980, 0, 0)
def m_X12_factOf : MD := (yX12_factOf, cX12_factOf, 3, (some .int), 3, 65, 0, 0)
def m_X12_holdsLine : MD := (yX12_holdsLine, cX12_holdsLine, 9, (some .boolean), 4, 87, 0, 0)
def m_X12_sumOf : MD := (yX12_sumOf, cX12_sumOf, 4, (some .int), 5, 115, 0, 0)
def m_X12_looks : MD := (yX12_looks, cX12_looks, 5, none, 4, 200, 0, 0)
def m_X12_bindsBy : MD := (yX12_bindsBy, cX12_bindsBy, 1, (some .int), 6, 200, 0, 0)
def m_X12_lastsFor : MD := (yX12_lastsFor, cX12_lastsFor, 1, (some .int), 6, 138, 0, 0)
def m_X12_suspectsBy : MD := (yX12_suspectsBy, cX12_suspectsBy, 1, (some .int), 6, 138, 0, 0)
def m_X12_sipBinds : MD := (yX12_sipBinds, cX12_sipBinds, 2, (some .int), 7, 220, 0, 0)
def m_X12_noBoth : MD := (yX12_noBoth, cX12_noBoth, 3, (some .boolean), 2, 43, 0, 0)
def m_X12_told : MD := (yX12_told, cX12_told, 6, (some .int), 7, 224, 0, 0)
def m_X12_sips : MD := (yX12_sips, cX12_sips, 10, (some .boolean), 8, 241, 0, 0)
theorem wm_X12_readLawLine : wmp m_X12_readLawLine 1 := ⟨gx 1716 (by decide +kernel) (by decide +kernel), gx 65 (by decide +kernel) (by decide +kernel), gx 138 (by decide +kernel) (by decide +kernel), gx 1717 (by decide +kernel) (by decide +kernel), by decide +kernel, by decide +kernel, by decide +kernel⟩
theorem cw_X12_243 : cwp RX12 243 m_X12_readLawLine 1 := cwp_of wm_X12_readLawLine (gx 1714 (by decide +kernel) (by decide +kernel))
theorem wm_X12_readHouseLine : wmp m_X12_readHouseLine 0 := ⟨gx 1625 (by decide +kernel) (by decide +kernel), gx 49 (by decide +kernel) (by decide +kernel), gx 138 (by decide +kernel) (by decide +kernel), gx 1626 (by decide +kernel) (by decide +kernel), by decide +kernel, by decide +kernel, by decide +kernel⟩
theorem cw_X12_240 : cwp RX12 240 m_X12_readHouseLine 0 := cwp_of wm_X12_readHouseLine (gx 1623 (by decide +kernel) (by decide +kernel))
theorem wm_X12_readLine : wmp m_X12_readLine 2 := ⟨gx 1617 (by decide +kernel) (by decide +kernel), gx 47 (by decide +kernel) (by decide +kernel), gx 138 (by decide +kernel) (by decide +kernel), gx 1618 (by decide +kernel) (by decide +kernel), by decide +kernel, by decide +kernel, by decide +kernel⟩
theorem cw_X12_249 : cwp RX12 249 m_X12_readLine 2 := cwp_of wm_X12_readLine (gx 1615 (by decide +kernel) (by decide +kernel))
theorem wm_X12_uses : wmp m_X12_uses 0 := ⟨gx 1605 (by decide +kernel) (by decide +kernel), gx 44 (by decide +kernel) (by decide +kernel), gx 138 (by decide +kernel) (by decide +kernel), gx 1606 (by decide +kernel) (by decide +kernel), by decide +kernel, by decide +kernel, by decide +kernel⟩
theorem cw_X12_246 : cwp RX12 246 m_X12_uses 0 := cwp_of wm_X12_uses (gx 1603 (by decide +kernel) (by decide +kernel))
theorem fk_X12_20 : fk RX12 20 12 3 := ⟨_, _, _, rfl, in_12, by decide, rfl, by decide, gx 1498 (by decide +kernel) (by decide +kernel)⟩
theorem wm_X12_throwsIf : wmp m_X12_throwsIf 2 := ⟨gx 1769 (by decide +kernel) (by decide +kernel), gx 75 (by decide +kernel) (by decide +kernel), gx 138 (by decide +kernel) (by decide +kernel), gx 1770 (by decide +kernel) (by decide +kernel), by decide +kernel, by decide +kernel, by decide +kernel⟩
theorem cw_X12_257 : cwp RX12 257 m_X12_throwsIf 2 := cwp_of wm_X12_throwsIf (gx 1767 (by decide +kernel) (by decide +kernel))
theorem fp_X12_33 : fp RX12 33 12 14 .int := ⟨_, _, _, tyX12, rfl, in_12, by decide, rfl, by decide, gx 1509 (by decide +kernel) (by decide +kernel), rfl, by decide +kernel, tyX12_ok, nmX12⟩
theorem wm_X12_readAll : wmp m_X12_readAll 1 := ⟨gx 1601 (by decide +kernel) (by decide +kernel), gx 43 (by decide +kernel) (by decide +kernel), gx 138 (by decide +kernel) (by decide +kernel), gx 1602 (by decide +kernel) (by decide +kernel), by decide +kernel, by decide +kernel, by decide +kernel⟩
theorem cw_X12_253 : cwp RX12 253 m_X12_readAll 1 := cwp_of wm_X12_readAll (gx 1599 (by decide +kernel) (by decide +kernel))
theorem fk_X12_260 : fk RX12 260 12 18 := ⟨_, _, _, rfl, in_12, by decide, rfl, by decide, gx 1513 (by decide +kernel) (by decide +kernel)⟩
theorem fk_X12_263 : fk RX12 263 12 19 := ⟨_, _, _, rfl, in_12, by decide, rfl, by decide, gx 1514 (by decide +kernel) (by decide +kernel)⟩
theorem fk_X12_266 : fk RX12 266 12 20 := ⟨_, _, _, rfl, in_12, by decide, rfl, by decide, gx 1515 (by decide +kernel) (by decide +kernel)⟩
theorem fk_X12_269 : fk RX12 269 12 21 := ⟨_, _, _, rfl, in_12, by decide, rfl, by decide, gx 1516 (by decide +kernel) (by decide +kernel)⟩
theorem wm_X12_likes : wmp m_X12_likes 2 := ⟨gx 1811 (by decide +kernel) (by decide +kernel), gx 83 (by decide +kernel) (by decide +kernel), gx 138 (by decide +kernel) (by decide +kernel), gx 1812 (by decide +kernel) (by decide +kernel), by decide +kernel, by decide +kernel, by decide +kernel⟩
theorem cw_X12_272 : cwp RX12 272 m_X12_likes 2 := cwp_of wm_X12_likes (gx 1809 (by decide +kernel) (by decide +kernel))
theorem wm_X12_areWed : wmp m_X12_areWed 2 := ⟨gx 1815 (by decide +kernel) (by decide +kernel), gx 84 (by decide +kernel) (by decide +kernel), gx 138 (by decide +kernel) (by decide +kernel), gx 1816 (by decide +kernel) (by decide +kernel), by decide +kernel, by decide +kernel, by decide +kernel⟩
theorem cw_X12_274 : cwp RX12 274 m_X12_areWed 2 := cwp_of wm_X12_areWed (gx 1813 (by decide +kernel) (by decide +kernel))
theorem fk_X12_39 : fk RX12 39 12 17 := ⟨_, _, _, rfl, in_12, by decide, rfl, by decide, gx 1512 (by decide +kernel) (by decide +kernel)⟩
theorem wm_X12_factOf : wmp m_X12_factOf 2 := ⟨gx 1807 (by decide +kernel) (by decide +kernel), gx 82 (by decide +kernel) (by decide +kernel), gx 138 (by decide +kernel) (by decide +kernel), gx 1808 (by decide +kernel) (by decide +kernel), by decide +kernel, by decide +kernel, by decide +kernel⟩
theorem cw_X12_277 : cwp RX12 277 m_X12_factOf 2 := cwp_of wm_X12_factOf (gx 1805 (by decide +kernel) (by decide +kernel))
theorem wm_X12_holdsLine : wmp m_X12_holdsLine 1 := ⟨gx 1803 (by decide +kernel) (by decide +kernel), gx 81 (by decide +kernel) (by decide +kernel), gx 138 (by decide +kernel) (by decide +kernel), gx 1804 (by decide +kernel) (by decide +kernel), by decide +kernel, by decide +kernel, by decide +kernel⟩
theorem cw_X12_280 : cwp RX12 280 m_X12_holdsLine 1 := cwp_of wm_X12_holdsLine (gx 1801 (by decide +kernel) (by decide +kernel))
theorem mw_X12_283 : Cond.methodLink RX12 283 Lib.Math.min.name ∈ gtb ∧ Cond.static Lib.Math.min.name ∈ gtb ∧ Cond.initialized "java/lang/Math" ∈ gtb ∧ Cond.code Lib.Math.min.name Lib.Math.min.code 2 (some .int) ∈ gtb := ⟨gx 1791 (by decide +kernel) (by decide +kernel), math_min⟩
theorem fp_X12_260 : fp RX12 260 12 18 .int := ⟨_, _, _, tyX12, rfl, in_12, by decide, rfl, by decide, gx 1513 (by decide +kernel) (by decide +kernel), rfl, by decide +kernel, tyX12_ok, nmX12⟩
theorem mw_X12_288 : Cond.methodLink RX12 288 Lib.Math.max.name ∈ gtb ∧ Cond.static Lib.Math.max.name ∈ gtb ∧ Cond.initialized "java/lang/Math" ∈ gtb ∧ Cond.code Lib.Math.max.name Lib.Math.max.code 2 (some .int) ∈ gtb := ⟨gx 1792 (by decide +kernel) (by decide +kernel), math_max⟩
theorem fp_X12_263 : fp RX12 263 12 19 .int := ⟨_, _, _, tyX12, rfl, in_12, by decide, rfl, by decide, gx 1514 (by decide +kernel) (by decide +kernel), rfl, by decide +kernel, tyX12_ok, nmX12⟩
theorem fp_X12_266 : fp RX12 266 12 20 .int := ⟨_, _, _, tyX12, rfl, in_12, by decide, rfl, by decide, gx 1515 (by decide +kernel) (by decide +kernel), rfl, by decide +kernel, tyX12_ok, nmX12⟩
theorem fp_X12_269 : fp RX12 269 12 21 .int := ⟨_, _, _, tyX12, rfl, in_12, by decide, rfl, by decide, gx 1516 (by decide +kernel) (by decide +kernel), rfl, by decide +kernel, tyX12_ok, nmX12⟩
theorem wm_X12_sumOf : wmp m_X12_sumOf 1 := ⟨gx 1799 (by decide +kernel) (by decide +kernel), gx 80 (by decide +kernel) (by decide +kernel), gx 138 (by decide +kernel) (by decide +kernel), gx 1800 (by decide +kernel) (by decide +kernel), by decide +kernel, by decide +kernel, by decide +kernel⟩
theorem cw_X12_291 : cwp RX12 291 m_X12_sumOf 1 := cwp_of wm_X12_sumOf (gx 1797 (by decide +kernel) (by decide +kernel))
theorem wm_X12_bindsBy : wmp m_X12_bindsBy 0 := ⟨gx 1795 (by decide +kernel) (by decide +kernel), gx 79 (by decide +kernel) (by decide +kernel), gx 138 (by decide +kernel) (by decide +kernel), gx 1796 (by decide +kernel) (by decide +kernel), by decide +kernel, by decide +kernel, by decide +kernel⟩
theorem cw_X12_294 : cwp RX12 294 m_X12_bindsBy 0 := cwp_of wm_X12_bindsBy (gx 1793 (by decide +kernel) (by decide +kernel))
theorem wm_X12_noPerson : wmp m_X12_noPerson 1 := ⟨gx 1785 (by decide +kernel) (by decide +kernel), gx 77 (by decide +kernel) (by decide +kernel), gx 138 (by decide +kernel) (by decide +kernel), gx 1786 (by decide +kernel) (by decide +kernel), by decide +kernel, by decide +kernel, by decide +kernel⟩
theorem cw_X12_297 : cwp RX12 297 m_X12_noPerson 1 := cwp_of wm_X12_noPerson (gx 1783 (by decide +kernel) (by decide +kernel))
theorem wm_X12_looks : wmp m_X12_looks 4 := ⟨gx 1789 (by decide +kernel) (by decide +kernel), gx 78 (by decide +kernel) (by decide +kernel), gx 138 (by decide +kernel) (by decide +kernel), gx 1790 (by decide +kernel) (by decide +kernel), by decide +kernel, by decide +kernel, by decide +kernel⟩
theorem cw_X12_303 : cwp RX12 303 m_X12_looks 4 := cwp_of wm_X12_looks (gx 1787 (by decide +kernel) (by decide +kernel))
theorem wm_X12_suspectsBy : wmp m_X12_suspectsBy 0 := ⟨gx 1827 (by decide +kernel) (by decide +kernel), gx 87 (by decide +kernel) (by decide +kernel), gx 138 (by decide +kernel) (by decide +kernel), gx 1828 (by decide +kernel) (by decide +kernel), by decide +kernel, by decide +kernel, by decide +kernel⟩
theorem cw_X12_309 : cwp RX12 309 m_X12_suspectsBy 0 := cwp_of wm_X12_suspectsBy (gx 1825 (by decide +kernel) (by decide +kernel))
theorem wm_X12_lastsFor : wmp m_X12_lastsFor 0 := ⟨gx 1823 (by decide +kernel) (by decide +kernel), gx 86 (by decide +kernel) (by decide +kernel), gx 138 (by decide +kernel) (by decide +kernel), gx 1824 (by decide +kernel) (by decide +kernel), by decide +kernel, by decide +kernel, by decide +kernel⟩
theorem cw_X12_306 : cwp RX12 306 m_X12_lastsFor 0 := cwp_of wm_X12_lastsFor (gx 1821 (by decide +kernel) (by decide +kernel))
theorem wm_X12_noBoth : wmp m_X12_noBoth 2 := ⟨gx 1781 (by decide +kernel) (by decide +kernel), gx 76 (by decide +kernel) (by decide +kernel), gx 138 (by decide +kernel) (by decide +kernel), gx 1782 (by decide +kernel) (by decide +kernel), by decide +kernel, by decide +kernel, by decide +kernel⟩
theorem cw_X12_300 : cwp RX12 300 m_X12_noBoth 2 := cwp_of wm_X12_noBoth (gx 1779 (by decide +kernel) (by decide +kernel))
theorem wm_X12_sipBinds : wmp m_X12_sipBinds 0 := ⟨gx 1856 (by decide +kernel) (by decide +kernel), gx 93 (by decide +kernel) (by decide +kernel), gx 138 (by decide +kernel) (by decide +kernel), gx 1857 (by decide +kernel) (by decide +kernel), by decide +kernel, by decide +kernel, by decide +kernel⟩
theorem cw_X12_312 : cwp RX12 312 m_X12_sipBinds 0 := cwp_of wm_X12_sipBinds (gx 1854 (by decide +kernel) (by decide +kernel))
theorem wm_X12_bondOf : wmp m_X12_bondOf 2 := ⟨gx 1860 (by decide +kernel) (by decide +kernel), gx 94 (by decide +kernel) (by decide +kernel), gx 138 (by decide +kernel) (by decide +kernel), gx 1861 (by decide +kernel) (by decide +kernel), by decide +kernel, by decide +kernel, by decide +kernel⟩
theorem cw_X12_315 : cwp RX12 315 m_X12_bondOf 2 := cwp_of wm_X12_bondOf (gx 1858 (by decide +kernel) (by decide +kernel))
def J_X12_readLine_46 (n : Nat) (t0 : Int32) (σ : MS) : Option (Int32 × MS) := (if t0 = 0 ∨ t0 = 1 then some (t0, σ) else none)
def J_X12_readLine_45 (n : Nat)  (σ : MS) : Option (Int32 × MS) := J_X12_readLine_46 n (0 : Int32) σ
def J_X12_readLine_41 (n : Nat)  (σ : MS) : Option (Int32 × MS) := J_X12_readLine_46 n (1 : Int32) σ
def J_X12_readLine_16 (n : Nat) (v1 : Int32) (v2 : Int32) (t0 : Int32) (t1 : Int32) (σ : MS) : Option (Int32 × MS) := (if t0 ≤ t1 then J_X12_readLine_45 n  σ else (if v1 = 0 then ((f_X12_readLawLine n v2 σ).bind (fun q35 => (if q35.1 = 0 then J_X12_readLine_45 n  q35.2 else J_X12_readLine_41 n  q35.2))) else ((f_X12_readHouseLine n  σ).bind (fun q24 => (if q24.1 = 0 then J_X12_readLine_45 n  q24.2 else J_X12_readLine_41 n  q24.2)))))
def f_X12_readLine (n : Nat) (p1 : Int32) (p2 : Int32) (σ : MS) : Option (Int32 × MS) := ((f_X12_letters n  σ).bind (fun q1 => (if p1 = 0 then J_X12_readLine_16 n p1 p2 (12 : Int32) p2 q1.2 else J_X12_readLine_16 n p1 p2 (14 : Int32) p2 q1.2)))
set_option maxRecDepth 20000 in
set_option maxHeartbeats 2000000 in
theorem c_X12_readLine (w : TG) (n : Nat) (p1 : Int32) (p2 : Int32) (σ : MS) : MC m_X12_readLine w [.ref (wB w + 171), .int p1, .int p2] σ (f_X12_readLine n p1 p2 σ) := by
  refine V_meth (by decide +kernel) (Nat.le_of_ble_eq_true rfl) (by intro v hv; simp only [List.mem_cons, List.not_mem_nil, or_false] at hv; rcases hv with rfl | rfl | rfl <;> rfl) (fun g x => ?_)
  show VV m_X12_readLine w g 0 0 (QM m_X12_readLine w g x) (fun b : Int32 × MS => b = x) 0 [some (.ref (wB w + 171)), some (.int p1), some (.int p2)] [] σ (f_X12_readLine n p1 p2 σ)
  have hJ46 : ∀ (t0 : Int32) (σ : MS), VV m_X12_readLine w g 0 0 (QM m_X12_readLine w g x) (fun b : Int32 × MS => b = x) 46 [none, none, none] [.int t0] σ (J_X12_readLine_46 n t0 σ) := by
    intro t0 σ
    exact V_iretZ (pc := 46) dX12_readLine_46 rfl (hk := fun h => h)
  have hJ45 : ∀ (σ : MS), VV m_X12_readLine w g 0 0 (QM m_X12_readLine w g x) (fun b : Int32 × MS => b = x) 45 [none, none, none] [] σ (J_X12_readLine_45 n  σ) := by
    intro σ
    refine V_iconst (pc := 45) dX12_readLine_45 ic_0 ?_
    exact hJ46 (0 : Int32) σ
  have hJ41 : ∀ (σ : MS), VV m_X12_readLine w g 0 0 (QM m_X12_readLine w g x) (fun b : Int32 × MS => b = x) 41 [none, none, none] [] σ (J_X12_readLine_41 n  σ) := by
    intro σ
    refine V_iconst (pc := 41) dX12_readLine_41 ic_1 ?_
    refine V_goto (pc := 42) (tgt := 46) dX12_readLine_42 (by decide +kernel) ?_
    exact hJ46 (1 : Int32) σ
  have hJ16 : ∀ (t0 : Int32) (t1 : Int32) (σ : MS), VV m_X12_readLine w g 0 0 (QM m_X12_readLine w g x) (fun b : Int32 × MS => b = x) 16 [some (.ref (wB w + 171)), some (.int p1), some (.int p2)] [.int t0, .int t1] σ (J_X12_readLine_16 n p1 p2 t0 t1 σ) := by
    intro t0 t1 σ
    refine V_icmp_ge (pc := 16) (tgt := 45) dX12_readLine_16 (by decide +kernel) ?_ ?_
    · refine V_sub (vs' := [none, none, none]) (show vless _ _ from trivial) rfl ?_
      exact hJ45 σ
    · refine V_iload_n (pc := 19) dX12_readLine_19 rfl rfl ?_
      refine V_if_eq (pc := 20) (tgt := 33) dX12_readLine_20 (by decide +kernel) ?_ ?_
      · refine V_aload_n (pc := 33) dX12_readLine_33 rfl rfl ?_
        refine V_iload_n (pc := 34) dX12_readLine_34 rfl rfl ?_
        refine V_callVi (pc := 35) (As := [.int p2]) (rest := []) (c_X12_readLawLine w n p2 σ) cw_X12_243 rfl rfl dX12_readLine_35 kc_171 ci_12 ⟨Nat.le_of_ble_eq_true rfl, Nat.le_of_ble_eq_true rfl⟩ rfl rfl (Nat.le_of_ble_eq_true rfl) (Nat.le_of_ble_eq_true rfl) (Nat.le_of_ble_eq_true rfl) rfl (fun q35 => ?_)
        refine V_if_eq (pc := 38) (tgt := 45) dX12_readLine_38 (by decide +kernel) ?_ ?_
        · refine V_sub (vs' := [none, none, none]) (show vless _ _ from trivial) rfl ?_
          exact hJ45 q35.2
        · refine V_sub (vs' := [none, none, none]) (show vless _ _ from trivial) rfl ?_
          exact hJ41 q35.2
      · refine V_aload_n (pc := 23) dX12_readLine_23 rfl rfl ?_
        refine V_callVi (pc := 24) (As := []) (rest := []) (c_X12_readHouseLine w n  σ) cw_X12_240 rfl rfl dX12_readLine_24 kc_171 ci_12 ⟨Nat.le_of_ble_eq_true rfl, Nat.le_of_ble_eq_true rfl⟩ rfl rfl (Nat.le_of_ble_eq_true rfl) (Nat.le_of_ble_eq_true rfl) (Nat.le_of_ble_eq_true rfl) rfl (fun q24 => ?_)
        refine V_if_eq (pc := 27) (tgt := 45) dX12_readLine_27 (by decide +kernel) ?_ ?_
        · refine V_sub (vs' := [none, none, none]) (show vless _ _ from trivial) rfl ?_
          exact hJ45 q24.2
        · refine V_goto (pc := 30) (tgt := 41) dX12_readLine_30 (by decide +kernel) ?_
          refine V_sub (vs' := [none, none, none]) (show vless _ _ from trivial) rfl ?_
          exact hJ41 q24.2
  refine V_aload_n (pc := 0) dX12_readLine_0 rfl rfl ?_
  refine V_callVv (pc := 1) (As := []) (rest := []) (c_X12_letters w n  σ) cw_X12_111 rfl rfl dX12_readLine_1 kc_171 ci_12 ⟨Nat.le_of_ble_eq_true rfl, Nat.le_of_ble_eq_true rfl⟩ rfl rfl (Nat.le_of_ble_eq_true rfl) (Nat.le_of_ble_eq_true rfl) (Nat.le_of_ble_eq_true rfl) rfl (fun q1 => ?_)
  refine V_iload_n (pc := 4) dX12_readLine_4 rfl rfl ?_
  refine V_iload_n (pc := 5) dX12_readLine_5 rfl rfl ?_
  refine V_if_eq (pc := 6) (tgt := 14) dX12_readLine_6 (by decide +kernel) ?_ ?_
  · refine V_bipush (pc := 14) dX12_readLine_14 bp_12 ?_
    exact hJ16 (12 : Int32) p2 q1.2
  · refine V_bipush (pc := 9) dX12_readLine_9 bp_14 ?_
    refine V_goto (pc := 11) (tgt := 16) dX12_readLine_11 (by decide +kernel) ?_
    exact hJ16 (14 : Int32) p2 q1.2
def L_X12_readAll_28 (n : Nat) (v1 : Int32) (σ : MS) (a28 : Int32 × MS) : Option ((Int32 × MS) ⊕ (Int32 × MS)) := ((f_X12_readLine n v1 a28.1 a28.2).bind (fun q31 => (if q31.1 = 0 then (some ((-1 : Int32), q31.2)).map Sum.inr else ((f_X12_blanks n  q31.2).bind (fun q40 => (if (q40.2 171 10) = (q40.2 171 11) then (some ((a28.1 + (1 : Int32)), q40.2)).map Sum.inr else ((f_X12_isAt (59 : Int32) (59 : Int32) q40.2).bind (fun q63 => (if q63 = 0 then (some ((-1 : Int32), q40.2)).map Sum.inr else (ltM (mu q40.2 171 10 ((q40.2 171 10) + (1 : Int32))) (fun s78 => some (.inl ((a28.1 + (1 : Int32)), s78)))))))))))))
def f_X12_readAll (n : Nat) (p1 : Int32) (σ : MS) : Option (Int32 × MS) := ((f_X12_uses  σ).bind (fun q1 => (ltM (mu q1.2 171 16 (0 : Int32)) (fun s6 => ((f_X12_blanks n  s6).bind (fun q10 => (if (q10.2 171 10) = (q10.2 171 11) then some ((0 : Int32), q10.2) else itr (L_X12_readAll_28 n p1 σ) n ((0 : Int32), q10.2))))))))
set_option maxRecDepth 20000 in
set_option maxHeartbeats 2000000 in
theorem c_X12_readAll (w : TG) (n : Nat) (p1 : Int32) (σ : MS) : MC m_X12_readAll w [.ref (wB w + 171), .int p1] σ (f_X12_readAll n p1 σ) := by
  refine V_meth (by decide +kernel) (Nat.le_of_ble_eq_true rfl) (by intro v hv; simp only [List.mem_cons, List.not_mem_nil, or_false] at hv; rcases hv with rfl | rfl <;> rfl) (fun g x => ?_)
  show VV m_X12_readAll w g 0 0 (QM m_X12_readAll w g x) (fun b : Int32 × MS => b = x) 0 [some (.ref (wB w + 171)), some (.int p1), none] [] σ (f_X12_readAll n p1 σ)
  have hL28 : ∀  (n0 : Nat) (a : Int32 × MS), VV m_X12_readAll w g 0 0 (QM m_X12_readAll w g x) (fun b : Int32 × MS => b = x) 28 [some (.ref (wB w + 171)), some (.int p1), some (.int a.1)] [] a.2 (itr (L_X12_readAll_28 n p1 σ) n0 a) := by
    refine V_itr (vf := fun a : Int32 × MS => [some (.ref (wB w + 171)), some (.int p1), some (.int a.1)]) (sf := fun a : Int32 × MS => a.2) (fun κ28 b28 r28 a28 => ?_)
    obtain ⟨a28_1, a28_2⟩ := a28
    show VV m_X12_readAll w g 0 0 (QM m_X12_readAll w g x) κ28 28 [some (.ref (wB w + 171)), some (.int p1), some (.int a28_1)] [] a28_2 (L_X12_readAll_28 n p1 σ (a28_1, a28_2))
    refine V_aload_n (pc := 28) dX12_readAll_28 rfl rfl ?_
    refine V_iload_n (pc := 29) dX12_readAll_29 rfl rfl ?_
    refine V_iload_n (pc := 30) dX12_readAll_30 rfl rfl ?_
    refine V_callVi (pc := 31) (As := [.int p1, .int a28_1]) (rest := []) (c_X12_readLine w n p1 a28_1 a28_2) cw_X12_249 rfl rfl dX12_readAll_31 kc_171 ci_12 ⟨Nat.le_of_ble_eq_true rfl, Nat.le_of_ble_eq_true rfl⟩ rfl rfl (Nat.le_of_ble_eq_true rfl) (Nat.le_of_ble_eq_true rfl) (Nat.le_of_ble_eq_true rfl) rfl (fun q31 => ?_)
    refine V_if_ne (pc := 34) (tgt := 39) dX12_readAll_34 (by decide +kernel) ?_ ?_
    · refine V_aload_n (pc := 39) dX12_readAll_39 rfl rfl ?_
      refine V_callVv (pc := 40) (As := []) (rest := []) (c_X12_blanks w n  q31.2) cw_X12_99 rfl rfl dX12_readAll_40 kc_171 ci_12 ⟨Nat.le_of_ble_eq_true rfl, Nat.le_of_ble_eq_true rfl⟩ rfl rfl (Nat.le_of_ble_eq_true rfl) (Nat.le_of_ble_eq_true rfl) (Nat.le_of_ble_eq_true rfl) rfl (fun q40 => ?_)
      refine V_aload_n (pc := 43) dX12_readAll_43 rfl rfl ?_
      refine V_geti (pc := 44) fk_X12_87 rfl dX12_readAll_44 kc_171 rf_12_10_171 ?_
      refine V_aload_n (pc := 47) dX12_readAll_47 rfl rfl ?_
      refine V_geti (pc := 48) fk_X12_90 rfl dX12_readAll_48 kc_171 rf_12_11_171 ?_
      refine V_icmp_ne (pc := 51) (tgt := 58) dX12_readAll_51 (by decide +kernel) ?_ ?_
      · refine V_aload_n (pc := 58) dX12_readAll_58 rfl rfl ?_
        refine V_bipush (pc := 59) dX12_readAll_59 bp_59 ?_
        refine V_bipush (pc := 61) dX12_readAll_61 bp_59 ?_
        refine V_callVpi (pc := 63) (As := [.int (59 : Int32), .int (59 : Int32)]) (rest := []) (c_X12_isAt w (59 : Int32) (59 : Int32) q40.2) cw_X12_93 rfl rfl dX12_readAll_63 kc_171 ci_12 ⟨Nat.le_of_ble_eq_true rfl, Nat.le_of_ble_eq_true rfl⟩ rfl rfl (Nat.le_of_ble_eq_true rfl) (Nat.le_of_ble_eq_true rfl) (Nat.le_of_ble_eq_true rfl) rfl (fun q63 => ?_)
        refine V_if_ne (pc := 66) (tgt := 71) dX12_readAll_66 (by decide +kernel) ?_ ?_
        · refine V_aload_n (pc := 71) dX12_readAll_71 rfl rfl ?_
          refine V_dup (pc := 72) dX12_readAll_72 rfl ?_
          refine V_geti (pc := 73) fk_X12_87 rfl dX12_readAll_73 kc_171 rf_12_10_171 ?_
          refine V_iconst (pc := 76) dX12_readAll_76 ic_1 ?_
          refine V_iadd (pc := 77) dX12_readAll_77 ?_
          refine V_puti (pc := 78) fp_X12_87 rfl dX12_readAll_78 kc_171 rf_12_10_171 (fun s78 => ?_)
          refine V_iincC (pc := 81) (vs' := [some (.ref (wB w + 171)), some (.int p1), some (.int (a28_1 + (1 : Int32)))]) dX12_readAll_81 (Nat.le_of_ble_eq_true rfl) rfl ic_1 rfl ?_
          refine V_goto (pc := 84) (tgt := 28) dX12_readAll_84 (by decide +kernel) ?_
          exact V_back (b28 ((a28_1 + (1 : Int32)), s78))
        · refine V_exit r28 ?_
          refine V_iconst (pc := 69) dX12_readAll_69 ic_m1 ?_
          exact V_ireti (pc := 70) dX12_readAll_70 rfl (hk := fun h => h)
      · refine V_exit r28 ?_
        refine V_iload_n (pc := 54) dX12_readAll_54 rfl rfl ?_
        refine V_iconst (pc := 55) dX12_readAll_55 ic_1 ?_
        refine V_iadd (pc := 56) dX12_readAll_56 ?_
        exact V_ireti (pc := 57) dX12_readAll_57 rfl (hk := fun h => h)
    · refine V_exit r28 ?_
      refine V_iconst (pc := 37) dX12_readAll_37 ic_m1 ?_
      exact V_ireti (pc := 38) dX12_readAll_38 rfl (hk := fun h => h)
  refine V_aload_n (pc := 0) dX12_readAll_0 rfl rfl ?_
  refine V_callVv (pc := 1) (As := []) (rest := []) (c_X12_uses w  σ) cw_X12_246 rfl rfl dX12_readAll_1 kc_171 ci_12 ⟨Nat.le_of_ble_eq_true rfl, Nat.le_of_ble_eq_true rfl⟩ rfl rfl (Nat.le_of_ble_eq_true rfl) (Nat.le_of_ble_eq_true rfl) (Nat.le_of_ble_eq_true rfl) rfl (fun q1 => ?_)
  refine V_aload_n (pc := 4) dX12_readAll_4 rfl rfl ?_
  refine V_iconst (pc := 5) dX12_readAll_5 ic_0 ?_
  refine V_puti (pc := 6) fp_X12_181 rfl dX12_readAll_6 kc_171 rf_12_16_171 (fun s6 => ?_)
  refine V_aload_n (pc := 9) dX12_readAll_9 rfl rfl ?_
  refine V_callVv (pc := 10) (As := []) (rest := []) (c_X12_blanks w n  s6) cw_X12_99 rfl rfl dX12_readAll_10 kc_171 ci_12 ⟨Nat.le_of_ble_eq_true rfl, Nat.le_of_ble_eq_true rfl⟩ rfl rfl (Nat.le_of_ble_eq_true rfl) (Nat.le_of_ble_eq_true rfl) (Nat.le_of_ble_eq_true rfl) rfl (fun q10 => ?_)
  refine V_aload_n (pc := 13) dX12_readAll_13 rfl rfl ?_
  refine V_geti (pc := 14) fk_X12_87 rfl dX12_readAll_14 kc_171 rf_12_10_171 ?_
  refine V_aload_n (pc := 17) dX12_readAll_17 rfl rfl ?_
  refine V_geti (pc := 18) fk_X12_90 rfl dX12_readAll_18 kc_171 rf_12_11_171 ?_
  refine V_icmp_ne (pc := 21) (tgt := 26) dX12_readAll_21 (by decide +kernel) ?_ ?_
  · refine V_iconst (pc := 26) dX12_readAll_26 ic_0 ?_
    refine V_istore_n (pc := 27) (vs' := [some (.ref (wB w + 171)), some (.int p1), some (.int (0 : Int32))]) dX12_readAll_27 rfl (Nat.le_of_ble_eq_true rfl) (Nat.le_of_ble_eq_true rfl) rfl ?_
    exact hL28 n ((0 : Int32), q10.2)
  · refine V_iconst (pc := 24) dX12_readAll_24 ic_0 ?_
    exact V_ireti (pc := 25) dX12_readAll_25 rfl (hk := fun h => h)
def L_X12_house_92 (n : Nat)  (σ : MS) (a92 : Int32 × MS) : Option ((Int32 × MS) ⊕ (Int32 × MS)) := (if (1323 : Int32) ≤ a92.1 then (some ((0 : Int32), a92.2)).map Sum.inr else (if inb a92.1 1323 then (if inb a92.1 2172 then ltM (mu a92.2 172 (ix a92.1) (a92.2 174 (ix a92.1))) (fun s110 => some (.inl ((a92.1 + (1 : Int32)), s110))) else none) else none))
def J_X12_house_90 (n : Nat)  (σ : MS) : Option (Int32 × MS) := itr (L_X12_house_92 n  σ) n ((0 : Int32), σ)
def J_X12_house_83 (n : Nat) (t0 : Int32) (σ : MS) : Option (Int32 × MS) := ((f_X12_throwsIf t0 (2 : Int32) σ).bind (fun q84 => (if q84.1 = 0 then (ltM (mu q84.2 172 1 ((q84.2 172 1) + (1 : Int32))) (fun s128 => (ltM (mu s128 171 7 (0 : Int32)) (fun s131 => some ((s131 172 1), s131))))) else J_X12_house_90 n  q84.2)))
def J_X12_house_59 (n : Nat) (t0 : Int32) (σ : MS) : Option (Int32 × MS) := ((f_X12_throwsIf t0 (1 : Int32) σ).bind (fun q60 => (if q60.1 = 0 then (if (q60.2 172 1) = (12 : Int32) then J_X12_house_83 n (1 : Int32) q60.2 else J_X12_house_83 n (0 : Int32) q60.2) else J_X12_house_90 n  q60.2)))
def J_X12_house_46 (n : Nat) (v1 : Int32) (t0 : Int32) (σ : MS) : Option (Int32 × MS) := (ltM (mu σ 171 14 t0) (fun s46 => (if 0 ≤ v1 then J_X12_house_59 n (0 : Int32) s46 else J_X12_house_59 n (1 : Int32) s46)))
def L_X12_house_2 (n : Nat)  (σ : MS) (a2 : Int32 × MS) : Option ((Int32 × MS) ⊕ (Int32 × MS)) := (if (1323 : Int32) ≤ a2.1 then (((f_X12_readAll n (1 : Int32) a2.2).bind (fun q29 => (if 0 ≤ q29.1 then J_X12_house_46 n q29.1 (-1 : Int32) q29.2 else J_X12_house_46 n q29.1 (q29.2 171 12) q29.2)))).map Sum.inr else (if inb a2.1 2172 then (if inb a2.1 1323 then ltM (mu a2.2 174 (ix a2.1) (a2.2 172 (ix a2.1))) (fun s20 => some (.inl ((a2.1 + (1 : Int32)), s20))) else none) else none))
def f_X12_house (n : Nat)  (σ : MS) : Option (Int32 × MS) := itr (L_X12_house_2 n  σ) n ((0 : Int32), σ)
set_option maxRecDepth 20000 in
set_option maxHeartbeats 2000000 in
theorem c_X12_house (w : TG) (n : Nat)  (σ : MS) : MC m_X12_house w [.ref (wB w + 171)] σ (f_X12_house n  σ) := by
  refine V_meth (by decide +kernel) (Nat.le_of_ble_eq_true rfl) (by intro v hv; simp only [List.mem_cons, List.not_mem_nil, or_false] at hv; subst hv; rfl) (fun g x => ?_)
  show VV m_X12_house w g 0 0 (QM m_X12_house w g x) (fun b : Int32 × MS => b = x) 0 [some (.ref (wB w + 171)), none, none] [] σ (f_X12_house n  σ)
  have hL92 : ∀  (n0 : Nat) (a : Int32 × MS), VV m_X12_house w g 0 0 (QM m_X12_house w g x) (fun b : Int32 × MS => b = x) 92 [some (.ref (wB w + 171)), none, some (.int a.1)] [] a.2 (itr (L_X12_house_92 n  σ) n0 a) := by
    refine V_itr (vf := fun a : Int32 × MS => [some (.ref (wB w + 171)), none, some (.int a.1)]) (sf := fun a : Int32 × MS => a.2) (fun κ92 b92 r92 a92 => ?_)
    obtain ⟨a92_1, a92_2⟩ := a92
    show VV m_X12_house w g 0 0 (QM m_X12_house w g x) κ92 92 [some (.ref (wB w + 171)), none, some (.int a92_1)] [] a92_2 (L_X12_house_92 n  σ (a92_1, a92_2))
    refine V_iload_n (pc := 92) dX12_house_92 rfl rfl ?_
    refine V_sipush (pc := 93) dX12_house_93 sp_1323 ?_
    refine V_icmp_ge (pc := 96) (tgt := 117) dX12_house_96 (by decide +kernel) ?_ ?_
    · refine V_exit r92 ?_
      refine V_iconst (pc := 117) dX12_house_117 ic_0 ?_
      exact V_ireti (pc := 118) dX12_house_118 rfl (hk := fun h => h)
    · refine V_aload_n (pc := 99) dX12_house_99 rfl rfl ?_
      refine V_getr (pc := 100) (t := 172) fk_X12_13 rfl dX12_house_100 kc_171 rf_12_1_171 ?_
      refine V_iload_n (pc := 103) dX12_house_103 rfl rfl ?_
      refine V_aload_n (pc := 104) dX12_house_104 rfl rfl ?_
      refine V_getr (pc := 105) (t := 174) fk_X12_20 rfl dX12_house_105 kc_171 rf_12_3_171 ?_
      refine V_iload_n (pc := 108) dX12_house_108 rfl rfl ?_
      refine V_iald (pc := 109) (n := 1323) dX12_house_109 kc_174 lc_174 ?_
      refine V_iast (pc := 110) (n := 2172) dX12_house_110 kc_172 lc_172 (fun s110 => ?_)
      refine V_iincC (pc := 111) (vs' := [some (.ref (wB w + 171)), none, some (.int (a92_1 + (1 : Int32)))]) dX12_house_111 (Nat.le_of_ble_eq_true rfl) rfl ic_1 rfl ?_
      refine V_goto (pc := 114) (tgt := 92) dX12_house_114 (by decide +kernel) ?_
      exact V_back (b92 ((a92_1 + (1 : Int32)), s110))
  have hJ90 : ∀ (σ : MS), VV m_X12_house w g 0 0 (QM m_X12_house w g x) (fun b : Int32 × MS => b = x) 90 [some (.ref (wB w + 171)), none, none] [] σ (J_X12_house_90 n  σ) := by
    intro σ
    refine V_iconst (pc := 90) dX12_house_90 ic_0 ?_
    refine V_istore_n (pc := 91) (vs' := [some (.ref (wB w + 171)), none, some (.int (0 : Int32))]) dX12_house_91 rfl (Nat.le_of_ble_eq_true rfl) (Nat.le_of_ble_eq_true rfl) rfl ?_
    exact hL92 n ((0 : Int32), σ)
  have hJ83 : ∀ (t0 : Int32) (σ : MS), VV m_X12_house w g 0 0 (QM m_X12_house w g x) (fun b : Int32 × MS => b = x) 83 [some (.ref (wB w + 171)), none, none] [.int t0, .ref (wB w + 171)] σ (J_X12_house_83 n t0 σ) := by
    intro t0 σ
    refine V_iconst (pc := 83) dX12_house_83 ic_2 ?_
    refine V_callVi (pc := 84) (As := [.int t0, .int (2 : Int32)]) (rest := []) (c_X12_throwsIf w t0 (2 : Int32) σ) cw_X12_257 rfl rfl dX12_house_84 kc_171 ci_12 ⟨Nat.le_of_ble_eq_true rfl, Nat.le_of_ble_eq_true rfl⟩ rfl rfl (Nat.le_of_ble_eq_true rfl) (Nat.le_of_ble_eq_true rfl) (Nat.le_of_ble_eq_true rfl) rfl (fun q84 => ?_)
    refine V_if_eq (pc := 87) (tgt := 119) dX12_house_87 (by decide +kernel) ?_ ?_
    · refine V_aload_n (pc := 119) dX12_house_119 rfl rfl ?_
      refine V_getr (pc := 120) (t := 172) fk_X12_13 rfl dX12_house_120 kc_171 rf_12_1_171 ?_
      refine V_iconst (pc := 123) dX12_house_123 ic_1 ?_
      refine V_dup2 (pc := 124) dX12_house_124 rfl rfl ?_
      refine V_ialdC (pc := 125) (n := 2172) dX12_house_125 kc_172 lc_172 inb_1_2172 ?_
      refine V_iconst (pc := 126) dX12_house_126 ic_1 ?_
      refine V_iadd (pc := 127) dX12_house_127 ?_
      refine V_iastC (pc := 128) (n := 2172) dX12_house_128 kc_172 lc_172 inb_1_2172 (fun s128 => ?_)
      refine V_aload_n (pc := 129) dX12_house_129 rfl rfl ?_
      refine V_iconst (pc := 130) dX12_house_130 ic_0 ?_
      refine V_puti (pc := 131) fp_X12_55 rfl dX12_house_131 kc_171 rf_12_7_171 (fun s131 => ?_)
      refine V_aload_n (pc := 134) dX12_house_134 rfl rfl ?_
      refine V_getr (pc := 135) (t := 172) fk_X12_13 rfl dX12_house_135 kc_171 rf_12_1_171 ?_
      refine V_iconst (pc := 138) dX12_house_138 ic_1 ?_
      refine V_ialdC (pc := 139) (n := 2172) dX12_house_139 kc_172 lc_172 inb_1_2172 ?_
      exact V_ireti (pc := 140) dX12_house_140 rfl (hk := fun h => h)
    · exact hJ90 q84.2
  have hJ59 : ∀ (t0 : Int32) (σ : MS), VV m_X12_house w g 0 0 (QM m_X12_house w g x) (fun b : Int32 × MS => b = x) 59 [some (.ref (wB w + 171)), none, none] [.int t0, .ref (wB w + 171)] σ (J_X12_house_59 n t0 σ) := by
    intro t0 σ
    refine V_iconst (pc := 59) dX12_house_59 ic_1 ?_
    refine V_callVi (pc := 60) (As := [.int t0, .int (1 : Int32)]) (rest := []) (c_X12_throwsIf w t0 (1 : Int32) σ) cw_X12_257 rfl rfl dX12_house_60 kc_171 ci_12 ⟨Nat.le_of_ble_eq_true rfl, Nat.le_of_ble_eq_true rfl⟩ rfl rfl (Nat.le_of_ble_eq_true rfl) (Nat.le_of_ble_eq_true rfl) (Nat.le_of_ble_eq_true rfl) rfl (fun q60 => ?_)
    refine V_if_ne (pc := 63) (tgt := 90) dX12_house_63 (by decide +kernel) ?_ ?_
    · exact hJ90 q60.2
    · refine V_aload_n (pc := 66) dX12_house_66 rfl rfl ?_
      refine V_aload_n (pc := 67) dX12_house_67 rfl rfl ?_
      refine V_getr (pc := 68) (t := 172) fk_X12_13 rfl dX12_house_68 kc_171 rf_12_1_171 ?_
      refine V_iconst (pc := 71) dX12_house_71 ic_1 ?_
      refine V_ialdC (pc := 72) (n := 2172) dX12_house_72 kc_172 lc_172 inb_1_2172 ?_
      refine V_bipush (pc := 73) dX12_house_73 bp_12 ?_
      refine V_icmp_ne (pc := 75) (tgt := 82) dX12_house_75 (by decide +kernel) ?_ ?_
      · refine V_iconst (pc := 82) dX12_house_82 ic_0 ?_
        exact hJ83 (0 : Int32) q60.2
      · refine V_iconst (pc := 78) dX12_house_78 ic_1 ?_
        refine V_goto (pc := 79) (tgt := 83) dX12_house_79 (by decide +kernel) ?_
        exact hJ83 (1 : Int32) q60.2
  have hJ46 : ∀ (v1 : Int32) (t0 : Int32) (σ : MS), VV m_X12_house w g 0 0 (QM m_X12_house w g x) (fun b : Int32 × MS => b = x) 46 [some (.ref (wB w + 171)), some (.int v1), none] [.int t0, .ref (wB w + 171)] σ (J_X12_house_46 n v1 t0 σ) := by
    intro v1 t0 σ
    refine V_puti (pc := 46) fp_X12_33 rfl dX12_house_46 kc_171 rf_12_14_171 (fun s46 => ?_)
    refine V_aload_n (pc := 49) dX12_house_49 rfl rfl ?_
    refine V_iload_n (pc := 50) dX12_house_50 rfl rfl ?_
    refine V_if_ge (pc := 51) (tgt := 58) dX12_house_51 (by decide +kernel) ?_ ?_
    · refine V_iconst (pc := 58) dX12_house_58 ic_0 ?_
      refine V_sub (vs' := [some (.ref (wB w + 171)), none, none]) (show vless _ _ from ⟨rfl, trivial⟩) rfl ?_
      exact hJ59 (0 : Int32) s46
    · refine V_iconst (pc := 54) dX12_house_54 ic_1 ?_
      refine V_goto (pc := 55) (tgt := 59) dX12_house_55 (by decide +kernel) ?_
      refine V_sub (vs' := [some (.ref (wB w + 171)), none, none]) (show vless _ _ from ⟨rfl, trivial⟩) rfl ?_
      exact hJ59 (1 : Int32) s46
  have hL2 : ∀  (n0 : Nat) (a : Int32 × MS), VV m_X12_house w g 0 0 (QM m_X12_house w g x) (fun b : Int32 × MS => b = x) 2 [some (.ref (wB w + 171)), some (.int a.1), none] [] a.2 (itr (L_X12_house_2 n  σ) n0 a) := by
    refine V_itr (vf := fun a : Int32 × MS => [some (.ref (wB w + 171)), some (.int a.1), none]) (sf := fun a : Int32 × MS => a.2) (fun κ2 b2 r2 a2 => ?_)
    obtain ⟨a2_1, a2_2⟩ := a2
    show VV m_X12_house w g 0 0 (QM m_X12_house w g x) κ2 2 [some (.ref (wB w + 171)), some (.int a2_1), none] [] a2_2 (L_X12_house_2 n  σ (a2_1, a2_2))
    refine V_iload_n (pc := 2) dX12_house_2 rfl rfl ?_
    refine V_sipush (pc := 3) dX12_house_3 sp_1323 ?_
    refine V_icmp_ge (pc := 6) (tgt := 27) dX12_house_6 (by decide +kernel) ?_ ?_
    · refine V_exit r2 ?_
      refine V_aload_n (pc := 27) dX12_house_27 rfl rfl ?_
      refine V_iconst (pc := 28) dX12_house_28 ic_1 ?_
      refine V_callVi (pc := 29) (As := [.int (1 : Int32)]) (rest := []) (c_X12_readAll w n (1 : Int32) a2_2) cw_X12_253 rfl rfl dX12_house_29 kc_171 ci_12 ⟨Nat.le_of_ble_eq_true rfl, Nat.le_of_ble_eq_true rfl⟩ rfl rfl (Nat.le_of_ble_eq_true rfl) (Nat.le_of_ble_eq_true rfl) (Nat.le_of_ble_eq_true rfl) rfl (fun q29 => ?_)
      refine V_istore_n (pc := 32) (vs' := [some (.ref (wB w + 171)), some (.int q29.1), none]) dX12_house_32 rfl (Nat.le_of_ble_eq_true rfl) (Nat.le_of_ble_eq_true rfl) rfl ?_
      refine V_aload_n (pc := 33) dX12_house_33 rfl rfl ?_
      refine V_iload_n (pc := 34) dX12_house_34 rfl rfl ?_
      refine V_if_ge (pc := 35) (tgt := 45) dX12_house_35 (by decide +kernel) ?_ ?_
      · refine V_iconst (pc := 45) dX12_house_45 ic_m1 ?_
        exact hJ46 q29.1 (-1 : Int32) q29.2
      · refine V_aload_n (pc := 38) dX12_house_38 rfl rfl ?_
        refine V_geti (pc := 39) fk_X12_96 rfl dX12_house_39 kc_171 rf_12_12_171 ?_
        refine V_goto (pc := 42) (tgt := 46) dX12_house_42 (by decide +kernel) ?_
        exact hJ46 q29.1 (q29.2 171 12) q29.2
    · refine V_aload_n (pc := 9) dX12_house_9 rfl rfl ?_
      refine V_getr (pc := 10) (t := 174) fk_X12_20 rfl dX12_house_10 kc_171 rf_12_3_171 ?_
      refine V_iload_n (pc := 13) dX12_house_13 rfl rfl ?_
      refine V_aload_n (pc := 14) dX12_house_14 rfl rfl ?_
      refine V_getr (pc := 15) (t := 172) fk_X12_13 rfl dX12_house_15 kc_171 rf_12_1_171 ?_
      refine V_iload_n (pc := 18) dX12_house_18 rfl rfl ?_
      refine V_iald (pc := 19) (n := 2172) dX12_house_19 kc_172 lc_172 ?_
      refine V_iast (pc := 20) (n := 1323) dX12_house_20 kc_174 lc_174 (fun s20 => ?_)
      refine V_iincC (pc := 21) (vs' := [some (.ref (wB w + 171)), some (.int (a2_1 + (1 : Int32))), none]) dX12_house_21 (Nat.le_of_ble_eq_true rfl) rfl ic_1 rfl ?_
      refine V_goto (pc := 24) (tgt := 2) dX12_house_24 (by decide +kernel) ?_
      exact V_back (b2 ((a2_1 + (1 : Int32)), s20))
  refine V_iconst (pc := 0) dX12_house_0 ic_0 ?_
  refine V_istore_n (pc := 1) (vs' := [some (.ref (wB w + 171)), some (.int (0 : Int32)), none]) dX12_house_1 rfl (Nat.le_of_ble_eq_true rfl) (Nat.le_of_ble_eq_true rfl) rfl ?_
  exact hL2 n ((0 : Int32), σ)
def L_X12_law_52 (n : Nat) (v1 : Int32) (σ : MS) (a52 : Int32 × MS) : Option ((Int32 × MS) ⊕ (Int32 × MS)) := (if (849 : Int32) ≤ a52.1 then ((ltM (mu a52.2 172 2 (1 : Int32)) (fun s91 => (ltM (mu s91 171 7 (0 : Int32)) (fun s94 => some (v1, s94)))))).map Sum.inr else (if inb ((1323 : Int32) + a52.1) 2172 then (if inb ((474 : Int32) + a52.1) 2172 then ltM (mu a52.2 172 (ix ((474 : Int32) + a52.1)) (a52.2 172 (ix ((1323 : Int32) + a52.1)))) (fun s78 => some (.inl ((a52.1 + (1 : Int32)), s78))) else none) else none))
def J_X12_law_32 (n : Nat) (v1 : Int32) (t0 : Int32) (σ : MS) : Option (Int32 × MS) := ((f_X12_throwsIf t0 (1 : Int32) σ).bind (fun q33 => (if q33.1 = 0 then (ltM (mu q33.2 172 1323 v1) (fun s49 => itr (L_X12_law_52 n v1 σ) n ((0 : Int32), s49))) else some ((0 : Int32), q33.2))))
def J_X12_law_19 (n : Nat) (v1 : Int32) (t0 : Int32) (σ : MS) : Option (Int32 × MS) := (ltM (mu σ 171 14 t0) (fun s19 => (if 0 ≤ v1 then J_X12_law_32 n v1 (0 : Int32) s19 else J_X12_law_32 n v1 (1 : Int32) s19)))
def f_X12_law (n : Nat)  (σ : MS) : Option (Int32 × MS) := ((f_X12_readAll n (0 : Int32) σ).bind (fun q2 => (if 0 ≤ q2.1 then J_X12_law_19 n q2.1 (-1 : Int32) q2.2 else J_X12_law_19 n q2.1 (q2.2 171 12) q2.2)))
set_option maxRecDepth 20000 in
set_option maxHeartbeats 2000000 in
theorem c_X12_law (w : TG) (n : Nat)  (σ : MS) : MC m_X12_law w [.ref (wB w + 171)] σ (f_X12_law n  σ) := by
  refine V_meth (by decide +kernel) (Nat.le_of_ble_eq_true rfl) (by intro v hv; simp only [List.mem_cons, List.not_mem_nil, or_false] at hv; subst hv; rfl) (fun g x => ?_)
  show VV m_X12_law w g 0 0 (QM m_X12_law w g x) (fun b : Int32 × MS => b = x) 0 [some (.ref (wB w + 171)), none, none] [] σ (f_X12_law n  σ)
  have hL52 : ∀ (v1 : Int32) (n0 : Nat) (a : Int32 × MS), VV m_X12_law w g 0 0 (QM m_X12_law w g x) (fun b : Int32 × MS => b = x) 52 [some (.ref (wB w + 171)), some (.int v1), some (.int a.1)] [] a.2 (itr (L_X12_law_52 n v1 σ) n0 a) := by
    intro v1
    refine V_itr (vf := fun a : Int32 × MS => [some (.ref (wB w + 171)), some (.int v1), some (.int a.1)]) (sf := fun a : Int32 × MS => a.2) (fun κ52 b52 r52 a52 => ?_)
    obtain ⟨a52_1, a52_2⟩ := a52
    show VV m_X12_law w g 0 0 (QM m_X12_law w g x) κ52 52 [some (.ref (wB w + 171)), some (.int v1), some (.int a52_1)] [] a52_2 (L_X12_law_52 n v1 σ (a52_1, a52_2))
    refine V_iload_n (pc := 52) dX12_law_52 rfl rfl ?_
    refine V_sipush (pc := 53) dX12_law_53 sp_849 ?_
    refine V_icmp_ge (pc := 56) (tgt := 85) dX12_law_56 (by decide +kernel) ?_ ?_
    · refine V_exit r52 ?_
      refine V_aload_n (pc := 85) dX12_law_85 rfl rfl ?_
      refine V_getr (pc := 86) (t := 172) fk_X12_13 rfl dX12_law_86 kc_171 rf_12_1_171 ?_
      refine V_iconst (pc := 89) dX12_law_89 ic_2 ?_
      refine V_iconst (pc := 90) dX12_law_90 ic_1 ?_
      refine V_iastC (pc := 91) (n := 2172) dX12_law_91 kc_172 lc_172 inb_2_2172 (fun s91 => ?_)
      refine V_aload_n (pc := 92) dX12_law_92 rfl rfl ?_
      refine V_iconst (pc := 93) dX12_law_93 ic_0 ?_
      refine V_puti (pc := 94) fp_X12_55 rfl dX12_law_94 kc_171 rf_12_7_171 (fun s94 => ?_)
      refine V_iload_n (pc := 97) dX12_law_97 rfl rfl ?_
      exact V_ireti (pc := 98) dX12_law_98 rfl (hk := fun h => h)
    · refine V_aload_n (pc := 59) dX12_law_59 rfl rfl ?_
      refine V_getr (pc := 60) (t := 172) fk_X12_13 rfl dX12_law_60 kc_171 rf_12_1_171 ?_
      refine V_sipush (pc := 63) dX12_law_63 sp_474 ?_
      refine V_iload_n (pc := 66) dX12_law_66 rfl rfl ?_
      refine V_iadd (pc := 67) dX12_law_67 ?_
      refine V_aload_n (pc := 68) dX12_law_68 rfl rfl ?_
      refine V_getr (pc := 69) (t := 172) fk_X12_13 rfl dX12_law_69 kc_171 rf_12_1_171 ?_
      refine V_sipush (pc := 72) dX12_law_72 sp_1323 ?_
      refine V_iload_n (pc := 75) dX12_law_75 rfl rfl ?_
      refine V_iadd (pc := 76) dX12_law_76 ?_
      refine V_iald (pc := 77) (n := 2172) dX12_law_77 kc_172 lc_172 ?_
      refine V_iast (pc := 78) (n := 2172) dX12_law_78 kc_172 lc_172 (fun s78 => ?_)
      refine V_iincC (pc := 79) (vs' := [some (.ref (wB w + 171)), some (.int v1), some (.int (a52_1 + (1 : Int32)))]) dX12_law_79 (Nat.le_of_ble_eq_true rfl) rfl ic_1 rfl ?_
      refine V_goto (pc := 82) (tgt := 52) dX12_law_82 (by decide +kernel) ?_
      exact V_back (b52 ((a52_1 + (1 : Int32)), s78))
  have hJ32 : ∀ (v1 : Int32) (t0 : Int32) (σ : MS), VV m_X12_law w g 0 0 (QM m_X12_law w g x) (fun b : Int32 × MS => b = x) 32 [some (.ref (wB w + 171)), some (.int v1), none] [.int t0, .ref (wB w + 171)] σ (J_X12_law_32 n v1 t0 σ) := by
    intro v1 t0 σ
    refine V_iconst (pc := 32) dX12_law_32 ic_1 ?_
    refine V_callVi (pc := 33) (As := [.int t0, .int (1 : Int32)]) (rest := []) (c_X12_throwsIf w t0 (1 : Int32) σ) cw_X12_257 rfl rfl dX12_law_33 kc_171 ci_12 ⟨Nat.le_of_ble_eq_true rfl, Nat.le_of_ble_eq_true rfl⟩ rfl rfl (Nat.le_of_ble_eq_true rfl) (Nat.le_of_ble_eq_true rfl) (Nat.le_of_ble_eq_true rfl) rfl (fun q33 => ?_)
    refine V_if_eq (pc := 36) (tgt := 41) dX12_law_36 (by decide +kernel) ?_ ?_
    · refine V_aload_n (pc := 41) dX12_law_41 rfl rfl ?_
      refine V_getr (pc := 42) (t := 172) fk_X12_13 rfl dX12_law_42 kc_171 rf_12_1_171 ?_
      refine V_sipush (pc := 45) dX12_law_45 sp_1323 ?_
      refine V_iload_n (pc := 48) dX12_law_48 rfl rfl ?_
      refine V_iastC (pc := 49) (n := 2172) dX12_law_49 kc_172 lc_172 inb_1323_2172 (fun s49 => ?_)
      refine V_iconst (pc := 50) dX12_law_50 ic_0 ?_
      refine V_istore_n (pc := 51) (vs' := [some (.ref (wB w + 171)), some (.int v1), some (.int (0 : Int32))]) dX12_law_51 rfl (Nat.le_of_ble_eq_true rfl) (Nat.le_of_ble_eq_true rfl) rfl ?_
      exact hL52 v1 n ((0 : Int32), s49)
    · refine V_iconst (pc := 39) dX12_law_39 ic_0 ?_
      exact V_ireti (pc := 40) dX12_law_40 rfl (hk := fun h => h)
  have hJ19 : ∀ (v1 : Int32) (t0 : Int32) (σ : MS), VV m_X12_law w g 0 0 (QM m_X12_law w g x) (fun b : Int32 × MS => b = x) 19 [some (.ref (wB w + 171)), some (.int v1), none] [.int t0, .ref (wB w + 171)] σ (J_X12_law_19 n v1 t0 σ) := by
    intro v1 t0 σ
    refine V_puti (pc := 19) fp_X12_33 rfl dX12_law_19 kc_171 rf_12_14_171 (fun s19 => ?_)
    refine V_aload_n (pc := 22) dX12_law_22 rfl rfl ?_
    refine V_iload_n (pc := 23) dX12_law_23 rfl rfl ?_
    refine V_if_ge (pc := 24) (tgt := 31) dX12_law_24 (by decide +kernel) ?_ ?_
    · refine V_iconst (pc := 31) dX12_law_31 ic_0 ?_
      exact hJ32 v1 (0 : Int32) s19
    · refine V_iconst (pc := 27) dX12_law_27 ic_1 ?_
      refine V_goto (pc := 28) (tgt := 32) dX12_law_28 (by decide +kernel) ?_
      exact hJ32 v1 (1 : Int32) s19
  refine V_aload_n (pc := 0) dX12_law_0 rfl rfl ?_
  refine V_iconst (pc := 1) dX12_law_1 ic_0 ?_
  refine V_callVi (pc := 2) (As := [.int (0 : Int32)]) (rest := []) (c_X12_readAll w n (0 : Int32) σ) cw_X12_253 rfl rfl dX12_law_2 kc_171 ci_12 ⟨Nat.le_of_ble_eq_true rfl, Nat.le_of_ble_eq_true rfl⟩ rfl rfl (Nat.le_of_ble_eq_true rfl) (Nat.le_of_ble_eq_true rfl) (Nat.le_of_ble_eq_true rfl) rfl (fun q2 => ?_)
  refine V_istore_n (pc := 5) (vs' := [some (.ref (wB w + 171)), some (.int q2.1), none]) dX12_law_5 rfl (Nat.le_of_ble_eq_true rfl) (Nat.le_of_ble_eq_true rfl) rfl ?_
  refine V_aload_n (pc := 6) dX12_law_6 rfl rfl ?_
  refine V_iload_n (pc := 7) dX12_law_7 rfl rfl ?_
  refine V_if_ge (pc := 8) (tgt := 18) dX12_law_8 (by decide +kernel) ?_ ?_
  · refine V_iconst (pc := 18) dX12_law_18 ic_m1 ?_
    exact hJ19 q2.1 (-1 : Int32) q2.2
  · refine V_aload_n (pc := 11) dX12_law_11 rfl rfl ?_
    refine V_geti (pc := 12) fk_X12_96 rfl dX12_law_12 kc_171 rf_12_12_171 ?_
    refine V_goto (pc := 15) (tgt := 19) dX12_law_15 (by decide +kernel) ?_
    exact hJ19 q2.1 (q2.2 171 12) q2.2
def J_X12_factOf_142 (t0 : Int32) (σ : MS) : Option (Int32) := some t0
def J_X12_factOf_121 (t0 : Int32) (σ : MS) : Option (Int32) := some t0
def f_X12_factOf (p1 : Int32) (p2 : Int32) (σ : MS) : Option (Int32) := (if p1 = (0 : Int32) then some (σ 171 18) else (if p1 = (1 : Int32) then some (σ 171 19) else (if p1 = (2 : Int32) then some (σ 171 20) else (if p1 = (3 : Int32) then some (σ 171 21) else (if p1 = (4 : Int32) then ((f_X12_likes (σ 171 18) (σ 171 19) σ).bind (fun q77 => ((f_X12_likes (σ 171 19) (σ 171 18) σ).bind (fun q89 => some (q77 + q89))))) else (if p1 = (5 : Int32) then some (σ 172 3) else (if p1 = (6 : Int32) then ((f_X12_areWed (σ 171 18) (σ 171 19) σ).bind (fun q110 => (if q110 = 0 then J_X12_factOf_121 (0 : Int32) σ else J_X12_factOf_121 (1 : Int32) σ))) else (if p1 = (7 : Int32) then ((f_X12_holds (σ 171 18) (σ 171 19) σ).bind (fun q131 => (if q131 = 0 then J_X12_factOf_142 (0 : Int32) σ else J_X12_factOf_142 (1 : Int32) σ))) else some p2))))))))
set_option maxRecDepth 20000 in
set_option maxHeartbeats 2000000 in
theorem c_X12_factOf (w : TG) (p1 : Int32) (p2 : Int32) (σ : MS) : MC m_X12_factOf w [.ref (wB w + 171), .int p1, .int p2] σ ((f_X12_factOf p1 p2 σ).map (fun r => (r, σ))) := by
  refine V_methp (by decide +kernel) (Nat.le_of_ble_eq_true rfl) (by intro v hv; simp only [List.mem_cons, List.not_mem_nil, or_false] at hv; rcases hv with rfl | rfl | rfl <;> rfl) (fun g x => ?_)
  show VV m_X12_factOf w g 0 0 (QM m_X12_factOf w g x) (fun b : Int32 => (b, σ) = x) 0 [some (.ref (wB w + 171)), some (.int p1), some (.int p2)] [] σ (f_X12_factOf p1 p2 σ)
  have hJ142 : ∀ (t0 : Int32), VV m_X12_factOf w g 0 0 (QM m_X12_factOf w g x) (fun b : Int32 => (b, σ) = x) 142 [none, none, none] [.int t0] σ (J_X12_factOf_142 t0 σ) := by
    intro t0
    exact V_ireti (pc := 142) dX12_factOf_142 rfl (hk := fun h => h)
  have hJ121 : ∀ (t0 : Int32), VV m_X12_factOf w g 0 0 (QM m_X12_factOf w g x) (fun b : Int32 => (b, σ) = x) 121 [none, none, none] [.int t0] σ (J_X12_factOf_121 t0 σ) := by
    intro t0
    exact V_ireti (pc := 121) dX12_factOf_121 rfl (hk := fun h => h)
  refine V_iload_n (pc := 0) dX12_factOf_0 rfl rfl ?_
  refine V_ite (c := p1 = (0 : Int32)) (fun hx => ?_) (fun hx0 => ?_)
  · refine V_tabIn (pc := 1) (x := p1) (tgt := 48) dX12_factOf_1 (by rw [hx]; decide) (by rw [hx]; decide) (by rw [hx]; rfl) (by decide) ?_
    refine V_aload_n (pc := 48) dX12_factOf_48 rfl rfl ?_
    refine V_geti (pc := 49) fk_X12_260 rfl dX12_factOf_49 kc_171 rf_12_18_171 ?_
    exact V_ireti (pc := 52) dX12_factOf_52 rfl (hk := fun h => h)
  refine V_ite (c := p1 = (1 : Int32)) (fun hx => ?_) (fun hx1 => ?_)
  · refine V_tabIn (pc := 1) (x := p1) (tgt := 53) dX12_factOf_1 (by rw [hx]; decide) (by rw [hx]; decide) (by rw [hx]; rfl) (by decide) ?_
    refine V_aload_n (pc := 53) dX12_factOf_53 rfl rfl ?_
    refine V_geti (pc := 54) fk_X12_263 rfl dX12_factOf_54 kc_171 rf_12_19_171 ?_
    exact V_ireti (pc := 57) dX12_factOf_57 rfl (hk := fun h => h)
  refine V_ite (c := p1 = (2 : Int32)) (fun hx => ?_) (fun hx2 => ?_)
  · refine V_tabIn (pc := 1) (x := p1) (tgt := 58) dX12_factOf_1 (by rw [hx]; decide) (by rw [hx]; decide) (by rw [hx]; rfl) (by decide) ?_
    refine V_aload_n (pc := 58) dX12_factOf_58 rfl rfl ?_
    refine V_geti (pc := 59) fk_X12_266 rfl dX12_factOf_59 kc_171 rf_12_20_171 ?_
    exact V_ireti (pc := 62) dX12_factOf_62 rfl (hk := fun h => h)
  refine V_ite (c := p1 = (3 : Int32)) (fun hx => ?_) (fun hx3 => ?_)
  · refine V_tabIn (pc := 1) (x := p1) (tgt := 63) dX12_factOf_1 (by rw [hx]; decide) (by rw [hx]; decide) (by rw [hx]; rfl) (by decide) ?_
    refine V_aload_n (pc := 63) dX12_factOf_63 rfl rfl ?_
    refine V_geti (pc := 64) fk_X12_269 rfl dX12_factOf_64 kc_171 rf_12_21_171 ?_
    exact V_ireti (pc := 67) dX12_factOf_67 rfl (hk := fun h => h)
  refine V_ite (c := p1 = (4 : Int32)) (fun hx => ?_) (fun hx4 => ?_)
  · refine V_tabIn (pc := 1) (x := p1) (tgt := 68) dX12_factOf_1 (by rw [hx]; decide) (by rw [hx]; decide) (by rw [hx]; rfl) (by decide) ?_
    refine V_aload_n (pc := 68) dX12_factOf_68 rfl rfl ?_
    refine V_aload_n (pc := 69) dX12_factOf_69 rfl rfl ?_
    refine V_geti (pc := 70) fk_X12_260 rfl dX12_factOf_70 kc_171 rf_12_18_171 ?_
    refine V_aload_n (pc := 73) dX12_factOf_73 rfl rfl ?_
    refine V_geti (pc := 74) fk_X12_263 rfl dX12_factOf_74 kc_171 rf_12_19_171 ?_
    refine V_callVpi (pc := 77) (As := [.int (σ 171 18), .int (σ 171 19)]) (rest := []) (c_X12_likes w (σ 171 18) (σ 171 19) σ) cw_X12_272 rfl rfl dX12_factOf_77 kc_171 ci_12 ⟨Nat.le_of_ble_eq_true rfl, Nat.le_of_ble_eq_true rfl⟩ rfl rfl (Nat.le_of_ble_eq_true rfl) (Nat.le_of_ble_eq_true rfl) (Nat.le_of_ble_eq_true rfl) rfl (fun q77 => ?_)
    refine V_aload_n (pc := 80) dX12_factOf_80 rfl rfl ?_
    refine V_aload_n (pc := 81) dX12_factOf_81 rfl rfl ?_
    refine V_geti (pc := 82) fk_X12_263 rfl dX12_factOf_82 kc_171 rf_12_19_171 ?_
    refine V_aload_n (pc := 85) dX12_factOf_85 rfl rfl ?_
    refine V_geti (pc := 86) fk_X12_260 rfl dX12_factOf_86 kc_171 rf_12_18_171 ?_
    refine V_callVpi (pc := 89) (As := [.int (σ 171 19), .int (σ 171 18)]) (rest := [.int q77]) (c_X12_likes w (σ 171 19) (σ 171 18) σ) cw_X12_272 rfl rfl dX12_factOf_89 kc_171 ci_12 ⟨Nat.le_of_ble_eq_true rfl, Nat.le_of_ble_eq_true rfl⟩ rfl rfl (Nat.le_of_ble_eq_true rfl) (Nat.le_of_ble_eq_true rfl) (Nat.le_of_ble_eq_true rfl) rfl (fun q89 => ?_)
    refine V_iadd (pc := 92) dX12_factOf_92 ?_
    exact V_ireti (pc := 93) dX12_factOf_93 rfl (hk := fun h => h)
  refine V_ite (c := p1 = (5 : Int32)) (fun hx => ?_) (fun hx5 => ?_)
  · refine V_tabIn (pc := 1) (x := p1) (tgt := 94) dX12_factOf_1 (by rw [hx]; decide) (by rw [hx]; decide) (by rw [hx]; rfl) (by decide) ?_
    refine V_aload_n (pc := 94) dX12_factOf_94 rfl rfl ?_
    refine V_getr (pc := 95) (t := 172) fk_X12_13 rfl dX12_factOf_95 kc_171 rf_12_1_171 ?_
    refine V_iconst (pc := 98) dX12_factOf_98 ic_3 ?_
    refine V_ialdC (pc := 99) (n := 2172) dX12_factOf_99 kc_172 lc_172 inb_3_2172 ?_
    exact V_ireti (pc := 100) dX12_factOf_100 rfl (hk := fun h => h)
  refine V_ite (c := p1 = (6 : Int32)) (fun hx => ?_) (fun hx6 => ?_)
  · refine V_tabIn (pc := 1) (x := p1) (tgt := 101) dX12_factOf_1 (by rw [hx]; decide) (by rw [hx]; decide) (by rw [hx]; rfl) (by decide) ?_
    refine V_aload_n (pc := 101) dX12_factOf_101 rfl rfl ?_
    refine V_aload_n (pc := 102) dX12_factOf_102 rfl rfl ?_
    refine V_geti (pc := 103) fk_X12_260 rfl dX12_factOf_103 kc_171 rf_12_18_171 ?_
    refine V_aload_n (pc := 106) dX12_factOf_106 rfl rfl ?_
    refine V_geti (pc := 107) fk_X12_263 rfl dX12_factOf_107 kc_171 rf_12_19_171 ?_
    refine V_callVpi (pc := 110) (As := [.int (σ 171 18), .int (σ 171 19)]) (rest := []) (c_X12_areWed w (σ 171 18) (σ 171 19) σ) cw_X12_274 rfl rfl dX12_factOf_110 kc_171 ci_12 ⟨Nat.le_of_ble_eq_true rfl, Nat.le_of_ble_eq_true rfl⟩ rfl rfl (Nat.le_of_ble_eq_true rfl) (Nat.le_of_ble_eq_true rfl) (Nat.le_of_ble_eq_true rfl) rfl (fun q110 => ?_)
    refine V_if_eq (pc := 113) (tgt := 120) dX12_factOf_113 (by decide +kernel) ?_ ?_
    · refine V_iconst (pc := 120) dX12_factOf_120 ic_0 ?_
      refine V_sub (vs' := [none, none, none]) (show vless _ _ from trivial) rfl ?_
      exact hJ121 (0 : Int32)
    · refine V_iconst (pc := 116) dX12_factOf_116 ic_1 ?_
      refine V_goto (pc := 117) (tgt := 121) dX12_factOf_117 (by decide +kernel) ?_
      refine V_sub (vs' := [none, none, none]) (show vless _ _ from trivial) rfl ?_
      exact hJ121 (1 : Int32)
  refine V_ite (c := p1 = (7 : Int32)) (fun hx => ?_) (fun hx7 => ?_)
  · refine V_tabIn (pc := 1) (x := p1) (tgt := 122) dX12_factOf_1 (by rw [hx]; decide) (by rw [hx]; decide) (by rw [hx]; rfl) (by decide) ?_
    refine V_aload_n (pc := 122) dX12_factOf_122 rfl rfl ?_
    refine V_aload_n (pc := 123) dX12_factOf_123 rfl rfl ?_
    refine V_geti (pc := 124) fk_X12_260 rfl dX12_factOf_124 kc_171 rf_12_18_171 ?_
    refine V_aload_n (pc := 127) dX12_factOf_127 rfl rfl ?_
    refine V_geti (pc := 128) fk_X12_263 rfl dX12_factOf_128 kc_171 rf_12_19_171 ?_
    refine V_callVpi (pc := 131) (As := [.int (σ 171 18), .int (σ 171 19)]) (rest := []) (c_X12_holds w (σ 171 18) (σ 171 19) σ) cw_X12_69 rfl rfl dX12_factOf_131 kc_171 ci_12 ⟨Nat.le_of_ble_eq_true rfl, Nat.le_of_ble_eq_true rfl⟩ rfl rfl (Nat.le_of_ble_eq_true rfl) (Nat.le_of_ble_eq_true rfl) (Nat.le_of_ble_eq_true rfl) rfl (fun q131 => ?_)
    refine V_if_eq (pc := 134) (tgt := 141) dX12_factOf_134 (by decide +kernel) ?_ ?_
    · refine V_iconst (pc := 141) dX12_factOf_141 ic_0 ?_
      refine V_sub (vs' := [none, none, none]) (show vless _ _ from trivial) rfl ?_
      exact hJ142 (0 : Int32)
    · refine V_iconst (pc := 137) dX12_factOf_137 ic_1 ?_
      refine V_goto (pc := 138) (tgt := 142) dX12_factOf_138 (by decide +kernel) ?_
      refine V_sub (vs' := [none, none, none]) (show vless _ _ from trivial) rfl ?_
      exact hJ142 (1 : Int32)
  refine V_tabOut (pc := 1) (tgt := 143) dX12_factOf_1 (tabout p1 0 7 (by decide) (by decide) (fun k h1 h2 => ?_)) (by decide) ?_
  · rcases (show k = 0 ∨ k = 1 ∨ k = 2 ∨ k = 3 ∨ k = 4 ∨ k = 5 ∨ k = 6 ∨ k = 7 by omega) with rfl | rfl | rfl | rfl | rfl | rfl | rfl | rfl
    · exact hx0
    · exact hx1
    · exact hx2
    · exact hx3
    · exact hx4
    · exact hx5
    · exact hx6
    · exact hx7
  · refine V_iload_n (pc := 143) dX12_factOf_143 rfl rfl ?_
    exact V_ireti (pc := 144) dX12_factOf_144 rfl (hk := fun h => h)
def J_X12_holdsLine_278 (n : Nat) (t0 : Int32) (σ : MS) : Option (Int32 × MS) := (if t0 = 0 ∨ t0 = 1 then some (t0, σ) else none)
def J_X12_holdsLine_273 (n : Nat)  (σ : MS) : Option (Int32 × MS) := J_X12_holdsLine_278 n (1 : Int32) σ
def J_X12_holdsLine_253 (n : Nat) (v3 : Int32) (v2 : Int32) (v4 : Int32) (σ : MS) : Option ((Int32 × Int32 × MS) ⊕ (Int32 × MS)) := some (.inl (v2, (v4 + (1 : Int32)), σ))
def J_X12_holdsLine_252 (n : Nat) (v3 : Int32) (v2 : Int32) (v4 : Int32) (t0 : Int32) (t1 : Int32) (σ : MS) : Option ((Int32 × Int32 × MS) ⊕ (Int32 × MS)) := (if inb t1 400 then ltM (mu σ 179 (ix t1) t0) (fun s252 => J_X12_holdsLine_253 n v3 v2 v4 s252) else none)
def J_X12_holdsLine_218 (n : Nat) (v3 : Int32) (v2 : Int32) (v4 : Int32) (v5 : Int32) (v6 : Int32) (v7 : Int32) (t0 : Int32) (σ : MS) : Option ((Int32 × Int32 × MS) ⊕ (Int32 × MS)) := (if v5 = (9 : Int32) then J_X12_holdsLine_252 n v3 v2 v4 (v6 + v7) (v2 - (1 : Int32)) σ else (if t0 = 0 then J_X12_holdsLine_252 n v3 v2 v4 (0 : Int32) (v2 - (1 : Int32)) σ else J_X12_holdsLine_252 n v3 v2 v4 (1 : Int32) (v2 - (1 : Int32)) σ))
def L_X12_holdsLine_20 (n : Nat) (v3 : Int32) (σ : MS) (a20 : Int32 × Int32 × MS) : Option ((Int32 × Int32 × MS) ⊕ (Int32 × MS)) := (if inb (v3 + (3 : Int32)) 2172 then (if (a20.2.2 172 (ix (v3 + (3 : Int32)))) ≤ a20.2.1 then ((if a20.1 = 0 then J_X12_holdsLine_273 n  a20.2.2 else (if (a20.2.2 179 0) = (1 : Int32) then J_X12_holdsLine_273 n  a20.2.2 else J_X12_holdsLine_278 n (0 : Int32) a20.2.2))).map Sum.inr else (if inb ((523 : Int32) + ((2 : Int32) * a20.2.1)) 2172 then (if (8 : Int32) < (a20.2.2 172 (ix ((523 : Int32) + ((2 : Int32) * a20.2.1)))) then (if (a20.2.2 172 (ix ((523 : Int32) + ((2 : Int32) * a20.2.1)))) = (12 : Int32) then (if inb (a20.1 - (1 : Int32)) 400 then (if inb (a20.1 - (1 : Int32)) 400 then ltM (mu a20.2.2 179 (ix (a20.1 - (1 : Int32))) ((1 : Int32) - (a20.2.2 179 (ix (a20.1 - (1 : Int32)))))) (fun s112 => J_X12_holdsLine_253 n v3 a20.1 a20.2.1 s112) else none) else none) else (if inb ((a20.1 + (-1 : Int32)) - (1 : Int32)) 400 then (if inb (a20.1 + (-1 : Int32)) 400 then (if (a20.2.2 172 (ix ((523 : Int32) + ((2 : Int32) * a20.2.1)))) = (10 : Int32) then (if (a20.2.2 179 (ix (a20.1 + (-1 : Int32)))) ≤ (a20.2.2 179 (ix ((a20.1 + (-1 : Int32)) - (1 : Int32)))) then J_X12_holdsLine_218 n v3 (a20.1 + (-1 : Int32)) a20.2.1 (a20.2.2 172 (ix ((523 : Int32) + ((2 : Int32) * a20.2.1)))) (a20.2.2 179 (ix ((a20.1 + (-1 : Int32)) - (1 : Int32)))) (a20.2.2 179 (ix (a20.1 + (-1 : Int32)))) (0 : Int32) a20.2.2 else J_X12_holdsLine_218 n v3 (a20.1 + (-1 : Int32)) a20.2.1 (a20.2.2 172 (ix ((523 : Int32) + ((2 : Int32) * a20.2.1)))) (a20.2.2 179 (ix ((a20.1 + (-1 : Int32)) - (1 : Int32)))) (a20.2.2 179 (ix (a20.1 + (-1 : Int32)))) (1 : Int32) a20.2.2) else (if (a20.2.2 172 (ix ((523 : Int32) + ((2 : Int32) * a20.2.1)))) = (11 : Int32) then (if (a20.2.2 179 (ix ((a20.1 + (-1 : Int32)) - (1 : Int32)))) ≤ (a20.2.2 179 (ix (a20.1 + (-1 : Int32)))) then J_X12_holdsLine_218 n v3 (a20.1 + (-1 : Int32)) a20.2.1 (a20.2.2 172 (ix ((523 : Int32) + ((2 : Int32) * a20.2.1)))) (a20.2.2 179 (ix ((a20.1 + (-1 : Int32)) - (1 : Int32)))) (a20.2.2 179 (ix (a20.1 + (-1 : Int32)))) (0 : Int32) a20.2.2 else J_X12_holdsLine_218 n v3 (a20.1 + (-1 : Int32)) a20.2.1 (a20.2.2 172 (ix ((523 : Int32) + ((2 : Int32) * a20.2.1)))) (a20.2.2 179 (ix ((a20.1 + (-1 : Int32)) - (1 : Int32)))) (a20.2.2 179 (ix (a20.1 + (-1 : Int32)))) (1 : Int32) a20.2.2) else (if (a20.2.2 172 (ix ((523 : Int32) + ((2 : Int32) * a20.2.1)))) = (13 : Int32) then (if ((a20.2.2 179 (ix ((a20.1 + (-1 : Int32)) - (1 : Int32)))) + (a20.2.2 179 (ix (a20.1 + (-1 : Int32))))) = (2 : Int32) then J_X12_holdsLine_218 n v3 (a20.1 + (-1 : Int32)) a20.2.1 (a20.2.2 172 (ix ((523 : Int32) + ((2 : Int32) * a20.2.1)))) (a20.2.2 179 (ix ((a20.1 + (-1 : Int32)) - (1 : Int32)))) (a20.2.2 179 (ix (a20.1 + (-1 : Int32)))) (1 : Int32) a20.2.2 else J_X12_holdsLine_218 n v3 (a20.1 + (-1 : Int32)) a20.2.1 (a20.2.2 172 (ix ((523 : Int32) + ((2 : Int32) * a20.2.1)))) (a20.2.2 179 (ix ((a20.1 + (-1 : Int32)) - (1 : Int32)))) (a20.2.2 179 (ix (a20.1 + (-1 : Int32)))) (0 : Int32) a20.2.2) else (if ((a20.2.2 179 (ix ((a20.1 + (-1 : Int32)) - (1 : Int32)))) + (a20.2.2 179 (ix (a20.1 + (-1 : Int32))))) ≤ 0 then J_X12_holdsLine_218 n v3 (a20.1 + (-1 : Int32)) a20.2.1 (a20.2.2 172 (ix ((523 : Int32) + ((2 : Int32) * a20.2.1)))) (a20.2.2 179 (ix ((a20.1 + (-1 : Int32)) - (1 : Int32)))) (a20.2.2 179 (ix (a20.1 + (-1 : Int32)))) (0 : Int32) a20.2.2 else J_X12_holdsLine_218 n v3 (a20.1 + (-1 : Int32)) a20.2.1 (a20.2.2 172 (ix ((523 : Int32) + ((2 : Int32) * a20.2.1)))) (a20.2.2 179 (ix ((a20.1 + (-1 : Int32)) - (1 : Int32)))) (a20.2.2 179 (ix (a20.1 + (-1 : Int32)))) (1 : Int32) a20.2.2)))) else none) else none)) else (if inb (((523 : Int32) + ((2 : Int32) * a20.2.1)) + (1 : Int32)) 2172 then ((f_X12_factOf (a20.2.2 172 (ix ((523 : Int32) + ((2 : Int32) * a20.2.1)))) (a20.2.2 172 (ix (((523 : Int32) + ((2 : Int32) * a20.2.1)) + (1 : Int32)))) a20.2.2).bind (fun q78 => (if inb a20.1 400 then ltM (mu a20.2.2 179 (ix a20.1) q78) (fun s81 => J_X12_holdsLine_253 n v3 (a20.1 + (1 : Int32)) a20.2.1 s81) else none))) else none)) else none)) else none)
def f_X12_holdsLine (n : Nat) (p1 : Int32) (σ : MS) : Option (Int32 × MS) := (if inb (((475 : Int32) + ((4 : Int32) * p1)) + (2 : Int32)) 2172 then itr (L_X12_holdsLine_20 n ((475 : Int32) + ((4 : Int32) * p1)) σ) n ((0 : Int32), (σ 172 (ix (((475 : Int32) + ((4 : Int32) * p1)) + (2 : Int32)))), σ) else none)
set_option maxRecDepth 20000 in
set_option maxHeartbeats 2000000 in
theorem c_X12_holdsLine (w : TG) (n : Nat) (p1 : Int32) (σ : MS) : MC m_X12_holdsLine w [.ref (wB w + 171), .int p1] σ (f_X12_holdsLine n p1 σ) := by
  refine V_meth (by decide +kernel) (Nat.le_of_ble_eq_true rfl) (by intro v hv; simp only [List.mem_cons, List.not_mem_nil, or_false] at hv; rcases hv with rfl | rfl <;> rfl) (fun g x => ?_)
  show VV m_X12_holdsLine w g 0 0 (QM m_X12_holdsLine w g x) (fun b : Int32 × MS => b = x) 0 [some (.ref (wB w + 171)), some (.int p1), none, none, none, none, none, none, none] [] σ (f_X12_holdsLine n p1 σ)
  have hJ278 : ∀ (t0 : Int32) (σ : MS), VV m_X12_holdsLine w g 0 0 (QM m_X12_holdsLine w g x) (fun b : Int32 × MS => b = x) 278 [none, none, none, none, none, none, none, none, none] [.int t0] σ (J_X12_holdsLine_278 n t0 σ) := by
    intro t0 σ
    exact V_iretZ (pc := 278) dX12_holdsLine_278 rfl (hk := fun h => h)
  have hJ273 : ∀ (σ : MS), VV m_X12_holdsLine w g 0 0 (QM m_X12_holdsLine w g x) (fun b : Int32 × MS => b = x) 273 [none, none, none, none, none, none, none, none, none] [] σ (J_X12_holdsLine_273 n  σ) := by
    intro σ
    refine V_iconst (pc := 273) dX12_holdsLine_273 ic_1 ?_
    refine V_goto (pc := 274) (tgt := 278) dX12_holdsLine_274 (by decide +kernel) ?_
    exact hJ278 (1 : Int32) σ
  have hL20 : ∀ (v3 : Int32) (n0 : Nat) (a : Int32 × Int32 × MS), VV m_X12_holdsLine w g 0 0 (QM m_X12_holdsLine w g x) (fun b : Int32 × MS => b = x) 20 [some (.ref (wB w + 171)), none, some (.int a.1), some (.int v3), some (.int a.2.1), none, none, none, none] [] a.2.2 (itr (L_X12_holdsLine_20 n v3 σ) n0 a) := by
    intro v3
    refine V_itr (vf := fun a : Int32 × Int32 × MS => [some (.ref (wB w + 171)), none, some (.int a.1), some (.int v3), some (.int a.2.1), none, none, none, none]) (sf := fun a : Int32 × Int32 × MS => a.2.2) (fun κ20 b20 r20 a20 => ?_)
    obtain ⟨a20_1, a20_2, a20_3⟩ := a20
    show VV m_X12_holdsLine w g 0 0 (QM m_X12_holdsLine w g x) κ20 20 [some (.ref (wB w + 171)), none, some (.int a20_1), some (.int v3), some (.int a20_2), none, none, none, none] [] a20_3 (L_X12_holdsLine_20 n v3 σ (a20_1, a20_2, a20_3))
    have hJ253 : ∀ (v2 : Int32) (v4 : Int32) (σ : MS), VV m_X12_holdsLine w g 0 0 (QM m_X12_holdsLine w g x) κ20 253 [some (.ref (wB w + 171)), none, some (.int v2), some (.int v3), some (.int v4), none, none, none, none] [] σ (J_X12_holdsLine_253 n v3 v2 v4 σ) := by
      intro v2 v4 σ
      refine V_iincC (pc := 253) (vs' := [some (.ref (wB w + 171)), none, some (.int v2), some (.int v3), some (.int (v4 + (1 : Int32))), none, none, none, none]) dX12_holdsLine_253 (Nat.le_of_ble_eq_true rfl) rfl ic_1 rfl ?_
      refine V_goto (pc := 256) (tgt := 20) dX12_holdsLine_256 (by decide +kernel) ?_
      exact V_back (b20 (v2, (v4 + (1 : Int32)), σ))
    have hJ252 : ∀ (v2 : Int32) (v4 : Int32) (t0 : Int32) (t1 : Int32) (σ : MS), VV m_X12_holdsLine w g 0 0 (QM m_X12_holdsLine w g x) κ20 252 [some (.ref (wB w + 171)), none, some (.int v2), some (.int v3), some (.int v4), none, none, none, none] [.int t0, .int t1, .ref (wB w + 179)] σ (J_X12_holdsLine_252 n v3 v2 v4 t0 t1 σ) := by
      intro v2 v4 t0 t1 σ
      refine V_iast (pc := 252) (n := 400) dX12_holdsLine_252 kc_179 lc_179 (fun s252 => ?_)
      exact hJ253 v2 v4 s252
    have hJ218 : ∀ (v2 : Int32) (v4 : Int32) (v5 : Int32) (v6 : Int32) (v7 : Int32) (t0 : Int32) (σ : MS), VV m_X12_holdsLine w g 0 0 (QM m_X12_holdsLine w g x) κ20 218 [some (.ref (wB w + 171)), none, some (.int v2), some (.int v3), some (.int v4), some (.int v5), some (.int v6), some (.int v7), none] [.int t0] σ (J_X12_holdsLine_218 n v3 v2 v4 v5 v6 v7 t0 σ) := by
      intro v2 v4 v5 v6 v7 t0 σ
      refine V_istore (pc := 218) (vs' := [some (.ref (wB w + 171)), none, some (.int v2), some (.int v3), some (.int v4), some (.int v5), some (.int v6), some (.int v7), some (.int t0)]) dX12_holdsLine_218 (Nat.le_of_ble_eq_true rfl) (Nat.le_of_ble_eq_true rfl) rfl ?_
      refine V_aload_n (pc := 220) dX12_holdsLine_220 rfl rfl ?_
      refine V_getr (pc := 221) (t := 179) fk_X12_39 rfl dX12_holdsLine_221 kc_171 rf_12_17_171 ?_
      refine V_iload_n (pc := 224) dX12_holdsLine_224 rfl rfl ?_
      refine V_iconst (pc := 225) dX12_holdsLine_225 ic_1 ?_
      refine V_isub (pc := 226) dX12_holdsLine_226 ?_
      refine V_iload (pc := 227) dX12_holdsLine_227 rfl ?_
      refine V_bipush (pc := 229) dX12_holdsLine_229 bp_9 ?_
      refine V_icmp_ne (pc := 231) (tgt := 242) dX12_holdsLine_231 (by decide +kernel) ?_ ?_
      · refine V_iload (pc := 242) dX12_holdsLine_242 rfl ?_
        refine V_if_eq (pc := 244) (tgt := 251) dX12_holdsLine_244 (by decide +kernel) ?_ ?_
        · refine V_iconst (pc := 251) dX12_holdsLine_251 ic_0 ?_
          refine V_sub (vs' := [some (.ref (wB w + 171)), none, some (.int v2), some (.int v3), some (.int v4), none, none, none, none]) (show vless _ _ from ⟨rfl, ⟨rfl, ⟨rfl, ⟨rfl, trivial⟩⟩⟩⟩) rfl ?_
          exact hJ252 v2 v4 (0 : Int32) (v2 - (1 : Int32)) σ
        · refine V_iconst (pc := 247) dX12_holdsLine_247 ic_1 ?_
          refine V_goto (pc := 248) (tgt := 252) dX12_holdsLine_248 (by decide +kernel) ?_
          refine V_sub (vs' := [some (.ref (wB w + 171)), none, some (.int v2), some (.int v3), some (.int v4), none, none, none, none]) (show vless _ _ from ⟨rfl, ⟨rfl, ⟨rfl, ⟨rfl, trivial⟩⟩⟩⟩) rfl ?_
          exact hJ252 v2 v4 (1 : Int32) (v2 - (1 : Int32)) σ
      · refine V_iload (pc := 234) dX12_holdsLine_234 rfl ?_
        refine V_iload (pc := 236) dX12_holdsLine_236 rfl ?_
        refine V_iadd (pc := 238) dX12_holdsLine_238 ?_
        refine V_goto (pc := 239) (tgt := 252) dX12_holdsLine_239 (by decide +kernel) ?_
        refine V_sub (vs' := [some (.ref (wB w + 171)), none, some (.int v2), some (.int v3), some (.int v4), none, none, none, none]) (show vless _ _ from ⟨rfl, ⟨rfl, ⟨rfl, ⟨rfl, trivial⟩⟩⟩⟩) rfl ?_
        exact hJ252 v2 v4 (v6 + v7) (v2 - (1 : Int32)) σ
    refine V_iload (pc := 20) dX12_holdsLine_20 rfl ?_
    refine V_aload_n (pc := 22) dX12_holdsLine_22 rfl rfl ?_
    refine V_getr (pc := 23) (t := 172) fk_X12_13 rfl dX12_holdsLine_23 kc_171 rf_12_1_171 ?_
    refine V_iload_n (pc := 26) dX12_holdsLine_26 rfl rfl ?_
    refine V_iconst (pc := 27) dX12_holdsLine_27 ic_3 ?_
    refine V_iadd (pc := 28) dX12_holdsLine_28 ?_
    refine V_iald (pc := 29) (n := 2172) dX12_holdsLine_29 kc_172 lc_172 ?_
    refine V_icmp_ge (pc := 30) (tgt := 259) dX12_holdsLine_30 (by decide +kernel) ?_ ?_
    · refine V_exit r20 ?_
      refine V_iload_n (pc := 259) dX12_holdsLine_259 rfl rfl ?_
      refine V_if_eq (pc := 260) (tgt := 273) dX12_holdsLine_260 (by decide +kernel) ?_ ?_
      · refine V_sub (vs' := [none, none, none, none, none, none, none, none, none]) (show vless _ _ from trivial) rfl ?_
        exact hJ273 a20_3
      · refine V_aload_n (pc := 263) dX12_holdsLine_263 rfl rfl ?_
        refine V_getr (pc := 264) (t := 179) fk_X12_39 rfl dX12_holdsLine_264 kc_171 rf_12_17_171 ?_
        refine V_iconst (pc := 267) dX12_holdsLine_267 ic_0 ?_
        refine V_ialdC (pc := 268) (n := 400) dX12_holdsLine_268 kc_179 lc_179 inb_0_400 ?_
        refine V_iconst (pc := 269) dX12_holdsLine_269 ic_1 ?_
        refine V_icmp_ne (pc := 270) (tgt := 277) dX12_holdsLine_270 (by decide +kernel) ?_ ?_
        · refine V_iconst (pc := 277) dX12_holdsLine_277 ic_0 ?_
          refine V_sub (vs' := [none, none, none, none, none, none, none, none, none]) (show vless _ _ from trivial) rfl ?_
          exact hJ278 (0 : Int32) a20_3
        · refine V_sub (vs' := [none, none, none, none, none, none, none, none, none]) (show vless _ _ from trivial) rfl ?_
          exact hJ273 a20_3
    · refine V_aload_n (pc := 33) dX12_holdsLine_33 rfl rfl ?_
      refine V_getr (pc := 34) (t := 172) fk_X12_13 rfl dX12_holdsLine_34 kc_171 rf_12_1_171 ?_
      refine V_sipush (pc := 37) dX12_holdsLine_37 sp_523 ?_
      refine V_iconst (pc := 40) dX12_holdsLine_40 ic_2 ?_
      refine V_iload (pc := 41) dX12_holdsLine_41 rfl ?_
      refine V_imul (pc := 43) dX12_holdsLine_43 ?_
      refine V_iadd (pc := 44) dX12_holdsLine_44 ?_
      refine V_iald (pc := 45) (n := 2172) dX12_holdsLine_45 kc_172 lc_172 ?_
      refine V_istore (pc := 46) (vs' := [some (.ref (wB w + 171)), none, some (.int a20_1), some (.int v3), some (.int a20_2), some (.int (a20_3 172 (ix ((523 : Int32) + ((2 : Int32) * a20_2))))), none, none, none]) dX12_holdsLine_46 (Nat.le_of_ble_eq_true rfl) (Nat.le_of_ble_eq_true rfl) rfl ?_
      refine V_iload (pc := 48) dX12_holdsLine_48 rfl ?_
      refine V_bipush (pc := 50) dX12_holdsLine_50 bp_8 ?_
      refine V_icmp_gt (pc := 52) (tgt := 88) dX12_holdsLine_52 (by decide +kernel) ?_ ?_
      · refine V_iload (pc := 88) dX12_holdsLine_88 rfl ?_
        refine V_bipush (pc := 90) dX12_holdsLine_90 bp_12 ?_
        refine V_icmp_ne (pc := 92) (tgt := 116) dX12_holdsLine_92 (by decide +kernel) ?_ ?_
        · refine V_iincC (pc := 116) (vs' := [some (.ref (wB w + 171)), none, some (.int (a20_1 + (-1 : Int32))), some (.int v3), some (.int a20_2), some (.int (a20_3 172 (ix ((523 : Int32) + ((2 : Int32) * a20_2))))), none, none, none]) dX12_holdsLine_116 (Nat.le_of_ble_eq_true rfl) rfl ic_m1 rfl ?_
          refine V_aload_n (pc := 119) dX12_holdsLine_119 rfl rfl ?_
          refine V_getr (pc := 120) (t := 179) fk_X12_39 rfl dX12_holdsLine_120 kc_171 rf_12_17_171 ?_
          refine V_iload_n (pc := 123) dX12_holdsLine_123 rfl rfl ?_
          refine V_iconst (pc := 124) dX12_holdsLine_124 ic_1 ?_
          refine V_isub (pc := 125) dX12_holdsLine_125 ?_
          refine V_iald (pc := 126) (n := 400) dX12_holdsLine_126 kc_179 lc_179 ?_
          refine V_istore (pc := 127) (vs' := [some (.ref (wB w + 171)), none, some (.int (a20_1 + (-1 : Int32))), some (.int v3), some (.int a20_2), some (.int (a20_3 172 (ix ((523 : Int32) + ((2 : Int32) * a20_2))))), some (.int (a20_3 179 (ix ((a20_1 + (-1 : Int32)) - (1 : Int32))))), none, none]) dX12_holdsLine_127 (Nat.le_of_ble_eq_true rfl) (Nat.le_of_ble_eq_true rfl) rfl ?_
          refine V_aload_n (pc := 129) dX12_holdsLine_129 rfl rfl ?_
          refine V_getr (pc := 130) (t := 179) fk_X12_39 rfl dX12_holdsLine_130 kc_171 rf_12_17_171 ?_
          refine V_iload_n (pc := 133) dX12_holdsLine_133 rfl rfl ?_
          refine V_iald (pc := 134) (n := 400) dX12_holdsLine_134 kc_179 lc_179 ?_
          refine V_istore (pc := 135) (vs' := [some (.ref (wB w + 171)), none, some (.int (a20_1 + (-1 : Int32))), some (.int v3), some (.int a20_2), some (.int (a20_3 172 (ix ((523 : Int32) + ((2 : Int32) * a20_2))))), some (.int (a20_3 179 (ix ((a20_1 + (-1 : Int32)) - (1 : Int32))))), some (.int (a20_3 179 (ix (a20_1 + (-1 : Int32))))), none]) dX12_holdsLine_135 (Nat.le_of_ble_eq_true rfl) (Nat.le_of_ble_eq_true rfl) rfl ?_
          refine V_iload (pc := 137) dX12_holdsLine_137 rfl ?_
          refine V_bipush (pc := 139) dX12_holdsLine_139 bp_10 ?_
          refine V_icmp_ne (pc := 141) (tgt := 159) dX12_holdsLine_141 (by decide +kernel) ?_ ?_
          · refine V_iload (pc := 159) dX12_holdsLine_159 rfl ?_
            refine V_bipush (pc := 161) dX12_holdsLine_161 bp_11 ?_
            refine V_icmp_ne (pc := 163) (tgt := 181) dX12_holdsLine_163 (by decide +kernel) ?_ ?_
            · refine V_iload (pc := 181) dX12_holdsLine_181 rfl ?_
              refine V_bipush (pc := 183) dX12_holdsLine_183 bp_13 ?_
              refine V_icmp_ne (pc := 185) (tgt := 205) dX12_holdsLine_185 (by decide +kernel) ?_ ?_
              · refine V_iload (pc := 205) dX12_holdsLine_205 rfl ?_
                refine V_iload (pc := 207) dX12_holdsLine_207 rfl ?_
                refine V_iadd (pc := 209) dX12_holdsLine_209 ?_
                refine V_if_le (pc := 210) (tgt := 217) dX12_holdsLine_210 (by decide +kernel) ?_ ?_
                · refine V_iconst (pc := 217) dX12_holdsLine_217 ic_0 ?_
                  exact hJ218 (a20_1 + (-1 : Int32)) a20_2 (a20_3 172 (ix ((523 : Int32) + ((2 : Int32) * a20_2)))) (a20_3 179 (ix ((a20_1 + (-1 : Int32)) - (1 : Int32)))) (a20_3 179 (ix (a20_1 + (-1 : Int32)))) (0 : Int32) a20_3
                · refine V_iconst (pc := 213) dX12_holdsLine_213 ic_1 ?_
                  refine V_goto (pc := 214) (tgt := 218) dX12_holdsLine_214 (by decide +kernel) ?_
                  exact hJ218 (a20_1 + (-1 : Int32)) a20_2 (a20_3 172 (ix ((523 : Int32) + ((2 : Int32) * a20_2)))) (a20_3 179 (ix ((a20_1 + (-1 : Int32)) - (1 : Int32)))) (a20_3 179 (ix (a20_1 + (-1 : Int32)))) (1 : Int32) a20_3
              · refine V_iload (pc := 188) dX12_holdsLine_188 rfl ?_
                refine V_iload (pc := 190) dX12_holdsLine_190 rfl ?_
                refine V_iadd (pc := 192) dX12_holdsLine_192 ?_
                refine V_iconst (pc := 193) dX12_holdsLine_193 ic_2 ?_
                refine V_icmp_ne (pc := 194) (tgt := 201) dX12_holdsLine_194 (by decide +kernel) ?_ ?_
                · refine V_iconst (pc := 201) dX12_holdsLine_201 ic_0 ?_
                  refine V_goto (pc := 202) (tgt := 218) dX12_holdsLine_202 (by decide +kernel) ?_
                  exact hJ218 (a20_1 + (-1 : Int32)) a20_2 (a20_3 172 (ix ((523 : Int32) + ((2 : Int32) * a20_2)))) (a20_3 179 (ix ((a20_1 + (-1 : Int32)) - (1 : Int32)))) (a20_3 179 (ix (a20_1 + (-1 : Int32)))) (0 : Int32) a20_3
                · refine V_iconst (pc := 197) dX12_holdsLine_197 ic_1 ?_
                  refine V_goto (pc := 198) (tgt := 218) dX12_holdsLine_198 (by decide +kernel) ?_
                  exact hJ218 (a20_1 + (-1 : Int32)) a20_2 (a20_3 172 (ix ((523 : Int32) + ((2 : Int32) * a20_2)))) (a20_3 179 (ix ((a20_1 + (-1 : Int32)) - (1 : Int32)))) (a20_3 179 (ix (a20_1 + (-1 : Int32)))) (1 : Int32) a20_3
            · refine V_iload (pc := 166) dX12_holdsLine_166 rfl ?_
              refine V_iload (pc := 168) dX12_holdsLine_168 rfl ?_
              refine V_icmp_le (pc := 170) (tgt := 177) dX12_holdsLine_170 (by decide +kernel) ?_ ?_
              · refine V_iconst (pc := 177) dX12_holdsLine_177 ic_0 ?_
                refine V_goto (pc := 178) (tgt := 218) dX12_holdsLine_178 (by decide +kernel) ?_
                exact hJ218 (a20_1 + (-1 : Int32)) a20_2 (a20_3 172 (ix ((523 : Int32) + ((2 : Int32) * a20_2)))) (a20_3 179 (ix ((a20_1 + (-1 : Int32)) - (1 : Int32)))) (a20_3 179 (ix (a20_1 + (-1 : Int32)))) (0 : Int32) a20_3
              · refine V_iconst (pc := 173) dX12_holdsLine_173 ic_1 ?_
                refine V_goto (pc := 174) (tgt := 218) dX12_holdsLine_174 (by decide +kernel) ?_
                exact hJ218 (a20_1 + (-1 : Int32)) a20_2 (a20_3 172 (ix ((523 : Int32) + ((2 : Int32) * a20_2)))) (a20_3 179 (ix ((a20_1 + (-1 : Int32)) - (1 : Int32)))) (a20_3 179 (ix (a20_1 + (-1 : Int32)))) (1 : Int32) a20_3
          · refine V_iload (pc := 144) dX12_holdsLine_144 rfl ?_
            refine V_iload (pc := 146) dX12_holdsLine_146 rfl ?_
            refine V_icmp_ge (pc := 148) (tgt := 155) dX12_holdsLine_148 (by decide +kernel) ?_ ?_
            · refine V_iconst (pc := 155) dX12_holdsLine_155 ic_0 ?_
              refine V_goto (pc := 156) (tgt := 218) dX12_holdsLine_156 (by decide +kernel) ?_
              exact hJ218 (a20_1 + (-1 : Int32)) a20_2 (a20_3 172 (ix ((523 : Int32) + ((2 : Int32) * a20_2)))) (a20_3 179 (ix ((a20_1 + (-1 : Int32)) - (1 : Int32)))) (a20_3 179 (ix (a20_1 + (-1 : Int32)))) (0 : Int32) a20_3
            · refine V_iconst (pc := 151) dX12_holdsLine_151 ic_1 ?_
              refine V_goto (pc := 152) (tgt := 218) dX12_holdsLine_152 (by decide +kernel) ?_
              exact hJ218 (a20_1 + (-1 : Int32)) a20_2 (a20_3 172 (ix ((523 : Int32) + ((2 : Int32) * a20_2)))) (a20_3 179 (ix ((a20_1 + (-1 : Int32)) - (1 : Int32)))) (a20_3 179 (ix (a20_1 + (-1 : Int32)))) (1 : Int32) a20_3
        · refine V_aload_n (pc := 95) dX12_holdsLine_95 rfl rfl ?_
          refine V_getr (pc := 96) (t := 179) fk_X12_39 rfl dX12_holdsLine_96 kc_171 rf_12_17_171 ?_
          refine V_iload_n (pc := 99) dX12_holdsLine_99 rfl rfl ?_
          refine V_iconst (pc := 100) dX12_holdsLine_100 ic_1 ?_
          refine V_isub (pc := 101) dX12_holdsLine_101 ?_
          refine V_iconst (pc := 102) dX12_holdsLine_102 ic_1 ?_
          refine V_aload_n (pc := 103) dX12_holdsLine_103 rfl rfl ?_
          refine V_getr (pc := 104) (t := 179) fk_X12_39 rfl dX12_holdsLine_104 kc_171 rf_12_17_171 ?_
          refine V_iload_n (pc := 107) dX12_holdsLine_107 rfl rfl ?_
          refine V_iconst (pc := 108) dX12_holdsLine_108 ic_1 ?_
          refine V_isub (pc := 109) dX12_holdsLine_109 ?_
          refine V_iald (pc := 110) (n := 400) dX12_holdsLine_110 kc_179 lc_179 ?_
          refine V_isub (pc := 111) dX12_holdsLine_111 ?_
          refine V_iast (pc := 112) (n := 400) dX12_holdsLine_112 kc_179 lc_179 (fun s112 => ?_)
          refine V_goto (pc := 113) (tgt := 253) dX12_holdsLine_113 (by decide +kernel) ?_
          refine V_sub (vs' := [some (.ref (wB w + 171)), none, some (.int a20_1), some (.int v3), some (.int a20_2), none, none, none, none]) (show vless _ _ from ⟨rfl, ⟨rfl, ⟨rfl, ⟨rfl, trivial⟩⟩⟩⟩) rfl ?_
          exact hJ253 a20_1 a20_2 s112
      · refine V_aload_n (pc := 55) dX12_holdsLine_55 rfl rfl ?_
        refine V_getr (pc := 56) (t := 179) fk_X12_39 rfl dX12_holdsLine_56 kc_171 rf_12_17_171 ?_
        refine V_iload_n (pc := 59) dX12_holdsLine_59 rfl rfl ?_
        refine V_aload_n (pc := 60) dX12_holdsLine_60 rfl rfl ?_
        refine V_iload (pc := 61) dX12_holdsLine_61 rfl ?_
        refine V_aload_n (pc := 63) dX12_holdsLine_63 rfl rfl ?_
        refine V_getr (pc := 64) (t := 172) fk_X12_13 rfl dX12_holdsLine_64 kc_171 rf_12_1_171 ?_
        refine V_sipush (pc := 67) dX12_holdsLine_67 sp_523 ?_
        refine V_iconst (pc := 70) dX12_holdsLine_70 ic_2 ?_
        refine V_iload (pc := 71) dX12_holdsLine_71 rfl ?_
        refine V_imul (pc := 73) dX12_holdsLine_73 ?_
        refine V_iadd (pc := 74) dX12_holdsLine_74 ?_
        refine V_iconst (pc := 75) dX12_holdsLine_75 ic_1 ?_
        refine V_iadd (pc := 76) dX12_holdsLine_76 ?_
        refine V_iald (pc := 77) (n := 2172) dX12_holdsLine_77 kc_172 lc_172 ?_
        refine V_callVpi (pc := 78) (As := [.int (a20_3 172 (ix ((523 : Int32) + ((2 : Int32) * a20_2)))), .int (a20_3 172 (ix (((523 : Int32) + ((2 : Int32) * a20_2)) + (1 : Int32))))]) (rest := [.int a20_1, .ref (wB w + 179)]) (c_X12_factOf w (a20_3 172 (ix ((523 : Int32) + ((2 : Int32) * a20_2)))) (a20_3 172 (ix (((523 : Int32) + ((2 : Int32) * a20_2)) + (1 : Int32)))) a20_3) cw_X12_277 rfl rfl dX12_holdsLine_78 kc_171 ci_12 ⟨Nat.le_of_ble_eq_true rfl, Nat.le_of_ble_eq_true rfl⟩ rfl rfl (Nat.le_of_ble_eq_true rfl) (Nat.le_of_ble_eq_true rfl) (Nat.le_of_ble_eq_true rfl) rfl (fun q78 => ?_)
        refine V_iast (pc := 81) (n := 400) dX12_holdsLine_81 kc_179 lc_179 (fun s81 => ?_)
        refine V_iincC (pc := 82) (vs' := [some (.ref (wB w + 171)), none, some (.int (a20_1 + (1 : Int32))), some (.int v3), some (.int a20_2), some (.int (a20_3 172 (ix ((523 : Int32) + ((2 : Int32) * a20_2))))), none, none, none]) dX12_holdsLine_82 (Nat.le_of_ble_eq_true rfl) rfl ic_1 rfl ?_
        refine V_goto (pc := 85) (tgt := 253) dX12_holdsLine_85 (by decide +kernel) ?_
        refine V_sub (vs' := [some (.ref (wB w + 171)), none, some (.int (a20_1 + (1 : Int32))), some (.int v3), some (.int a20_2), none, none, none, none]) (show vless _ _ from ⟨rfl, ⟨rfl, ⟨rfl, ⟨rfl, trivial⟩⟩⟩⟩) rfl ?_
        exact hJ253 (a20_1 + (1 : Int32)) a20_2 s81
  refine V_iconst (pc := 0) dX12_holdsLine_0 ic_0 ?_
  refine V_istore_n (pc := 1) (vs' := [some (.ref (wB w + 171)), some (.int p1), some (.int (0 : Int32)), none, none, none, none, none, none]) dX12_holdsLine_1 rfl (Nat.le_of_ble_eq_true rfl) (Nat.le_of_ble_eq_true rfl) rfl ?_
  refine V_sipush (pc := 2) dX12_holdsLine_2 sp_475 ?_
  refine V_iconst (pc := 5) dX12_holdsLine_5 ic_4 ?_
  refine V_iload_n (pc := 6) dX12_holdsLine_6 rfl rfl ?_
  refine V_imul (pc := 7) dX12_holdsLine_7 ?_
  refine V_iadd (pc := 8) dX12_holdsLine_8 ?_
  refine V_istore_n (pc := 9) (vs' := [some (.ref (wB w + 171)), some (.int p1), some (.int (0 : Int32)), some (.int ((475 : Int32) + ((4 : Int32) * p1))), none, none, none, none, none]) dX12_holdsLine_9 rfl (Nat.le_of_ble_eq_true rfl) (Nat.le_of_ble_eq_true rfl) rfl ?_
  refine V_aload_n (pc := 10) dX12_holdsLine_10 rfl rfl ?_
  refine V_getr (pc := 11) (t := 172) fk_X12_13 rfl dX12_holdsLine_11 kc_171 rf_12_1_171 ?_
  refine V_iload_n (pc := 14) dX12_holdsLine_14 rfl rfl ?_
  refine V_iconst (pc := 15) dX12_holdsLine_15 ic_2 ?_
  refine V_iadd (pc := 16) dX12_holdsLine_16 ?_
  refine V_iald (pc := 17) (n := 2172) dX12_holdsLine_17 kc_172 lc_172 ?_
  refine V_istore (pc := 18) (vs' := [some (.ref (wB w + 171)), some (.int p1), some (.int (0 : Int32)), some (.int ((475 : Int32) + ((4 : Int32) * p1))), some (.int (σ 172 (ix (((475 : Int32) + ((4 : Int32) * p1)) + (2 : Int32))))), none, none, none, none]) dX12_holdsLine_18 (Nat.le_of_ble_eq_true rfl) (Nat.le_of_ble_eq_true rfl) rfl ?_
  refine V_sub (vs' := [some (.ref (wB w + 171)), none, some (.int (0 : Int32)), some (.int ((475 : Int32) + ((4 : Int32) * p1))), some (.int (σ 172 (ix (((475 : Int32) + ((4 : Int32) * p1)) + (2 : Int32))))), none, none, none, none]) (show vless _ _ from ⟨rfl, ⟨rfl, ⟨rfl, ⟨rfl, trivial⟩⟩⟩⟩) rfl ?_
  exact hL20 ((475 : Int32) + ((4 : Int32) * p1)) n ((0 : Int32), (σ 172 (ix (((475 : Int32) + ((4 : Int32) * p1)) + (2 : Int32)))), σ)
def J_X12_sumOf_73 (n : Nat) (v2 : Int32) (σ : MS) : Option (Int32 × MS) := some (v2, σ)
def J_X12_sumOf_67 (n : Nat) (v1 : Int32) (v2 : Int32) (v3 : Int32) (σ : MS) : Option ((Int32 × Int32 × MS) ⊕ (Int32 × MS)) := some (.inl (v2, (v3 + (1 : Int32)), σ))
def L_X12_sumOf_4 (n : Nat) (v1 : Int32) (σ : MS) (a4 : Int32 × Int32 × MS) : Option ((Int32 × Int32 × MS) ⊕ (Int32 × MS)) := (if (a4.2.2 172 2) = (1 : Int32) then (if (a4.2.2 172 474) ≤ a4.2.1 then (J_X12_sumOf_73 n a4.1 a4.2.2).map Sum.inr else (if inb ((475 : Int32) + ((4 : Int32) * a4.2.1)) 2172 then (if (a4.2.2 172 (ix ((475 : Int32) + ((4 : Int32) * a4.2.1)))) = v1 then ((f_X12_holdsLine n a4.2.1 a4.2.2).bind (fun q44 => (if q44.1 = 0 then J_X12_sumOf_67 n v1 a4.1 a4.2.1 q44.2 else (if inb (((475 : Int32) + ((4 : Int32) * a4.2.1)) + (1 : Int32)) 2172 then J_X12_sumOf_67 n v1 (a4.1 + (q44.2 172 (ix (((475 : Int32) + ((4 : Int32) * a4.2.1)) + (1 : Int32))))) a4.2.1 q44.2 else none)))) else J_X12_sumOf_67 n v1 a4.1 a4.2.1 a4.2.2) else none)) else (J_X12_sumOf_73 n a4.1 a4.2.2).map Sum.inr)
def f_X12_sumOf (n : Nat) (p1 : Int32) (σ : MS) : Option (Int32 × MS) := itr (L_X12_sumOf_4 n p1 σ) n ((0 : Int32), (0 : Int32), σ)
set_option maxRecDepth 20000 in
set_option maxHeartbeats 2000000 in
theorem c_X12_sumOf (w : TG) (n : Nat) (p1 : Int32) (σ : MS) : MC m_X12_sumOf w [.ref (wB w + 171), .int p1] σ (f_X12_sumOf n p1 σ) := by
  refine V_meth (by decide +kernel) (Nat.le_of_ble_eq_true rfl) (by intro v hv; simp only [List.mem_cons, List.not_mem_nil, or_false] at hv; rcases hv with rfl | rfl <;> rfl) (fun g x => ?_)
  show VV m_X12_sumOf w g 0 0 (QM m_X12_sumOf w g x) (fun b : Int32 × MS => b = x) 0 [some (.ref (wB w + 171)), some (.int p1), none, none] [] σ (f_X12_sumOf n p1 σ)
  have hJ73 : ∀ (v2 : Int32) (σ : MS), VV m_X12_sumOf w g 0 0 (QM m_X12_sumOf w g x) (fun b : Int32 × MS => b = x) 73 [none, none, some (.int v2), none] [] σ (J_X12_sumOf_73 n v2 σ) := by
    intro v2 σ
    refine V_iload_n (pc := 73) dX12_sumOf_73 rfl rfl ?_
    exact V_ireti (pc := 74) dX12_sumOf_74 rfl (hk := fun h => h)
  have hL4 : ∀  (n0 : Nat) (a : Int32 × Int32 × MS), VV m_X12_sumOf w g 0 0 (QM m_X12_sumOf w g x) (fun b : Int32 × MS => b = x) 4 [some (.ref (wB w + 171)), some (.int p1), some (.int a.1), some (.int a.2.1)] [] a.2.2 (itr (L_X12_sumOf_4 n p1 σ) n0 a) := by
    refine V_itr (vf := fun a : Int32 × Int32 × MS => [some (.ref (wB w + 171)), some (.int p1), some (.int a.1), some (.int a.2.1)]) (sf := fun a : Int32 × Int32 × MS => a.2.2) (fun κ4 b4 r4 a4 => ?_)
    obtain ⟨a4_1, a4_2, a4_3⟩ := a4
    show VV m_X12_sumOf w g 0 0 (QM m_X12_sumOf w g x) κ4 4 [some (.ref (wB w + 171)), some (.int p1), some (.int a4_1), some (.int a4_2)] [] a4_3 (L_X12_sumOf_4 n p1 σ (a4_1, a4_2, a4_3))
    have hJ67 : ∀ (v2 : Int32) (v3 : Int32) (σ : MS), VV m_X12_sumOf w g 0 0 (QM m_X12_sumOf w g x) κ4 67 [some (.ref (wB w + 171)), some (.int p1), some (.int v2), some (.int v3)] [] σ (J_X12_sumOf_67 n p1 v2 v3 σ) := by
      intro v2 v3 σ
      refine V_iincC (pc := 67) (vs' := [some (.ref (wB w + 171)), some (.int p1), some (.int v2), some (.int (v3 + (1 : Int32)))]) dX12_sumOf_67 (Nat.le_of_ble_eq_true rfl) rfl ic_1 rfl ?_
      refine V_goto (pc := 70) (tgt := 4) dX12_sumOf_70 (by decide +kernel) ?_
      exact V_back (b4 (v2, (v3 + (1 : Int32)), σ))
    refine V_aload_n (pc := 4) dX12_sumOf_4 rfl rfl ?_
    refine V_getr (pc := 5) (t := 172) fk_X12_13 rfl dX12_sumOf_5 kc_171 rf_12_1_171 ?_
    refine V_iconst (pc := 8) dX12_sumOf_8 ic_2 ?_
    refine V_ialdC (pc := 9) (n := 2172) dX12_sumOf_9 kc_172 lc_172 inb_2_2172 ?_
    refine V_iconst (pc := 10) dX12_sumOf_10 ic_1 ?_
    refine V_icmp_ne (pc := 11) (tgt := 73) dX12_sumOf_11 (by decide +kernel) ?_ ?_
    · refine V_exit r4 ?_
      refine V_sub (vs' := [none, none, some (.int a4_1), none]) (show vless _ _ from ⟨rfl, trivial⟩) rfl ?_
      exact hJ73 a4_1 a4_3
    · refine V_iload_n (pc := 14) dX12_sumOf_14 rfl rfl ?_
      refine V_aload_n (pc := 15) dX12_sumOf_15 rfl rfl ?_
      refine V_getr (pc := 16) (t := 172) fk_X12_13 rfl dX12_sumOf_16 kc_171 rf_12_1_171 ?_
      refine V_sipush (pc := 19) dX12_sumOf_19 sp_474 ?_
      refine V_ialdC (pc := 22) (n := 2172) dX12_sumOf_22 kc_172 lc_172 inb_474_2172 ?_
      refine V_icmp_ge (pc := 23) (tgt := 73) dX12_sumOf_23 (by decide +kernel) ?_ ?_
      · refine V_exit r4 ?_
        refine V_sub (vs' := [none, none, some (.int a4_1), none]) (show vless _ _ from ⟨rfl, trivial⟩) rfl ?_
        exact hJ73 a4_1 a4_3
      · refine V_aload_n (pc := 26) dX12_sumOf_26 rfl rfl ?_
        refine V_getr (pc := 27) (t := 172) fk_X12_13 rfl dX12_sumOf_27 kc_171 rf_12_1_171 ?_
        refine V_sipush (pc := 30) dX12_sumOf_30 sp_475 ?_
        refine V_iconst (pc := 33) dX12_sumOf_33 ic_4 ?_
        refine V_iload_n (pc := 34) dX12_sumOf_34 rfl rfl ?_
        refine V_imul (pc := 35) dX12_sumOf_35 ?_
        refine V_iadd (pc := 36) dX12_sumOf_36 ?_
        refine V_iald (pc := 37) (n := 2172) dX12_sumOf_37 kc_172 lc_172 ?_
        refine V_iload_n (pc := 38) dX12_sumOf_38 rfl rfl ?_
        refine V_icmp_ne (pc := 39) (tgt := 67) dX12_sumOf_39 (by decide +kernel) ?_ ?_
        · exact hJ67 a4_1 a4_2 a4_3
        · refine V_aload_n (pc := 42) dX12_sumOf_42 rfl rfl ?_
          refine V_iload_n (pc := 43) dX12_sumOf_43 rfl rfl ?_
          refine V_callVi (pc := 44) (As := [.int a4_2]) (rest := []) (c_X12_holdsLine w n a4_2 a4_3) cw_X12_280 rfl rfl dX12_sumOf_44 kc_171 ci_12 ⟨Nat.le_of_ble_eq_true rfl, Nat.le_of_ble_eq_true rfl⟩ rfl rfl (Nat.le_of_ble_eq_true rfl) (Nat.le_of_ble_eq_true rfl) (Nat.le_of_ble_eq_true rfl) rfl (fun q44 => ?_)
          refine V_if_eq (pc := 47) (tgt := 67) dX12_sumOf_47 (by decide +kernel) ?_ ?_
          · exact hJ67 a4_1 a4_2 q44.2
          · refine V_iload_n (pc := 50) dX12_sumOf_50 rfl rfl ?_
            refine V_aload_n (pc := 51) dX12_sumOf_51 rfl rfl ?_
            refine V_getr (pc := 52) (t := 172) fk_X12_13 rfl dX12_sumOf_52 kc_171 rf_12_1_171 ?_
            refine V_sipush (pc := 55) dX12_sumOf_55 sp_475 ?_
            refine V_iconst (pc := 58) dX12_sumOf_58 ic_4 ?_
            refine V_iload_n (pc := 59) dX12_sumOf_59 rfl rfl ?_
            refine V_imul (pc := 60) dX12_sumOf_60 ?_
            refine V_iadd (pc := 61) dX12_sumOf_61 ?_
            refine V_iconst (pc := 62) dX12_sumOf_62 ic_1 ?_
            refine V_iadd (pc := 63) dX12_sumOf_63 ?_
            refine V_iald (pc := 64) (n := 2172) dX12_sumOf_64 kc_172 lc_172 ?_
            refine V_iadd (pc := 65) dX12_sumOf_65 ?_
            refine V_istore_n (pc := 66) (vs' := [some (.ref (wB w + 171)), some (.int p1), some (.int (a4_1 + (q44.2 172 (ix (((475 : Int32) + ((4 : Int32) * a4_2)) + (1 : Int32)))))), some (.int a4_2)]) dX12_sumOf_66 rfl (Nat.le_of_ble_eq_true rfl) (Nat.le_of_ble_eq_true rfl) rfl ?_
            exact hJ67 (a4_1 + (q44.2 172 (ix (((475 : Int32) + ((4 : Int32) * a4_2)) + (1 : Int32))))) a4_2 q44.2
  refine V_iconst (pc := 0) dX12_sumOf_0 ic_0 ?_
  refine V_istore_n (pc := 1) (vs' := [some (.ref (wB w + 171)), some (.int p1), some (.int (0 : Int32)), none]) dX12_sumOf_1 rfl (Nat.le_of_ble_eq_true rfl) (Nat.le_of_ble_eq_true rfl) rfl ?_
  refine V_iconst (pc := 2) dX12_sumOf_2 ic_0 ?_
  refine V_istore_n (pc := 3) (vs' := [some (.ref (wB w + 171)), some (.int p1), some (.int (0 : Int32)), some (.int (0 : Int32))]) dX12_sumOf_3 rfl (Nat.le_of_ble_eq_true rfl) (Nat.le_of_ble_eq_true rfl) rfl ?_
  exact hL4 n ((0 : Int32), (0 : Int32), σ)
def f_X12_looks (p1 : Int32) (p2 : Int32) (p3 : Int32) (p4 : Int32) (σ : MS) : Option (Int32 × MS) := (ltM (mu σ 171 18 (mnI p1 p2)) (fun s6 => (ltM (mu s6 171 19 (mxI p1 p2)) (fun s15 => (ltM (mu s15 171 20 p3) (fun s20 => (ltM (mu s20 171 21 p4) (fun s26 => some (0, s26)))))))))
set_option maxRecDepth 20000 in
set_option maxHeartbeats 2000000 in
theorem c_X12_looks (w : TG) (p1 : Int32) (p2 : Int32) (p3 : Int32) (p4 : Int32) (σ : MS) : MC m_X12_looks w [.ref (wB w + 171), .int p1, .int p2, .int p3, .int p4] σ (f_X12_looks p1 p2 p3 p4 σ) := by
  refine V_meth (by decide +kernel) (Nat.le_of_ble_eq_true rfl) (by intro v hv; simp only [List.mem_cons, List.not_mem_nil, or_false] at hv; rcases hv with rfl | rfl | rfl | rfl | rfl <;> rfl) (fun g x => ?_)
  show VV m_X12_looks w g 0 0 (QM m_X12_looks w g x) (fun b : Int32 × MS => b = x) 0 [some (.ref (wB w + 171)), some (.int p1), some (.int p2), some (.int p3), some (.int p4)] [] σ (f_X12_looks p1 p2 p3 p4 σ)
  refine V_aload_n (pc := 0) dX12_looks_0 rfl rfl ?_
  refine V_iload_n (pc := 1) dX12_looks_1 rfl rfl ?_
  refine V_iload_n (pc := 2) dX12_looks_2 rfl rfl ?_
  refine V_mmin (pc := 3) dX12_looks_3 rfl mw_X12_283 (Nat.le_of_ble_eq_true rfl) (Nat.le_of_ble_eq_true rfl) (Nat.le_of_ble_eq_true rfl) (Nat.le_of_ble_eq_true rfl) ?_
  refine V_puti (pc := 6) fp_X12_260 rfl dX12_looks_6 kc_171 rf_12_18_171 (fun s6 => ?_)
  refine V_aload_n (pc := 9) dX12_looks_9 rfl rfl ?_
  refine V_iload_n (pc := 10) dX12_looks_10 rfl rfl ?_
  refine V_iload_n (pc := 11) dX12_looks_11 rfl rfl ?_
  refine V_mmax (pc := 12) dX12_looks_12 rfl mw_X12_288 (Nat.le_of_ble_eq_true rfl) (Nat.le_of_ble_eq_true rfl) (Nat.le_of_ble_eq_true rfl) (Nat.le_of_ble_eq_true rfl) ?_
  refine V_puti (pc := 15) fp_X12_263 rfl dX12_looks_15 kc_171 rf_12_19_171 (fun s15 => ?_)
  refine V_aload_n (pc := 18) dX12_looks_18 rfl rfl ?_
  refine V_iload_n (pc := 19) dX12_looks_19 rfl rfl ?_
  refine V_puti (pc := 20) fp_X12_266 rfl dX12_looks_20 kc_171 rf_12_20_171 (fun s20 => ?_)
  refine V_aload_n (pc := 23) dX12_looks_23 rfl rfl ?_
  refine V_iload (pc := 24) dX12_looks_24 rfl ?_
  refine V_puti (pc := 26) fp_X12_269 rfl dX12_looks_26 kc_171 rf_12_21_171 (fun s26 => ?_)
  exact V_ret (pc := 29) dX12_looks_29 rfl (hk := fun h => h)
def f_X12_bindsBy (n : Nat)  (σ : MS) : Option (Int32 × MS) := ((f_X12_sumOf n (0 : Int32) σ).bind (fun q10 => some ((mnI (9 : Int32) ((σ 172 5) + q10.1)), q10.2)))
set_option maxRecDepth 20000 in
set_option maxHeartbeats 2000000 in
theorem c_X12_bindsBy (w : TG) (n : Nat)  (σ : MS) : MC m_X12_bindsBy w [.ref (wB w + 171)] σ (f_X12_bindsBy n  σ) := by
  refine V_meth (by decide +kernel) (Nat.le_of_ble_eq_true rfl) (by intro v hv; simp only [List.mem_cons, List.not_mem_nil, or_false] at hv; subst hv; rfl) (fun g x => ?_)
  show VV m_X12_bindsBy w g 0 0 (QM m_X12_bindsBy w g x) (fun b : Int32 × MS => b = x) 0 [some (.ref (wB w + 171))] [] σ (f_X12_bindsBy n  σ)
  refine V_bipush (pc := 0) dX12_bindsBy_0 bp_9 ?_
  refine V_aload_n (pc := 2) dX12_bindsBy_2 rfl rfl ?_
  refine V_getr (pc := 3) (t := 172) fk_X12_13 rfl dX12_bindsBy_3 kc_171 rf_12_1_171 ?_
  refine V_iconst (pc := 6) dX12_bindsBy_6 ic_5 ?_
  refine V_ialdC (pc := 7) (n := 2172) dX12_bindsBy_7 kc_172 lc_172 inb_5_2172 ?_
  refine V_aload_n (pc := 8) dX12_bindsBy_8 rfl rfl ?_
  refine V_iconst (pc := 9) dX12_bindsBy_9 ic_0 ?_
  refine V_callVi (pc := 10) (As := [.int (0 : Int32)]) (rest := [.int (σ 172 5), .int (9 : Int32)]) (c_X12_sumOf w n (0 : Int32) σ) cw_X12_291 rfl rfl dX12_bindsBy_10 kc_171 ci_12 ⟨Nat.le_of_ble_eq_true rfl, Nat.le_of_ble_eq_true rfl⟩ rfl rfl (Nat.le_of_ble_eq_true rfl) (Nat.le_of_ble_eq_true rfl) (Nat.le_of_ble_eq_true rfl) rfl (fun q10 => ?_)
  refine V_iadd (pc := 13) dX12_bindsBy_13 ?_
  refine V_mmin (pc := 14) dX12_bindsBy_14 rfl mw_X12_283 (Nat.le_of_ble_eq_true rfl) (Nat.le_of_ble_eq_true rfl) (Nat.le_of_ble_eq_true rfl) (Nat.le_of_ble_eq_true rfl) ?_
  exact V_ireti (pc := 17) dX12_bindsBy_17 rfl (hk := fun h => h)
def f_X12_lastsFor (n : Nat)  (σ : MS) : Option (Int32 × MS) := ((f_X12_sumOf n (1 : Int32) σ).bind (fun q9 => some (((σ 172 6) + q9.1), q9.2)))
set_option maxRecDepth 20000 in
set_option maxHeartbeats 2000000 in
theorem c_X12_lastsFor (w : TG) (n : Nat)  (σ : MS) : MC m_X12_lastsFor w [.ref (wB w + 171)] σ (f_X12_lastsFor n  σ) := by
  refine V_meth (by decide +kernel) (Nat.le_of_ble_eq_true rfl) (by intro v hv; simp only [List.mem_cons, List.not_mem_nil, or_false] at hv; subst hv; rfl) (fun g x => ?_)
  show VV m_X12_lastsFor w g 0 0 (QM m_X12_lastsFor w g x) (fun b : Int32 × MS => b = x) 0 [some (.ref (wB w + 171))] [] σ (f_X12_lastsFor n  σ)
  refine V_aload_n (pc := 0) dX12_lastsFor_0 rfl rfl ?_
  refine V_getr (pc := 1) (t := 172) fk_X12_13 rfl dX12_lastsFor_1 kc_171 rf_12_1_171 ?_
  refine V_bipush (pc := 4) dX12_lastsFor_4 bp_6 ?_
  refine V_ialdC (pc := 6) (n := 2172) dX12_lastsFor_6 kc_172 lc_172 inb_6_2172 ?_
  refine V_aload_n (pc := 7) dX12_lastsFor_7 rfl rfl ?_
  refine V_iconst (pc := 8) dX12_lastsFor_8 ic_1 ?_
  refine V_callVi (pc := 9) (As := [.int (1 : Int32)]) (rest := [.int (σ 172 6)]) (c_X12_sumOf w n (1 : Int32) σ) cw_X12_291 rfl rfl dX12_lastsFor_9 kc_171 ci_12 ⟨Nat.le_of_ble_eq_true rfl, Nat.le_of_ble_eq_true rfl⟩ rfl rfl (Nat.le_of_ble_eq_true rfl) (Nat.le_of_ble_eq_true rfl) (Nat.le_of_ble_eq_true rfl) rfl (fun q9 => ?_)
  refine V_iadd (pc := 12) dX12_lastsFor_12 ?_
  exact V_ireti (pc := 13) dX12_lastsFor_13 rfl (hk := fun h => h)
def J_X12_suspectsBy_19 (n : Nat) (t0 : Int32) (σ : MS) : Option (Int32 × MS) := some (t0, σ)
def f_X12_suspectsBy (n : Nat)  (σ : MS) : Option (Int32 × MS) := (if (σ 172 2) = (1 : Int32) then ((f_X12_sumOf n (2 : Int32) σ).bind (fun q12 => J_X12_suspectsBy_19 n q12.1 q12.2)) else J_X12_suspectsBy_19 n (5 : Int32) σ)
set_option maxRecDepth 20000 in
set_option maxHeartbeats 2000000 in
theorem c_X12_suspectsBy (w : TG) (n : Nat)  (σ : MS) : MC m_X12_suspectsBy w [.ref (wB w + 171)] σ (f_X12_suspectsBy n  σ) := by
  refine V_meth (by decide +kernel) (Nat.le_of_ble_eq_true rfl) (by intro v hv; simp only [List.mem_cons, List.not_mem_nil, or_false] at hv; subst hv; rfl) (fun g x => ?_)
  show VV m_X12_suspectsBy w g 0 0 (QM m_X12_suspectsBy w g x) (fun b : Int32 × MS => b = x) 0 [some (.ref (wB w + 171))] [] σ (f_X12_suspectsBy n  σ)
  have hJ19 : ∀ (t0 : Int32) (σ : MS), VV m_X12_suspectsBy w g 0 0 (QM m_X12_suspectsBy w g x) (fun b : Int32 × MS => b = x) 19 [none] [.int t0] σ (J_X12_suspectsBy_19 n t0 σ) := by
    intro t0 σ
    exact V_ireti (pc := 19) dX12_suspectsBy_19 rfl (hk := fun h => h)
  refine V_aload_n (pc := 0) dX12_suspectsBy_0 rfl rfl ?_
  refine V_getr (pc := 1) (t := 172) fk_X12_13 rfl dX12_suspectsBy_1 kc_171 rf_12_1_171 ?_
  refine V_iconst (pc := 4) dX12_suspectsBy_4 ic_2 ?_
  refine V_ialdC (pc := 5) (n := 2172) dX12_suspectsBy_5 kc_172 lc_172 inb_2_2172 ?_
  refine V_iconst (pc := 6) dX12_suspectsBy_6 ic_1 ?_
  refine V_icmp_ne (pc := 7) (tgt := 18) dX12_suspectsBy_7 (by decide +kernel) ?_ ?_
  · refine V_iconst (pc := 18) dX12_suspectsBy_18 ic_5 ?_
    refine V_sub (vs' := [none]) (show vless _ _ from trivial) rfl ?_
    exact hJ19 (5 : Int32) σ
  · refine V_aload_n (pc := 10) dX12_suspectsBy_10 rfl rfl ?_
    refine V_iconst (pc := 11) dX12_suspectsBy_11 ic_2 ?_
    refine V_callVi (pc := 12) (As := [.int (2 : Int32)]) (rest := []) (c_X12_sumOf w n (2 : Int32) σ) cw_X12_291 rfl rfl dX12_suspectsBy_12 kc_171 ci_12 ⟨Nat.le_of_ble_eq_true rfl, Nat.le_of_ble_eq_true rfl⟩ rfl rfl (Nat.le_of_ble_eq_true rfl) (Nat.le_of_ble_eq_true rfl) (Nat.le_of_ble_eq_true rfl) rfl (fun q12 => ?_)
    refine V_goto (pc := 15) (tgt := 19) dX12_suspectsBy_15 (by decide +kernel) ?_
    refine V_sub (vs' := [none]) (show vless _ _ from trivial) rfl ?_
    exact hJ19 q12.1 q12.2
def J_X12_sipBinds_51 (n : Nat) (t0 : Int32) (σ : MS) : Option (Int32 × MS) := some (t0, σ)
def f_X12_sipBinds (n : Nat)  (σ : MS) : Option (Int32 × MS) := ((f_X12_bindsBy n  σ).bind (fun q1 => (if (q1.2 171 20) = (1 : Int32) then J_X12_sipBinds_51 n (q1.1 / (2 : Int32)) q1.2 else (if (q1.2 171 20) = (2 : Int32) then J_X12_sipBinds_51 n (mnI (9 : Int32) ((2 : Int32) * q1.1)) q1.2 else (if (q1.2 171 20) = (3 : Int32) then J_X12_sipBinds_51 n (0 : Int32) q1.2 else J_X12_sipBinds_51 n q1.1 q1.2)))))
set_option maxRecDepth 20000 in
set_option maxHeartbeats 2000000 in
theorem c_X12_sipBinds (w : TG) (n : Nat)  (σ : MS) : MC m_X12_sipBinds w [.ref (wB w + 171)] σ (f_X12_sipBinds n  σ) := by
  refine V_meth (by decide +kernel) (Nat.le_of_ble_eq_true rfl) (by intro v hv; simp only [List.mem_cons, List.not_mem_nil, or_false] at hv; subst hv; rfl) (fun g x => ?_)
  show VV m_X12_sipBinds w g 0 0 (QM m_X12_sipBinds w g x) (fun b : Int32 × MS => b = x) 0 [some (.ref (wB w + 171)), none] [] σ (f_X12_sipBinds n  σ)
  have hJ51 : ∀ (t0 : Int32) (σ : MS), VV m_X12_sipBinds w g 0 0 (QM m_X12_sipBinds w g x) (fun b : Int32 × MS => b = x) 51 [none, none] [.int t0] σ (J_X12_sipBinds_51 n t0 σ) := by
    intro t0 σ
    exact V_ireti (pc := 51) dX12_sipBinds_51 rfl (hk := fun h => h)
  refine V_aload_n (pc := 0) dX12_sipBinds_0 rfl rfl ?_
  refine V_callVi (pc := 1) (As := []) (rest := []) (c_X12_bindsBy w n  σ) cw_X12_294 rfl rfl dX12_sipBinds_1 kc_171 ci_12 ⟨Nat.le_of_ble_eq_true rfl, Nat.le_of_ble_eq_true rfl⟩ rfl rfl (Nat.le_of_ble_eq_true rfl) (Nat.le_of_ble_eq_true rfl) (Nat.le_of_ble_eq_true rfl) rfl (fun q1 => ?_)
  refine V_istore_n (pc := 4) (vs' := [some (.ref (wB w + 171)), some (.int q1.1)]) dX12_sipBinds_4 rfl (Nat.le_of_ble_eq_true rfl) (Nat.le_of_ble_eq_true rfl) rfl ?_
  refine V_aload_n (pc := 5) dX12_sipBinds_5 rfl rfl ?_
  refine V_geti (pc := 6) fk_X12_266 rfl dX12_sipBinds_6 kc_171 rf_12_20_171 ?_
  refine V_iconst (pc := 9) dX12_sipBinds_9 ic_1 ?_
  refine V_icmp_ne (pc := 10) (tgt := 19) dX12_sipBinds_10 (by decide +kernel) ?_ ?_
  · refine V_aload_n (pc := 19) dX12_sipBinds_19 rfl rfl ?_
    refine V_geti (pc := 20) fk_X12_266 rfl dX12_sipBinds_20 kc_171 rf_12_20_171 ?_
    refine V_iconst (pc := 23) dX12_sipBinds_23 ic_2 ?_
    refine V_icmp_ne (pc := 24) (tgt := 38) dX12_sipBinds_24 (by decide +kernel) ?_ ?_
    · refine V_aload_n (pc := 38) dX12_sipBinds_38 rfl rfl ?_
      refine V_geti (pc := 39) fk_X12_266 rfl dX12_sipBinds_39 kc_171 rf_12_20_171 ?_
      refine V_iconst (pc := 42) dX12_sipBinds_42 ic_3 ?_
      refine V_icmp_ne (pc := 43) (tgt := 50) dX12_sipBinds_43 (by decide +kernel) ?_ ?_
      · refine V_iload_n (pc := 50) dX12_sipBinds_50 rfl rfl ?_
        refine V_sub (vs' := [none, none]) (show vless _ _ from trivial) rfl ?_
        exact hJ51 q1.1 q1.2
      · refine V_iconst (pc := 46) dX12_sipBinds_46 ic_0 ?_
        refine V_goto (pc := 47) (tgt := 51) dX12_sipBinds_47 (by decide +kernel) ?_
        refine V_sub (vs' := [none, none]) (show vless _ _ from trivial) rfl ?_
        exact hJ51 (0 : Int32) q1.2
    · refine V_bipush (pc := 27) dX12_sipBinds_27 bp_9 ?_
      refine V_iconst (pc := 29) dX12_sipBinds_29 ic_2 ?_
      refine V_iload_n (pc := 30) dX12_sipBinds_30 rfl rfl ?_
      refine V_imul (pc := 31) dX12_sipBinds_31 ?_
      refine V_mmin (pc := 32) dX12_sipBinds_32 rfl mw_X12_283 (Nat.le_of_ble_eq_true rfl) (Nat.le_of_ble_eq_true rfl) (Nat.le_of_ble_eq_true rfl) (Nat.le_of_ble_eq_true rfl) ?_
      refine V_goto (pc := 35) (tgt := 51) dX12_sipBinds_35 (by decide +kernel) ?_
      refine V_sub (vs' := [none, none]) (show vless _ _ from trivial) rfl ?_
      exact hJ51 (mnI (9 : Int32) ((2 : Int32) * q1.1)) q1.2
  · refine V_iload_n (pc := 13) dX12_sipBinds_13 rfl rfl ?_
    refine V_iconst (pc := 14) dX12_sipBinds_14 ic_2 ?_
    refine V_idiv (pc := 15) dX12_sipBinds_15 (by decide +kernel) ?_
    refine V_goto (pc := 16) (tgt := 51) dX12_sipBinds_16 (by decide +kernel) ?_
    refine V_sub (vs' := [none, none]) (show vless _ _ from trivial) rfl ?_
    exact hJ51 (q1.1 / (2 : Int32)) q1.2
def J_X12_noBoth_21 (t0 : Int32) (σ : MS) : Option (Int32) := (if t0 = 0 ∨ t0 = 1 then some t0 else none)
def J_X12_noBoth_16  (σ : MS) : Option (Int32) := J_X12_noBoth_21 (1 : Int32) σ
def f_X12_noBoth (p1 : Int32) (p2 : Int32) (σ : MS) : Option (Int32) := ((f_X12_noPerson p1 σ).bind (fun q2 => (if q2 = 0 then ((f_X12_noPerson p2 σ).bind (fun q10 => (if q10 = 0 then J_X12_noBoth_21 (0 : Int32) σ else J_X12_noBoth_16  σ))) else J_X12_noBoth_16  σ)))
set_option maxRecDepth 20000 in
set_option maxHeartbeats 2000000 in
theorem c_X12_noBoth (w : TG) (p1 : Int32) (p2 : Int32) (σ : MS) : MC m_X12_noBoth w [.ref (wB w + 171), .int p1, .int p2] σ ((f_X12_noBoth p1 p2 σ).map (fun r => (r, σ))) := by
  refine V_methp (by decide +kernel) (Nat.le_of_ble_eq_true rfl) (by intro v hv; simp only [List.mem_cons, List.not_mem_nil, or_false] at hv; rcases hv with rfl | rfl | rfl <;> rfl) (fun g x => ?_)
  show VV m_X12_noBoth w g 0 0 (QM m_X12_noBoth w g x) (fun b : Int32 => (b, σ) = x) 0 [some (.ref (wB w + 171)), some (.int p1), some (.int p2)] [] σ (f_X12_noBoth p1 p2 σ)
  have hJ21 : ∀ (t0 : Int32), VV m_X12_noBoth w g 0 0 (QM m_X12_noBoth w g x) (fun b : Int32 => (b, σ) = x) 21 [none, none, none] [.int t0] σ (J_X12_noBoth_21 t0 σ) := by
    intro t0
    exact V_iretZ (pc := 21) dX12_noBoth_21 rfl (hk := fun h => h)
  have hJ16 : ∀ (_ : Unit), VV m_X12_noBoth w g 0 0 (QM m_X12_noBoth w g x) (fun b : Int32 => (b, σ) = x) 16 [none, none, none] [] σ (J_X12_noBoth_16  σ) := by
    intro _
    refine V_iconst (pc := 16) dX12_noBoth_16 ic_1 ?_
    refine V_goto (pc := 17) (tgt := 21) dX12_noBoth_17 (by decide +kernel) ?_
    exact hJ21 (1 : Int32)
  refine V_aload_n (pc := 0) dX12_noBoth_0 rfl rfl ?_
  refine V_iload_n (pc := 1) dX12_noBoth_1 rfl rfl ?_
  refine V_callVpi (pc := 2) (As := [.int p1]) (rest := []) (c_X12_noPerson w p1 σ) cw_X12_297 rfl rfl dX12_noBoth_2 kc_171 ci_12 ⟨Nat.le_of_ble_eq_true rfl, Nat.le_of_ble_eq_true rfl⟩ rfl rfl (Nat.le_of_ble_eq_true rfl) (Nat.le_of_ble_eq_true rfl) (Nat.le_of_ble_eq_true rfl) rfl (fun q2 => ?_)
  refine V_if_ne (pc := 5) (tgt := 16) dX12_noBoth_5 (by decide +kernel) ?_ ?_
  · refine V_sub (vs' := [none, none, none]) (show vless _ _ from trivial) rfl ?_
    exact hJ16 ()
  · refine V_aload_n (pc := 8) dX12_noBoth_8 rfl rfl ?_
    refine V_iload_n (pc := 9) dX12_noBoth_9 rfl rfl ?_
    refine V_callVpi (pc := 10) (As := [.int p2]) (rest := []) (c_X12_noPerson w p2 σ) cw_X12_297 rfl rfl dX12_noBoth_10 kc_171 ci_12 ⟨Nat.le_of_ble_eq_true rfl, Nat.le_of_ble_eq_true rfl⟩ rfl rfl (Nat.le_of_ble_eq_true rfl) (Nat.le_of_ble_eq_true rfl) (Nat.le_of_ble_eq_true rfl) rfl (fun q10 => ?_)
    refine V_if_eq (pc := 13) (tgt := 20) dX12_noBoth_13 (by decide +kernel) ?_ ?_
    · refine V_iconst (pc := 20) dX12_noBoth_20 ic_0 ?_
      refine V_sub (vs' := [none, none, none]) (show vless _ _ from trivial) rfl ?_
      exact hJ21 (0 : Int32)
    · refine V_sub (vs' := [none, none, none]) (show vless _ _ from trivial) rfl ?_
      exact hJ16 ()
def J_X12_told_140 (n : Nat) (t0 : Int32) (σ : MS) : Option (Int32 × MS) := some (t0, σ)
def J_X12_told_108 (n : Nat) (v5 : Int32) (t0 : Int32) (t1 : Int32) (t2 : Int32) (t3 : Int32) (σ : MS) : Option (Int32 × MS) := ((f_X12_looks t3 t2 t1 t0 σ).bind (fun q108 => (if v5 = 0 then ((f_X12_bindsBy n  q108.2).bind (fun q117 => J_X12_told_140 n q117.1 q117.2)) else (if v5 = (1 : Int32) then ((f_X12_lastsFor n  q108.2).bind (fun q130 => J_X12_told_140 n q130.1 q130.2)) else ((f_X12_suspectsBy n  q108.2).bind (fun q137 => J_X12_told_140 n q137.1 q137.2))))))
def J_X12_told_96 (n : Nat) (v4 : Int32) (v5 : Int32) (t0 : Int32) (t1 : Int32) (t2 : Int32) (σ : MS) : Option (Int32 × MS) := (if v5 = (2 : Int32) then J_X12_told_108 n v5 (0 : Int32) t0 t1 t2 σ else J_X12_told_108 n v5 v4 t0 t1 t2 σ)
def J_X12_told_80 (n : Nat)  (σ : MS) : Option (Int32 × MS) := some ((0 : Int32), σ)
def J_X12_told_73 (n : Nat) (v1 : Int32) (v2 : Int32) (v3 : Int32) (v4 : Int32) (v5 : Int32) (t0 : Int32) (σ : MS) : Option (Int32 × MS) := ((f_X12_throwsIf t0 (3 : Int32) σ).bind (fun q74 => (if q74.1 = 0 then (if v5 = (2 : Int32) then J_X12_told_96 n v4 v5 (0 : Int32) v2 v1 q74.2 else J_X12_told_96 n v4 v5 v3 v2 v1 q74.2) else J_X12_told_80 n  q74.2)))
def J_X12_told_50 (n : Nat) (v1 : Int32) (v2 : Int32) (v3 : Int32) (v4 : Int32) (v5 : Int32) (t0 : Int32) (σ : MS) : Option (Int32 × MS) := ((f_X12_throwsIf t0 (2 : Int32) σ).bind (fun q51 => (if q51.1 = 0 then ((f_X12_in v5 (0 : Int32) (2 : Int32) q51.2).bind (fun q62 => (if q62 = 0 then J_X12_told_73 n v1 v2 v3 v4 v5 (1 : Int32) q51.2 else J_X12_told_73 n v1 v2 v3 v4 v5 (0 : Int32) q51.2))) else J_X12_told_80 n  q51.2)))
def J_X12_told_45 (n : Nat) (v1 : Int32) (v2 : Int32) (v3 : Int32) (v4 : Int32) (v5 : Int32) (σ : MS) : Option (Int32 × MS) := J_X12_told_50 n v1 v2 v3 v4 v5 (1 : Int32) σ
def f_X12_told (n : Nat) (p1 : Int32) (p2 : Int32) (p3 : Int32) (p4 : Int32) (p5 : Int32) (σ : MS) : Option (Int32 × MS) := (ltM (mu σ 171 0 (0 : Int32)) (fun s2 => ((f_X12_noBoth p1 p2 s2).bind (fun q9 => ((f_X12_throwsIf q9 (1 : Int32) s2).bind (fun q13 => (if q13.1 = 0 then (if p1 = p2 then J_X12_told_45 n p1 p2 p3 p4 p5 q13.2 else ((f_X12_in p3 (0 : Int32) (3 : Int32) q13.2).bind (fun q28 => (if q28 = 0 then J_X12_told_45 n p1 p2 p3 p4 p5 q13.2 else ((f_X12_in p4 (2 : Int32) (8 : Int32) q13.2).bind (fun q39 => (if q39 = 0 then J_X12_told_45 n p1 p2 p3 p4 p5 q13.2 else J_X12_told_50 n p1 p2 p3 p4 p5 (0 : Int32) q13.2))))))) else J_X12_told_80 n  q13.2)))))))
set_option maxRecDepth 20000 in
set_option maxHeartbeats 2000000 in
theorem c_X12_told (w : TG) (n : Nat) (p1 : Int32) (p2 : Int32) (p3 : Int32) (p4 : Int32) (p5 : Int32) (σ : MS) : MC m_X12_told w [.ref (wB w + 171), .int p1, .int p2, .int p3, .int p4, .int p5] σ (f_X12_told n p1 p2 p3 p4 p5 σ) := by
  refine V_meth (by decide +kernel) (Nat.le_of_ble_eq_true rfl) (by intro v hv; simp only [List.mem_cons, List.not_mem_nil, or_false] at hv; rcases hv with rfl | rfl | rfl | rfl | rfl | rfl <;> rfl) (fun g x => ?_)
  show VV m_X12_told w g 0 0 (QM m_X12_told w g x) (fun b : Int32 × MS => b = x) 0 [some (.ref (wB w + 171)), some (.int p1), some (.int p2), some (.int p3), some (.int p4), some (.int p5)] [] σ (f_X12_told n p1 p2 p3 p4 p5 σ)
  have hJ140 : ∀ (t0 : Int32) (σ : MS), VV m_X12_told w g 0 0 (QM m_X12_told w g x) (fun b : Int32 × MS => b = x) 140 [none, none, none, none, none, none] [.int t0] σ (J_X12_told_140 n t0 σ) := by
    intro t0 σ
    exact V_ireti (pc := 140) dX12_told_140 rfl (hk := fun h => h)
  have hJ108 : ∀ (t0 : Int32) (t1 : Int32) (t2 : Int32) (t3 : Int32) (σ : MS), VV m_X12_told w g 0 0 (QM m_X12_told w g x) (fun b : Int32 × MS => b = x) 108 [some (.ref (wB w + 171)), none, none, none, none, some (.int p5)] [.int t0, .int t1, .int t2, .int t3, .ref (wB w + 171)] σ (J_X12_told_108 n p5 t0 t1 t2 t3 σ) := by
    intro t0 t1 t2 t3 σ
    refine V_callVv (pc := 108) (As := [.int t3, .int t2, .int t1, .int t0]) (rest := []) (c_X12_looks w t3 t2 t1 t0 σ) cw_X12_303 rfl rfl dX12_told_108 kc_171 ci_12 ⟨Nat.le_of_ble_eq_true rfl, Nat.le_of_ble_eq_true rfl⟩ rfl rfl (Nat.le_of_ble_eq_true rfl) (Nat.le_of_ble_eq_true rfl) (Nat.le_of_ble_eq_true rfl) rfl (fun q108 => ?_)
    refine V_iload (pc := 111) dX12_told_111 rfl ?_
    refine V_if_ne (pc := 113) (tgt := 123) dX12_told_113 (by decide +kernel) ?_ ?_
    · refine V_iload (pc := 123) dX12_told_123 rfl ?_
      refine V_iconst (pc := 125) dX12_told_125 ic_1 ?_
      refine V_icmp_ne (pc := 126) (tgt := 136) dX12_told_126 (by decide +kernel) ?_ ?_
      · refine V_aload_n (pc := 136) dX12_told_136 rfl rfl ?_
        refine V_callVi (pc := 137) (As := []) (rest := []) (c_X12_suspectsBy w n  q108.2) cw_X12_309 rfl rfl dX12_told_137 kc_171 ci_12 ⟨Nat.le_of_ble_eq_true rfl, Nat.le_of_ble_eq_true rfl⟩ rfl rfl (Nat.le_of_ble_eq_true rfl) (Nat.le_of_ble_eq_true rfl) (Nat.le_of_ble_eq_true rfl) rfl (fun q137 => ?_)
        refine V_sub (vs' := [none, none, none, none, none, none]) (show vless _ _ from trivial) rfl ?_
        exact hJ140 q137.1 q137.2
      · refine V_aload_n (pc := 129) dX12_told_129 rfl rfl ?_
        refine V_callVi (pc := 130) (As := []) (rest := []) (c_X12_lastsFor w n  q108.2) cw_X12_306 rfl rfl dX12_told_130 kc_171 ci_12 ⟨Nat.le_of_ble_eq_true rfl, Nat.le_of_ble_eq_true rfl⟩ rfl rfl (Nat.le_of_ble_eq_true rfl) (Nat.le_of_ble_eq_true rfl) (Nat.le_of_ble_eq_true rfl) rfl (fun q130 => ?_)
        refine V_goto (pc := 133) (tgt := 140) dX12_told_133 (by decide +kernel) ?_
        refine V_sub (vs' := [none, none, none, none, none, none]) (show vless _ _ from trivial) rfl ?_
        exact hJ140 q130.1 q130.2
    · refine V_aload_n (pc := 116) dX12_told_116 rfl rfl ?_
      refine V_callVi (pc := 117) (As := []) (rest := []) (c_X12_bindsBy w n  q108.2) cw_X12_294 rfl rfl dX12_told_117 kc_171 ci_12 ⟨Nat.le_of_ble_eq_true rfl, Nat.le_of_ble_eq_true rfl⟩ rfl rfl (Nat.le_of_ble_eq_true rfl) (Nat.le_of_ble_eq_true rfl) (Nat.le_of_ble_eq_true rfl) rfl (fun q117 => ?_)
      refine V_goto (pc := 120) (tgt := 140) dX12_told_120 (by decide +kernel) ?_
      refine V_sub (vs' := [none, none, none, none, none, none]) (show vless _ _ from trivial) rfl ?_
      exact hJ140 q117.1 q117.2
  have hJ96 : ∀ (t0 : Int32) (t1 : Int32) (t2 : Int32) (σ : MS), VV m_X12_told w g 0 0 (QM m_X12_told w g x) (fun b : Int32 × MS => b = x) 96 [some (.ref (wB w + 171)), none, none, none, some (.int p4), some (.int p5)] [.int t0, .int t1, .int t2, .ref (wB w + 171)] σ (J_X12_told_96 n p4 p5 t0 t1 t2 σ) := by
    intro t0 t1 t2 σ
    refine V_iload (pc := 96) dX12_told_96 rfl ?_
    refine V_iconst (pc := 98) dX12_told_98 ic_2 ?_
    refine V_icmp_ne (pc := 99) (tgt := 106) dX12_told_99 (by decide +kernel) ?_ ?_
    · refine V_iload (pc := 106) dX12_told_106 rfl ?_
      refine V_sub (vs' := [some (.ref (wB w + 171)), none, none, none, none, some (.int p5)]) (show vless _ _ from ⟨rfl, ⟨rfl, trivial⟩⟩) rfl ?_
      exact hJ108 p4 t0 t1 t2 σ
    · refine V_iconst (pc := 102) dX12_told_102 ic_0 ?_
      refine V_goto (pc := 103) (tgt := 108) dX12_told_103 (by decide +kernel) ?_
      refine V_sub (vs' := [some (.ref (wB w + 171)), none, none, none, none, some (.int p5)]) (show vless _ _ from ⟨rfl, ⟨rfl, trivial⟩⟩) rfl ?_
      exact hJ108 (0 : Int32) t0 t1 t2 σ
  have hJ80 : ∀ (σ : MS), VV m_X12_told w g 0 0 (QM m_X12_told w g x) (fun b : Int32 × MS => b = x) 80 [none, none, none, none, none, none] [] σ (J_X12_told_80 n  σ) := by
    intro σ
    refine V_iconst (pc := 80) dX12_told_80 ic_0 ?_
    exact V_ireti (pc := 81) dX12_told_81 rfl (hk := fun h => h)
  have hJ73 : ∀ (t0 : Int32) (σ : MS), VV m_X12_told w g 0 0 (QM m_X12_told w g x) (fun b : Int32 × MS => b = x) 73 [some (.ref (wB w + 171)), some (.int p1), some (.int p2), some (.int p3), some (.int p4), some (.int p5)] [.int t0, .ref (wB w + 171)] σ (J_X12_told_73 n p1 p2 p3 p4 p5 t0 σ) := by
    intro t0 σ
    refine V_iconst (pc := 73) dX12_told_73 ic_3 ?_
    refine V_callVi (pc := 74) (As := [.int t0, .int (3 : Int32)]) (rest := []) (c_X12_throwsIf w t0 (3 : Int32) σ) cw_X12_257 rfl rfl dX12_told_74 kc_171 ci_12 ⟨Nat.le_of_ble_eq_true rfl, Nat.le_of_ble_eq_true rfl⟩ rfl rfl (Nat.le_of_ble_eq_true rfl) (Nat.le_of_ble_eq_true rfl) (Nat.le_of_ble_eq_true rfl) rfl (fun q74 => ?_)
    refine V_if_eq (pc := 77) (tgt := 82) dX12_told_77 (by decide +kernel) ?_ ?_
    · refine V_aload_n (pc := 82) dX12_told_82 rfl rfl ?_
      refine V_iload_n (pc := 83) dX12_told_83 rfl rfl ?_
      refine V_iload_n (pc := 84) dX12_told_84 rfl rfl ?_
      refine V_iload (pc := 85) dX12_told_85 rfl ?_
      refine V_iconst (pc := 87) dX12_told_87 ic_2 ?_
      refine V_icmp_ne (pc := 88) (tgt := 95) dX12_told_88 (by decide +kernel) ?_ ?_
      · refine V_iload_n (pc := 95) dX12_told_95 rfl rfl ?_
        refine V_sub (vs' := [some (.ref (wB w + 171)), none, none, none, some (.int p4), some (.int p5)]) (show vless _ _ from ⟨rfl, ⟨rfl, ⟨rfl, trivial⟩⟩⟩) rfl ?_
        exact hJ96 p3 p2 p1 q74.2
      · refine V_iconst (pc := 91) dX12_told_91 ic_0 ?_
        refine V_goto (pc := 92) (tgt := 96) dX12_told_92 (by decide +kernel) ?_
        refine V_sub (vs' := [some (.ref (wB w + 171)), none, none, none, some (.int p4), some (.int p5)]) (show vless _ _ from ⟨rfl, ⟨rfl, ⟨rfl, trivial⟩⟩⟩) rfl ?_
        exact hJ96 (0 : Int32) p2 p1 q74.2
    · refine V_sub (vs' := [none, none, none, none, none, none]) (show vless _ _ from trivial) rfl ?_
      exact hJ80 q74.2
  have hJ50 : ∀ (t0 : Int32) (σ : MS), VV m_X12_told w g 0 0 (QM m_X12_told w g x) (fun b : Int32 × MS => b = x) 50 [some (.ref (wB w + 171)), some (.int p1), some (.int p2), some (.int p3), some (.int p4), some (.int p5)] [.int t0, .ref (wB w + 171)] σ (J_X12_told_50 n p1 p2 p3 p4 p5 t0 σ) := by
    intro t0 σ
    refine V_iconst (pc := 50) dX12_told_50 ic_2 ?_
    refine V_callVi (pc := 51) (As := [.int t0, .int (2 : Int32)]) (rest := []) (c_X12_throwsIf w t0 (2 : Int32) σ) cw_X12_257 rfl rfl dX12_told_51 kc_171 ci_12 ⟨Nat.le_of_ble_eq_true rfl, Nat.le_of_ble_eq_true rfl⟩ rfl rfl (Nat.le_of_ble_eq_true rfl) (Nat.le_of_ble_eq_true rfl) (Nat.le_of_ble_eq_true rfl) rfl (fun q51 => ?_)
    refine V_if_ne (pc := 54) (tgt := 80) dX12_told_54 (by decide +kernel) ?_ ?_
    · refine V_sub (vs' := [none, none, none, none, none, none]) (show vless _ _ from trivial) rfl ?_
      exact hJ80 q51.2
    · refine V_aload_n (pc := 57) dX12_told_57 rfl rfl ?_
      refine V_iload (pc := 58) dX12_told_58 rfl ?_
      refine V_iconst (pc := 60) dX12_told_60 ic_0 ?_
      refine V_iconst (pc := 61) dX12_told_61 ic_2 ?_
      refine V_callSpi (pc := 62) (As := [.int p5, .int (0 : Int32), .int (2 : Int32)]) (rest := [.ref (wB w + 171)]) (c_X12_in w p5 (0 : Int32) (2 : Int32) q51.2) cs_X12_79 rfl rfl dX12_told_62 ⟨Nat.le_of_ble_eq_true rfl, Nat.le_of_ble_eq_true rfl⟩ rfl rfl (Nat.le_of_ble_eq_true rfl) (Nat.le_of_ble_eq_true rfl) (Nat.le_of_ble_eq_true rfl) rfl (fun q62 => ?_)
      refine V_if_ne (pc := 65) (tgt := 72) dX12_told_65 (by decide +kernel) ?_ ?_
      · refine V_iconst (pc := 72) dX12_told_72 ic_0 ?_
        exact hJ73 (0 : Int32) q51.2
      · refine V_iconst (pc := 68) dX12_told_68 ic_1 ?_
        refine V_goto (pc := 69) (tgt := 73) dX12_told_69 (by decide +kernel) ?_
        exact hJ73 (1 : Int32) q51.2
  have hJ45 : ∀ (σ : MS), VV m_X12_told w g 0 0 (QM m_X12_told w g x) (fun b : Int32 × MS => b = x) 45 [some (.ref (wB w + 171)), some (.int p1), some (.int p2), some (.int p3), some (.int p4), some (.int p5)] [.ref (wB w + 171)] σ (J_X12_told_45 n p1 p2 p3 p4 p5 σ) := by
    intro σ
    refine V_iconst (pc := 45) dX12_told_45 ic_1 ?_
    refine V_goto (pc := 46) (tgt := 50) dX12_told_46 (by decide +kernel) ?_
    exact hJ50 (1 : Int32) σ
  refine V_aload_n (pc := 0) dX12_told_0 rfl rfl ?_
  refine V_iconst (pc := 1) dX12_told_1 ic_0 ?_
  refine V_puti (pc := 2) fp_X12_3 rfl dX12_told_2 kc_171 rf_12_0_171 (fun s2 => ?_)
  refine V_aload_n (pc := 5) dX12_told_5 rfl rfl ?_
  refine V_aload_n (pc := 6) dX12_told_6 rfl rfl ?_
  refine V_iload_n (pc := 7) dX12_told_7 rfl rfl ?_
  refine V_iload_n (pc := 8) dX12_told_8 rfl rfl ?_
  refine V_callVpi (pc := 9) (As := [.int p1, .int p2]) (rest := [.ref (wB w + 171)]) (c_X12_noBoth w p1 p2 s2) cw_X12_300 rfl rfl dX12_told_9 kc_171 ci_12 ⟨Nat.le_of_ble_eq_true rfl, Nat.le_of_ble_eq_true rfl⟩ rfl rfl (Nat.le_of_ble_eq_true rfl) (Nat.le_of_ble_eq_true rfl) (Nat.le_of_ble_eq_true rfl) rfl (fun q9 => ?_)
  refine V_iconst (pc := 12) dX12_told_12 ic_1 ?_
  refine V_callVi (pc := 13) (As := [.int q9, .int (1 : Int32)]) (rest := []) (c_X12_throwsIf w q9 (1 : Int32) s2) cw_X12_257 rfl rfl dX12_told_13 kc_171 ci_12 ⟨Nat.le_of_ble_eq_true rfl, Nat.le_of_ble_eq_true rfl⟩ rfl rfl (Nat.le_of_ble_eq_true rfl) (Nat.le_of_ble_eq_true rfl) (Nat.le_of_ble_eq_true rfl) rfl (fun q13 => ?_)
  refine V_if_ne (pc := 16) (tgt := 80) dX12_told_16 (by decide +kernel) ?_ ?_
  · refine V_sub (vs' := [none, none, none, none, none, none]) (show vless _ _ from trivial) rfl ?_
    exact hJ80 q13.2
  · refine V_aload_n (pc := 19) dX12_told_19 rfl rfl ?_
    refine V_iload_n (pc := 20) dX12_told_20 rfl rfl ?_
    refine V_iload_n (pc := 21) dX12_told_21 rfl rfl ?_
    refine V_icmp_eq (pc := 22) (tgt := 45) dX12_told_22 (by decide +kernel) ?_ ?_
    · exact hJ45 q13.2
    · refine V_iload_n (pc := 25) dX12_told_25 rfl rfl ?_
      refine V_iconst (pc := 26) dX12_told_26 ic_0 ?_
      refine V_iconst (pc := 27) dX12_told_27 ic_3 ?_
      refine V_callSpi (pc := 28) (As := [.int p3, .int (0 : Int32), .int (3 : Int32)]) (rest := [.ref (wB w + 171)]) (c_X12_in w p3 (0 : Int32) (3 : Int32) q13.2) cs_X12_79 rfl rfl dX12_told_28 ⟨Nat.le_of_ble_eq_true rfl, Nat.le_of_ble_eq_true rfl⟩ rfl rfl (Nat.le_of_ble_eq_true rfl) (Nat.le_of_ble_eq_true rfl) (Nat.le_of_ble_eq_true rfl) rfl (fun q28 => ?_)
      refine V_if_eq (pc := 31) (tgt := 45) dX12_told_31 (by decide +kernel) ?_ ?_
      · exact hJ45 q13.2
      · refine V_iload (pc := 34) dX12_told_34 rfl ?_
        refine V_iconst (pc := 36) dX12_told_36 ic_2 ?_
        refine V_bipush (pc := 37) dX12_told_37 bp_8 ?_
        refine V_callSpi (pc := 39) (As := [.int p4, .int (2 : Int32), .int (8 : Int32)]) (rest := [.ref (wB w + 171)]) (c_X12_in w p4 (2 : Int32) (8 : Int32) q13.2) cs_X12_79 rfl rfl dX12_told_39 ⟨Nat.le_of_ble_eq_true rfl, Nat.le_of_ble_eq_true rfl⟩ rfl rfl (Nat.le_of_ble_eq_true rfl) (Nat.le_of_ble_eq_true rfl) (Nat.le_of_ble_eq_true rfl) rfl (fun q39 => ?_)
        refine V_if_ne (pc := 42) (tgt := 49) dX12_told_42 (by decide +kernel) ?_ ?_
        · refine V_iconst (pc := 49) dX12_told_49 ic_0 ?_
          exact hJ50 (0 : Int32) q13.2
        · exact hJ45 q13.2
def J_X12_sips_117 (n : Nat) (t0 : Int32) (σ : MS) : Option (Int32 × MS) := (if t0 = 0 ∨ t0 = 1 then some (t0, σ) else none)
def J_X12_sips_112 (n : Nat)  (σ : MS) : Option (Int32 × MS) := J_X12_sips_117 n (1 : Int32) σ
def J_X12_sips_53 (n : Nat) (v1 : Int32) (v2 : Int32) (v5 : Int32) (v6 : Int32) (t0 : Int32) (σ : MS) : Option (Int32 × MS) := ((f_X12_lastsFor n  σ).bind (fun q76 => ((f_X12_binds v1 v2 (mxI v6 v5) (mxI t0 (mnI (9999 : Int32) ((σ 172 3) + q76.1))) q76.2).bind (fun q95 => (if v6 < (mxI v6 v5) then J_X12_sips_112 n  q95.2 else (if (mxI t0 (mnI (9999 : Int32) ((σ 172 3) + q76.1))) ≤ t0 then J_X12_sips_117 n (0 : Int32) q95.2 else J_X12_sips_112 n  q95.2))))))
def f_X12_sips (n : Nat) (p1 : Int32) (p2 : Int32) (p3 : Int32) (p4 : Int32) (σ : MS) : Option (Int32 × MS) := ((f_X12_looks p1 p2 p3 p4 σ).bind (fun q6 => ((f_X12_sipBinds n  q6.2).bind (fun q10 => (if q10.1 = 0 then some ((0 : Int32), q10.2) else ((f_X12_bondOf p1 p2 q10.2).bind (fun q25 => (if q25 ≤ 0 then J_X12_sips_53 n p1 p2 q10.1 q25 (0 : Int32) q10.2 else ((f_X12_both p1 p2 q10.2).bind (fun q44 => (if inb ((170 : Int32) + q44) 2172 then J_X12_sips_53 n p1 p2 q10.1 q25 (q10.2 172 (ix ((170 : Int32) + q44))) q10.2 else none)))))))))))
set_option maxRecDepth 20000 in
set_option maxHeartbeats 2000000 in
theorem c_X12_sips (w : TG) (n : Nat) (p1 : Int32) (p2 : Int32) (p3 : Int32) (p4 : Int32) (σ : MS) : MC m_X12_sips w [.ref (wB w + 171), .int p1, .int p2, .int p3, .int p4] σ (f_X12_sips n p1 p2 p3 p4 σ) := by
  refine V_meth (by decide +kernel) (Nat.le_of_ble_eq_true rfl) (by intro v hv; simp only [List.mem_cons, List.not_mem_nil, or_false] at hv; rcases hv with rfl | rfl | rfl | rfl | rfl <;> rfl) (fun g x => ?_)
  show VV m_X12_sips w g 0 0 (QM m_X12_sips w g x) (fun b : Int32 × MS => b = x) 0 [some (.ref (wB w + 171)), some (.int p1), some (.int p2), some (.int p3), some (.int p4), none, none, none, none, none] [] σ (f_X12_sips n p1 p2 p3 p4 σ)
  have hJ117 : ∀ (t0 : Int32) (σ : MS), VV m_X12_sips w g 0 0 (QM m_X12_sips w g x) (fun b : Int32 × MS => b = x) 117 [none, none, none, none, none, none, none, none, none, none] [.int t0] σ (J_X12_sips_117 n t0 σ) := by
    intro t0 σ
    exact V_iretZ (pc := 117) dX12_sips_117 rfl (hk := fun h => h)
  have hJ112 : ∀ (σ : MS), VV m_X12_sips w g 0 0 (QM m_X12_sips w g x) (fun b : Int32 × MS => b = x) 112 [none, none, none, none, none, none, none, none, none, none] [] σ (J_X12_sips_112 n  σ) := by
    intro σ
    refine V_iconst (pc := 112) dX12_sips_112 ic_1 ?_
    refine V_goto (pc := 113) (tgt := 117) dX12_sips_113 (by decide +kernel) ?_
    exact hJ117 (1 : Int32) σ
  have hJ53 : ∀ (v5 : Int32) (v6 : Int32) (t0 : Int32) (σ : MS), VV m_X12_sips w g 0 0 (QM m_X12_sips w g x) (fun b : Int32 × MS => b = x) 53 [some (.ref (wB w + 171)), some (.int p1), some (.int p2), none, none, some (.int v5), some (.int v6), none, none, none] [.int t0] σ (J_X12_sips_53 n p1 p2 v5 v6 t0 σ) := by
    intro v5 v6 t0 σ
    refine V_istore (pc := 53) (vs' := [some (.ref (wB w + 171)), some (.int p1), some (.int p2), none, none, some (.int v5), some (.int v6), some (.int t0), none, none]) dX12_sips_53 (Nat.le_of_ble_eq_true rfl) (Nat.le_of_ble_eq_true rfl) rfl ?_
    refine V_iload (pc := 55) dX12_sips_55 rfl ?_
    refine V_iload (pc := 57) dX12_sips_57 rfl ?_
    refine V_mmax (pc := 59) dX12_sips_59 rfl mw_X12_288 (Nat.le_of_ble_eq_true rfl) (Nat.le_of_ble_eq_true rfl) (Nat.le_of_ble_eq_true rfl) (Nat.le_of_ble_eq_true rfl) ?_
    refine V_istore (pc := 62) (vs' := [some (.ref (wB w + 171)), some (.int p1), some (.int p2), none, none, some (.int v5), some (.int v6), some (.int t0), some (.int (mxI v6 v5)), none]) dX12_sips_62 (Nat.le_of_ble_eq_true rfl) (Nat.le_of_ble_eq_true rfl) rfl ?_
    refine V_iload (pc := 64) dX12_sips_64 rfl ?_
    refine V_sipush (pc := 66) dX12_sips_66 sp_9999 ?_
    refine V_aload_n (pc := 69) dX12_sips_69 rfl rfl ?_
    refine V_getr (pc := 70) (t := 172) fk_X12_13 rfl dX12_sips_70 kc_171 rf_12_1_171 ?_
    refine V_iconst (pc := 73) dX12_sips_73 ic_3 ?_
    refine V_ialdC (pc := 74) (n := 2172) dX12_sips_74 kc_172 lc_172 inb_3_2172 ?_
    refine V_aload_n (pc := 75) dX12_sips_75 rfl rfl ?_
    refine V_callVi (pc := 76) (As := []) (rest := [.int (σ 172 3), .int (9999 : Int32), .int t0]) (c_X12_lastsFor w n  σ) cw_X12_306 rfl rfl dX12_sips_76 kc_171 ci_12 ⟨Nat.le_of_ble_eq_true rfl, Nat.le_of_ble_eq_true rfl⟩ rfl rfl (Nat.le_of_ble_eq_true rfl) (Nat.le_of_ble_eq_true rfl) (Nat.le_of_ble_eq_true rfl) rfl (fun q76 => ?_)
    refine V_iadd (pc := 79) dX12_sips_79 ?_
    refine V_mmin (pc := 80) dX12_sips_80 rfl mw_X12_283 (Nat.le_of_ble_eq_true rfl) (Nat.le_of_ble_eq_true rfl) (Nat.le_of_ble_eq_true rfl) (Nat.le_of_ble_eq_true rfl) ?_
    refine V_mmax (pc := 83) dX12_sips_83 rfl mw_X12_288 (Nat.le_of_ble_eq_true rfl) (Nat.le_of_ble_eq_true rfl) (Nat.le_of_ble_eq_true rfl) (Nat.le_of_ble_eq_true rfl) ?_
    refine V_istore (pc := 86) (vs' := [some (.ref (wB w + 171)), some (.int p1), some (.int p2), none, none, some (.int v5), some (.int v6), some (.int t0), some (.int (mxI v6 v5)), some (.int (mxI t0 (mnI (9999 : Int32) ((σ 172 3) + q76.1))))]) dX12_sips_86 (Nat.le_of_ble_eq_true rfl) (Nat.le_of_ble_eq_true rfl) rfl ?_
    refine V_aload_n (pc := 88) dX12_sips_88 rfl rfl ?_
    refine V_iload_n (pc := 89) dX12_sips_89 rfl rfl ?_
    refine V_iload_n (pc := 90) dX12_sips_90 rfl rfl ?_
    refine V_iload (pc := 91) dX12_sips_91 rfl ?_
    refine V_iload (pc := 93) dX12_sips_93 rfl ?_
    refine V_callVv (pc := 95) (As := [.int p1, .int p2, .int (mxI v6 v5), .int (mxI t0 (mnI (9999 : Int32) ((σ 172 3) + q76.1)))]) (rest := []) (c_X12_binds w p1 p2 (mxI v6 v5) (mxI t0 (mnI (9999 : Int32) ((σ 172 3) + q76.1))) q76.2) cw_X12_143 rfl rfl dX12_sips_95 kc_171 ci_12 ⟨Nat.le_of_ble_eq_true rfl, Nat.le_of_ble_eq_true rfl⟩ rfl rfl (Nat.le_of_ble_eq_true rfl) (Nat.le_of_ble_eq_true rfl) (Nat.le_of_ble_eq_true rfl) rfl (fun q95 => ?_)
    refine V_iload (pc := 98) dX12_sips_98 rfl ?_
    refine V_iload (pc := 100) dX12_sips_100 rfl ?_
    refine V_icmp_gt (pc := 102) (tgt := 112) dX12_sips_102 (by decide +kernel) ?_ ?_
    · refine V_sub (vs' := [none, none, none, none, none, none, none, none, none, none]) (show vless _ _ from trivial) rfl ?_
      exact hJ112 q95.2
    · refine V_iload (pc := 105) dX12_sips_105 rfl ?_
      refine V_iload (pc := 107) dX12_sips_107 rfl ?_
      refine V_icmp_le (pc := 109) (tgt := 116) dX12_sips_109 (by decide +kernel) ?_ ?_
      · refine V_iconst (pc := 116) dX12_sips_116 ic_0 ?_
        refine V_sub (vs' := [none, none, none, none, none, none, none, none, none, none]) (show vless _ _ from trivial) rfl ?_
        exact hJ117 (0 : Int32) q95.2
      · refine V_sub (vs' := [none, none, none, none, none, none, none, none, none, none]) (show vless _ _ from trivial) rfl ?_
        exact hJ112 q95.2
  refine V_aload_n (pc := 0) dX12_sips_0 rfl rfl ?_
  refine V_iload_n (pc := 1) dX12_sips_1 rfl rfl ?_
  refine V_iload_n (pc := 2) dX12_sips_2 rfl rfl ?_
  refine V_iload_n (pc := 3) dX12_sips_3 rfl rfl ?_
  refine V_iload (pc := 4) dX12_sips_4 rfl ?_
  refine V_callVv (pc := 6) (As := [.int p1, .int p2, .int p3, .int p4]) (rest := []) (c_X12_looks w p1 p2 p3 p4 σ) cw_X12_303 rfl rfl dX12_sips_6 kc_171 ci_12 ⟨Nat.le_of_ble_eq_true rfl, Nat.le_of_ble_eq_true rfl⟩ rfl rfl (Nat.le_of_ble_eq_true rfl) (Nat.le_of_ble_eq_true rfl) (Nat.le_of_ble_eq_true rfl) rfl (fun q6 => ?_)
  refine V_aload_n (pc := 9) dX12_sips_9 rfl rfl ?_
  refine V_callVi (pc := 10) (As := []) (rest := []) (c_X12_sipBinds w n  q6.2) cw_X12_312 rfl rfl dX12_sips_10 kc_171 ci_12 ⟨Nat.le_of_ble_eq_true rfl, Nat.le_of_ble_eq_true rfl⟩ rfl rfl (Nat.le_of_ble_eq_true rfl) (Nat.le_of_ble_eq_true rfl) (Nat.le_of_ble_eq_true rfl) rfl (fun q10 => ?_)
  refine V_istore (pc := 13) (vs' := [some (.ref (wB w + 171)), some (.int p1), some (.int p2), some (.int p3), some (.int p4), some (.int q10.1), none, none, none, none]) dX12_sips_13 (Nat.le_of_ble_eq_true rfl) (Nat.le_of_ble_eq_true rfl) rfl ?_
  refine V_iload (pc := 15) dX12_sips_15 rfl ?_
  refine V_if_ne (pc := 17) (tgt := 22) dX12_sips_17 (by decide +kernel) ?_ ?_
  · refine V_aload_n (pc := 22) dX12_sips_22 rfl rfl ?_
    refine V_iload_n (pc := 23) dX12_sips_23 rfl rfl ?_
    refine V_iload_n (pc := 24) dX12_sips_24 rfl rfl ?_
    refine V_callVpi (pc := 25) (As := [.int p1, .int p2]) (rest := []) (c_X12_bondOf w p1 p2 q10.2) cw_X12_315 rfl rfl dX12_sips_25 kc_171 ci_12 ⟨Nat.le_of_ble_eq_true rfl, Nat.le_of_ble_eq_true rfl⟩ rfl rfl (Nat.le_of_ble_eq_true rfl) (Nat.le_of_ble_eq_true rfl) (Nat.le_of_ble_eq_true rfl) rfl (fun q25 => ?_)
    refine V_istore (pc := 28) (vs' := [some (.ref (wB w + 171)), some (.int p1), some (.int p2), some (.int p3), some (.int p4), some (.int q10.1), some (.int q25), none, none, none]) dX12_sips_28 (Nat.le_of_ble_eq_true rfl) (Nat.le_of_ble_eq_true rfl) rfl ?_
    refine V_iload (pc := 30) dX12_sips_30 rfl ?_
    refine V_if_le (pc := 32) (tgt := 52) dX12_sips_32 (by decide +kernel) ?_ ?_
    · refine V_iconst (pc := 52) dX12_sips_52 ic_0 ?_
      refine V_sub (vs' := [some (.ref (wB w + 171)), some (.int p1), some (.int p2), none, none, some (.int q10.1), some (.int q25), none, none, none]) (show vless _ _ from ⟨rfl, ⟨rfl, ⟨rfl, ⟨rfl, ⟨rfl, trivial⟩⟩⟩⟩⟩) rfl ?_
      exact hJ53 q10.1 q25 (0 : Int32) q10.2
    · refine V_aload_n (pc := 35) dX12_sips_35 rfl rfl ?_
      refine V_getr (pc := 36) (t := 172) fk_X12_13 rfl dX12_sips_36 kc_171 rf_12_1_171 ?_
      refine V_sipush (pc := 39) dX12_sips_39 sp_170 ?_
      refine V_iload_n (pc := 42) dX12_sips_42 rfl rfl ?_
      refine V_iload_n (pc := 43) dX12_sips_43 rfl rfl ?_
      refine V_callSpi (pc := 44) (As := [.int p1, .int p2]) (rest := [.int (170 : Int32), .ref (wB w + 172)]) (c_X12_both w p1 p2 q10.2) cs_X12_66 rfl rfl dX12_sips_44 ⟨Nat.le_of_ble_eq_true rfl, Nat.le_of_ble_eq_true rfl⟩ rfl rfl (Nat.le_of_ble_eq_true rfl) (Nat.le_of_ble_eq_true rfl) (Nat.le_of_ble_eq_true rfl) rfl (fun q44 => ?_)
      refine V_iadd (pc := 47) dX12_sips_47 ?_
      refine V_iald (pc := 48) (n := 2172) dX12_sips_48 kc_172 lc_172 ?_
      refine V_goto (pc := 49) (tgt := 53) dX12_sips_49 (by decide +kernel) ?_
      refine V_sub (vs' := [some (.ref (wB w + 171)), some (.int p1), some (.int p2), none, none, some (.int q10.1), some (.int q25), none, none, none]) (show vless _ _ from ⟨rfl, ⟨rfl, ⟨rfl, ⟨rfl, ⟨rfl, trivial⟩⟩⟩⟩⟩) rfl ?_
      exact hJ53 q10.1 q25 (q10.2 172 (ix ((170 : Int32) + q44))) q10.2
  · refine V_iconst (pc := 20) dX12_sips_20 ic_0 ?_
    exact V_iretz (pc := 21) dX12_sips_21 rfl rfl (hk := fun h => h)
