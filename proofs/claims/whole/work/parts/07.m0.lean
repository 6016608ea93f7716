def m_X12_thrown : MD := (yX12_thrown, cX12_thrown, 1, (some .int), 0, 0, 0, 0)
def m_X12_throwsIf : MD := (yX12_throwsIf, cX12_throwsIf, 3, (some .boolean), 0, 0, 0, 0)
def m_X12_in : MD := (yX12_in, cX12_in, 3, (some .boolean), 0, 0, 0, 0)
def m_X12_has : MD := (yX12_has, cX12_has, 2, (some .boolean), 0, 0, 0, 0)
def m_X12_image : MD := (yX12_image, cX12_image, 2, none, 0, 0, 0, 0)
def m_X12_back : MD := (yX12_back, cX12_back, 2, (some .boolean), 0, 0, 0, 0)
def m_X12_remembers : MD := (yX12_remembers, cX12_remembers, 2, none, 0, 0, 0, 0)
def m_X12_undo : MD := (yX12_undo, cX12_undo, 2, (some .boolean), 0, 0, 0, 0)
def m_X12_people : MD := (yX12_people, cX12_people, 1, (some .int), 0, 0, 0, 0)
def m_X12_everybody : MD := (yX12_everybody, cX12_everybody, 1, (some .int), 1, 20, 0, 0)
def m_X12_at : MD := (yX12_at, cX12_at, 2, (some .int), 0, 0, 0, 0)
def m_X12_of : MD := (yX12_of, cX12_of, 3, (some .int), 1, 21, 0, 0)
def m_X12_both : MD := (yX12_both, cX12_both, 2, (some .int), 0, 0, 0, 0)
def m_X12_likes : MD := (yX12_likes, cX12_likes, 3, (some .int), 1, 21, 0, 0)
def m_X12_holds : MD := (yX12_holds, cX12_holds, 3, (some .boolean), 1, 21, 0, 0)
def m_X12_bondOf : MD := (yX12_bondOf, cX12_bondOf, 3, (some .int), 2, 43, 0, 0)
def m_X12_binds : MD := (yX12_binds, cX12_binds, 5, none, 1, 21, 0, 0)
def m_X12_areWed : MD := (yX12_areWed, cX12_areWed, 3, (some .boolean), 2, 43, 0, 0)
def m_X12_hasFlour : MD := (yX12_hasFlour, cX12_hasFlour, 2, (some .boolean), 1, 21, 0, 0)
def m_X12_noPerson : MD := (yX12_noPerson, cX12_noPerson, 2, (some .boolean), 1, 22, 0, 0)
def m_X12_noRoom : MD := (yX12_noRoom, cX12_noRoom, 1, (some .boolean), 1, 22, 0, 0)
def m_X12_drawn : MD := (yX12_drawn, cX12_drawn, 2, (some .int), 0, 0, 0, 0)
def m_X12_feed : MD := (yX12_feed, cX12_feed, 7, (some .int), 0, 0, 0, 0)
def m_X12_end : MD := (yX12_end, cX12_end, 2, (some .boolean), 0, 0, 0, 0)
def m_X12_isAt : MD := (yX12_isAt, cX12_isAt, 3, (some .boolean), 0, 0, 0, 0)
def m_X12_blanks : MD := (yX12_blanks, cX12_blanks, 1, none, 1, 22, 0, 0)
def m_X12_letters : MD := (yX12_letters, cX12_letters, 1, none, 2, 42, 0, 0)
def m_X12_isWord : MD := (yX12_isWord, cX12_isWord, 4, (some .boolean), 4, 200, 0, 0)
def m_X12_passes : MD := (yX12_passes, cX12_passes, 2, (some .boolean), 5, 223, 0, 0)
def m_X12_sign : MD := (yX12_sign, cX12_sign, 2, (some .boolean), 2, 42, 0, 0)
def m_X12_number : MD := (yX12_number, cX12_number, 4, (some .int), 2, 42, 0, 0)
def m_X12_after : MD := (yX12_after, cX12_after, 4, (some .int), 5, 223, 0, 0)
def m_X12_fault : MD := (yX12_fault, cX12_fault, 1, (some .int), 0, 0, 0, 0)
def m_X12_uses : MD := (yX12_uses, cX12_uses, 1, none, 0, 0, 0, 0)
def m_X12_personTold : MD := (yX12_personTold, cX12_personTold, 1, (some .int), 3, 65, 0, 0)
def m_X12_otherTold : MD := (yX12_otherTold, cX12_otherTold, 3, (some .int), 4, 85, 0, 0)
theorem fk_X12_3 : fk RX12 3 12 0 := ⟨_, _, _, rfl, in_12, by decide, rfl, by decide, gx 1495 (by decide +kernel) (by decide +kernel)⟩
theorem fp_X12_3 : fp RX12 3 12 0 .int := ⟨_, _, _, tyX12, rfl, in_12, by decide, rfl, by decide, gx 1495 (by decide +kernel) (by decide +kernel), rfl, by decide +kernel, tyX12_ok, nmX12⟩
theorem fp_X12_51 : fp RX12 51 12 6 .boolean := ⟨_, _, _, tyX12, rfl, in_12, by decide, rfl, by decide, gx 1501 (by decide +kernel) (by decide +kernel), rfl, by decide +kernel, tyX12_ok, nmX12⟩
theorem fk_X12_17 : fk RX12 17 12 2 := ⟨_, _, _, rfl, in_12, by decide, rfl, by decide, gx 1497 (by decide +kernel) (by decide +kernel)⟩
theorem fk_X12_13 : fk RX12 13 12 1 := ⟨_, _, _, rfl, in_12, by decide, rfl, by decide, gx 1496 (by decide +kernel) (by decide +kernel)⟩
theorem fp_X12_55 : fp RX12 55 12 7 .int := ⟨_, _, _, tyX12, rfl, in_12, by decide, rfl, by decide, gx 1502 (by decide +kernel) (by decide +kernel), rfl, by decide +kernel, tyX12_ok, nmX12⟩
theorem fk_X12_51 : fk RX12 51 12 6 := ⟨_, _, _, rfl, in_12, by decide, rfl, by decide, gx 1501 (by decide +kernel) (by decide +kernel)⟩
theorem fk_X12_26 : fk RX12 26 12 5 := ⟨_, _, _, rfl, in_12, by decide, rfl, by decide, gx 1500 (by decide +kernel) (by decide +kernel)⟩
theorem fk_X12_55 : fk RX12 55 12 7 := ⟨_, _, _, rfl, in_12, by decide, rfl, by decide, gx 1502 (by decide +kernel) (by decide +kernel)⟩
theorem wm_X12_people : wmp m_X12_people 0 := ⟨gx 1640 (by decide +kernel) (by decide +kernel), gx 52 (by decide +kernel) (by decide +kernel), gx 138 (by decide +kernel) (by decide +kernel), gx 1641 (by decide +kernel) (by decide +kernel), by decide +kernel, by decide +kernel, by decide +kernel⟩
theorem cw_X12_58 : cwp RX12 58 m_X12_people 0 := cwp_of wm_X12_people (gx 1638 (by decide +kernel) (by decide +kernel))
theorem wm_X12_at : wms m_X12_at 2 := ⟨gx 1648 (by decide +kernel) (by decide +kernel), gx 138 (by decide +kernel) (by decide +kernel), gx 1649 (by decide +kernel) (by decide +kernel), by decide +kernel, by decide +kernel, by decide +kernel⟩
theorem cs_X12_62 : csp RX12 62 m_X12_at 2 := csp_of wm_X12_at (gx 1647 (by decide +kernel) (by decide +kernel))
theorem wm_X12_both : wms m_X12_both 2 := ⟨gx 1660 (by decide +kernel) (by decide +kernel), gx 138 (by decide +kernel) (by decide +kernel), gx 1661 (by decide +kernel) (by decide +kernel), by decide +kernel, by decide +kernel, by decide +kernel⟩
theorem cs_X12_66 : csp RX12 66 m_X12_both 2 := csp_of wm_X12_both (gx 1659 (by decide +kernel) (by decide +kernel))
theorem wm_X12_holds : wmp m_X12_holds 2 := ⟨gx 1819 (by decide +kernel) (by decide +kernel), gx 85 (by decide +kernel) (by decide +kernel), gx 138 (by decide +kernel) (by decide +kernel), gx 1820 (by decide +kernel) (by decide +kernel), by decide +kernel, by decide +kernel, by decide +kernel⟩
theorem cw_X12_69 : cwp RX12 69 m_X12_holds 2 := cwp_of wm_X12_holds (gx 1817 (by decide +kernel) (by decide +kernel))
theorem wm_X12_of : wmp m_X12_of 2 := ⟨gx 1669 (by decide +kernel) (by decide +kernel), gx 57 (by decide +kernel) (by decide +kernel), gx 138 (by decide +kernel) (by decide +kernel), gx 1670 (by decide +kernel) (by decide +kernel), by decide +kernel, by decide +kernel, by decide +kernel⟩
theorem cw_X12_73 : cwp RX12 73 m_X12_of 2 := cwp_of wm_X12_of (gx 1667 (by decide +kernel) (by decide +kernel))
theorem wm_X12_has : wms m_X12_has 2 := ⟨gx 1691 (by decide +kernel) (by decide +kernel), gx 138 (by decide +kernel) (by decide +kernel), gx 1692 (by decide +kernel) (by decide +kernel), by decide +kernel, by decide +kernel, by decide +kernel⟩
theorem cs_X12_76 : csp RX12 76 m_X12_has 2 := csp_of wm_X12_has (gx 1690 (by decide +kernel) (by decide +kernel))
theorem wm_X12_in : wms m_X12_in 3 := ⟨gx 1688 (by decide +kernel) (by decide +kernel), gx 138 (by decide +kernel) (by decide +kernel), gx 1689 (by decide +kernel) (by decide +kernel), by decide +kernel, by decide +kernel, by decide +kernel⟩
theorem cs_X12_79 : csp RX12 79 m_X12_in 3 := csp_of wm_X12_in (gx 1687 (by decide +kernel) (by decide +kernel))
theorem ld_X12_83 : Cond.constant RX12 83 (1103515245 : Int32) ∈ gtb := gx 2038 (by decide +kernel) (by decide +kernel)
theorem fk_X12_84 : fk RX12 84 12 9 := ⟨_, _, _, rfl, in_12, by decide, rfl, by decide, gx 1504 (by decide +kernel) (by decide +kernel)⟩
theorem fp_X12_84 : fp RX12 84 12 9 .int := ⟨_, _, _, tyX12, rfl, in_12, by decide, rfl, by decide, gx 1504 (by decide +kernel) (by decide +kernel), rfl, by decide +kernel, tyX12_ok, nmX12⟩
theorem fk_X12_29 : fk RX12 29 12 8 := ⟨_, _, _, rfl, in_12, by decide, rfl, by decide, gx 1503 (by decide +kernel) (by decide +kernel)⟩
theorem fk_X12_36 : fk RX12 36 12 15 := ⟨_, _, _, rfl, in_12, by decide, rfl, by decide, gx 1510 (by decide +kernel) (by decide +kernel)⟩
theorem fk_X12_87 : fk RX12 87 12 10 := ⟨_, _, _, rfl, in_12, by decide, rfl, by decide, gx 1505 (by decide +kernel) (by decide +kernel)⟩
theorem fk_X12_90 : fk RX12 90 12 11 := ⟨_, _, _, rfl, in_12, by decide, rfl, by decide, gx 1506 (by decide +kernel) (by decide +kernel)⟩
theorem wm_X12_isAt : wmp m_X12_isAt 2 := ⟨gx 1613 (by decide +kernel) (by decide +kernel), gx 46 (by decide +kernel) (by decide +kernel), gx 138 (by decide +kernel) (by decide +kernel), gx 1614 (by decide +kernel) (by decide +kernel), by decide +kernel, by decide +kernel, by decide +kernel⟩
theorem cw_X12_93 : cwp RX12 93 m_X12_isAt 2 := cwp_of wm_X12_isAt (gx 1611 (by decide +kernel) (by decide +kernel))
theorem fp_X12_96 : fp RX12 96 12 12 .int := ⟨_, _, _, tyX12, rfl, in_12, by decide, rfl, by decide, gx 1507 (by decide +kernel) (by decide +kernel), rfl, by decide +kernel, tyX12_ok, nmX12⟩
theorem fp_X12_87 : fp RX12 87 12 10 .int := ⟨_, _, _, tyX12, rfl, in_12, by decide, rfl, by decide, gx 1505 (by decide +kernel) (by decide +kernel), rfl, by decide +kernel, tyX12_ok, nmX12⟩
theorem wm_X12_blanks : wmp m_X12_blanks 0 := ⟨gx 1609 (by decide +kernel) (by decide +kernel), gx 45 (by decide +kernel) (by decide +kernel), gx 138 (by decide +kernel) (by decide +kernel), gx 1610 (by decide +kernel) (by decide +kernel), by decide +kernel, by decide +kernel, by decide +kernel⟩
theorem cw_X12_99 : cwp RX12 99 m_X12_blanks 0 := cwp_of wm_X12_blanks (gx 1607 (by decide +kernel) (by decide +kernel))
theorem cw_X12_102 : cwp RX12 102 m_J0_length_8abf5 0 := cwp_of wm_J0_length_8abf5 (gx 1632 (by decide +kernel) (by decide +kernel))
theorem fk_X12_96 : fk RX12 96 12 12 := ⟨_, _, _, rfl, in_12, by decide, rfl, by decide, gx 1507 (by decide +kernel) (by decide +kernel)⟩
theorem cw_X12_107 : cwp RX12 107 m_J0_charAt_5068e 1 := cwp_of wm_J0_charAt_5068e (gx 1633 (by decide +kernel) (by decide +kernel))
theorem wm_X12_letters : wmp m_X12_letters 0 := ⟨gx 1621 (by decide +kernel) (by decide +kernel), gx 48 (by decide +kernel) (by decide +kernel), gx 138 (by decide +kernel) (by decide +kernel), gx 1622 (by decide +kernel) (by decide +kernel), by decide +kernel, by decide +kernel, by decide +kernel⟩
theorem cw_X12_111 : cwp RX12 111 m_X12_letters 0 := cwp_of wm_X12_letters (gx 1619 (by decide +kernel) (by decide +kernel))
theorem wm_X12_isWord : wmp m_X12_isWord 1 := ⟨gx 1630 (by decide +kernel) (by decide +kernel), gx 50 (by decide +kernel) (by decide +kernel), gx 138 (by decide +kernel) (by decide +kernel), gx 1631 (by decide +kernel) (by decide +kernel), by decide +kernel, by decide +kernel, by decide +kernel⟩
theorem cw_X12_114 : cwp RX12 114 m_X12_isWord 1 := cwp_of wm_X12_isWord (gx 1628 (by decide +kernel) (by decide +kernel))
theorem wm_X12_number : wmp m_X12_number 2 := ⟨gx 1645 (by decide +kernel) (by decide +kernel), gx 53 (by decide +kernel) (by decide +kernel), gx 138 (by decide +kernel) (by decide +kernel), gx 1646 (by decide +kernel) (by decide +kernel), by decide +kernel, by decide +kernel, by decide +kernel⟩
theorem cw_X12_118 : cwp RX12 118 m_X12_number 2 := cwp_of wm_X12_number (gx 1643 (by decide +kernel) (by decide +kernel))
theorem fk_X12_33 : fk RX12 33 12 14 := ⟨_, _, _, rfl, in_12, by decide, rfl, by decide, gx 1509 (by decide +kernel) (by decide +kernel)⟩
theorem fp_X12_90 : fp RX12 90 12 11 .int := ⟨_, _, _, tyX12, rfl, in_12, by decide, rfl, by decide, gx 1506 (by decide +kernel) (by decide +kernel), rfl, by decide +kernel, tyX12_ok, nmX12⟩
theorem wm_X12_personTold : wmp m_X12_personTold 0 := ⟨gx 1657 (by decide +kernel) (by decide +kernel), gx 55 (by decide +kernel) (by decide +kernel), gx 138 (by decide +kernel) (by decide +kernel), gx 1658 (by decide +kernel) (by decide +kernel), by decide +kernel, by decide +kernel, by decide +kernel⟩
theorem cw_X12_121 : cwp RX12 121 m_X12_personTold 0 := cwp_of wm_X12_personTold (gx 1655 (by decide +kernel) (by decide +kernel))
def f_X12_thrown  (σ : MS) : Option (Int32) := some (σ 171 0)
set_option maxRecDepth 20000 in
set_option maxHeartbeats 2000000 in
theorem c_X12_thrown (w : TG)  (σ : MS) : MC m_X12_thrown w [.ref (wB w + 171)] σ ((f_X12_thrown  σ).map (fun r => (r, σ))) := by
  refine V_methp (by decide +kernel) (Nat.le_of_ble_eq_true rfl) (by intro v hv; simp only [List.mem_cons, List.not_mem_nil, or_false] at hv; subst hv; rfl) (fun g x => ?_)
  show VV m_X12_thrown w g 0 0 (QM m_X12_thrown w g x) (fun b : Int32 => (b, σ) = x) 0 [some (.ref (wB w + 171))] [] σ (f_X12_thrown  σ)
  refine V_aload_n (pc := 0) dX12_thrown_0 rfl rfl ?_
  refine V_geti (pc := 1) fk_X12_3 rfl dX12_thrown_1 kc_171 rf_12_0_171 ?_
  exact V_ireti (pc := 4) dX12_thrown_4 rfl (hk := fun h => h)
def J_X12_throwsIf_9 (v1 : Int32) (σ : MS) : Option (Int32 × MS) := (if v1 = 0 ∨ v1 = 1 then some (v1, σ) else none)
def f_X12_throwsIf (p1 : Int32) (p2 : Int32) (σ : MS) : Option (Int32 × MS) := (if p1 = 0 then J_X12_throwsIf_9 p1 σ else (ltM (mu σ 171 0 p2) (fun s6 => J_X12_throwsIf_9 p1 s6)))
set_option maxRecDepth 20000 in
set_option maxHeartbeats 2000000 in
theorem c_X12_throwsIf (w : TG) (p1 : Int32) (p2 : Int32) (σ : MS) : MC m_X12_throwsIf w [.ref (wB w + 171), .int p1, .int p2] σ (f_X12_throwsIf p1 p2 σ) := by
  refine V_meth (by decide +kernel) (Nat.le_of_ble_eq_true rfl) (by intro v hv; simp only [List.mem_cons, List.not_mem_nil, or_false] at hv; rcases hv with rfl | rfl | rfl <;> rfl) (fun g x => ?_)
  show VV m_X12_throwsIf w g 0 0 (QM m_X12_throwsIf w g x) (fun b : Int32 × MS => b = x) 0 [some (.ref (wB w + 171)), some (.int p1), some (.int p2)] [] σ (f_X12_throwsIf p1 p2 σ)
  have hJ9 : ∀ (σ : MS), VV m_X12_throwsIf w g 0 0 (QM m_X12_throwsIf w g x) (fun b : Int32 × MS => b = x) 9 [none, some (.int p1), none] [] σ (J_X12_throwsIf_9 p1 σ) := by
    intro σ
    refine V_iload_n (pc := 9) dX12_throwsIf_9 rfl rfl ?_
    exact V_iretZ (pc := 10) dX12_throwsIf_10 rfl (hk := fun h => h)
  refine V_iload_n (pc := 0) dX12_throwsIf_0 rfl rfl ?_
  refine V_if_eq (pc := 1) (tgt := 9) dX12_throwsIf_1 (by decide +kernel) ?_ ?_
  · refine V_sub (vs' := [none, some (.int p1), none]) (show vless _ _ from ⟨rfl, trivial⟩) rfl ?_
    exact hJ9 σ
  · refine V_aload_n (pc := 4) dX12_throwsIf_4 rfl rfl ?_
    refine V_iload_n (pc := 5) dX12_throwsIf_5 rfl rfl ?_
    refine V_puti (pc := 6) fp_X12_3 rfl dX12_throwsIf_6 kc_171 rf_12_0_171 (fun s6 => ?_)
    refine V_sub (vs' := [none, some (.int p1), none]) (show vless _ _ from ⟨rfl, trivial⟩) rfl ?_
    exact hJ9 s6
def J_X12_in_15 (t0 : Int32) (σ : MS) : Option (Int32) := (if t0 = 0 ∨ t0 = 1 then some t0 else none)
def J_X12_in_14  (σ : MS) : Option (Int32) := J_X12_in_15 (0 : Int32) σ
def f_X12_in (p0 : Int32) (p1 : Int32) (p2 : Int32) (σ : MS) : Option (Int32) := (if p0 < p1 then J_X12_in_14  σ else (if p2 < p0 then J_X12_in_14  σ else J_X12_in_15 (1 : Int32) σ))
set_option maxRecDepth 20000 in
set_option maxHeartbeats 2000000 in
theorem c_X12_in (w : TG) (p0 : Int32) (p1 : Int32) (p2 : Int32) (σ : MS) : MC m_X12_in w [.int p0, .int p1, .int p2] σ ((f_X12_in p0 p1 p2 σ).map (fun r => (r, σ))) := by
  refine V_methp (by decide +kernel) (Nat.le_of_ble_eq_true rfl) (by intro v hv; simp only [List.mem_cons, List.not_mem_nil, or_false] at hv; rcases hv with rfl | rfl | rfl <;> rfl) (fun g x => ?_)
  show VV m_X12_in w g 0 0 (QM m_X12_in w g x) (fun b : Int32 => (b, σ) = x) 0 [some (.int p0), some (.int p1), some (.int p2)] [] σ (f_X12_in p0 p1 p2 σ)
  have hJ15 : ∀ (t0 : Int32), VV m_X12_in w g 0 0 (QM m_X12_in w g x) (fun b : Int32 => (b, σ) = x) 15 [none, none, none] [.int t0] σ (J_X12_in_15 t0 σ) := by
    intro t0
    exact V_iretZ (pc := 15) dX12_in_15 rfl (hk := fun h => h)
  have hJ14 : ∀ (_ : Unit), VV m_X12_in w g 0 0 (QM m_X12_in w g x) (fun b : Int32 => (b, σ) = x) 14 [none, none, none] [] σ (J_X12_in_14  σ) := by
    intro _
    refine V_iconst (pc := 14) dX12_in_14 ic_0 ?_
    exact hJ15 (0 : Int32)
  refine V_iload_n (pc := 0) dX12_in_0 rfl rfl ?_
  refine V_iload_n (pc := 1) dX12_in_1 rfl rfl ?_
  refine V_icmp_lt (pc := 2) (tgt := 14) dX12_in_2 (by decide +kernel) ?_ ?_
  · refine V_sub (vs' := [none, none, none]) (show vless _ _ from trivial) rfl ?_
    exact hJ14 ()
  · refine V_iload_n (pc := 5) dX12_in_5 rfl rfl ?_
    refine V_iload_n (pc := 6) dX12_in_6 rfl rfl ?_
    refine V_icmp_gt (pc := 7) (tgt := 14) dX12_in_7 (by decide +kernel) ?_ ?_
    · refine V_sub (vs' := [none, none, none]) (show vless _ _ from trivial) rfl ?_
      exact hJ14 ()
    · refine V_iconst (pc := 10) dX12_in_10 ic_1 ?_
      refine V_goto (pc := 11) (tgt := 15) dX12_in_11 (by decide +kernel) ?_
      refine V_sub (vs' := [none, none, none]) (show vless _ _ from trivial) rfl ?_
      exact hJ15 (1 : Int32)
def J_X12_has_14 (t0 : Int32) (σ : MS) : Option (Int32) := (if t0 = 0 ∨ t0 = 1 then some t0 else none)
def f_X12_has (p0 : Int32) (p1 : Int32) (σ : MS) : Option (Int32) := (if ((shrI p0 p1) &&& (1 : Int32)) = (1 : Int32) then J_X12_has_14 (1 : Int32) σ else J_X12_has_14 (0 : Int32) σ)
set_option maxRecDepth 20000 in
set_option maxHeartbeats 2000000 in
theorem c_X12_has (w : TG) (p0 : Int32) (p1 : Int32) (σ : MS) : MC m_X12_has w [.int p0, .int p1] σ ((f_X12_has p0 p1 σ).map (fun r => (r, σ))) := by
  refine V_methp (by decide +kernel) (Nat.le_of_ble_eq_true rfl) (by intro v hv; simp only [List.mem_cons, List.not_mem_nil, or_false] at hv; rcases hv with rfl | rfl <;> rfl) (fun g x => ?_)
  show VV m_X12_has w g 0 0 (QM m_X12_has w g x) (fun b : Int32 => (b, σ) = x) 0 [some (.int p0), some (.int p1)] [] σ (f_X12_has p0 p1 σ)
  have hJ14 : ∀ (t0 : Int32), VV m_X12_has w g 0 0 (QM m_X12_has w g x) (fun b : Int32 => (b, σ) = x) 14 [none, none] [.int t0] σ (J_X12_has_14 t0 σ) := by
    intro t0
    exact V_iretZ (pc := 14) dX12_has_14 rfl (hk := fun h => h)
  refine V_iload_n (pc := 0) dX12_has_0 rfl rfl ?_
  refine V_iload_n (pc := 1) dX12_has_1 rfl rfl ?_
  refine V_ishr (pc := 2) dX12_has_2 ?_
  refine V_iconst (pc := 3) dX12_has_3 ic_1 ?_
  refine V_iand (pc := 4) dX12_has_4 ?_
  refine V_iconst (pc := 5) dX12_has_5 ic_1 ?_
  refine V_icmp_ne (pc := 6) (tgt := 13) dX12_has_6 (by decide +kernel) ?_ ?_
  · refine V_iconst (pc := 13) dX12_has_13 ic_0 ?_
    refine V_sub (vs' := [none, none]) (show vless _ _ from trivial) rfl ?_
    exact hJ14 (0 : Int32)
  · refine V_iconst (pc := 9) dX12_has_9 ic_1 ?_
    refine V_goto (pc := 10) (tgt := 14) dX12_has_10 (by decide +kernel) ?_
    refine V_sub (vs' := [none, none]) (show vless _ _ from trivial) rfl ?_
    exact hJ14 (1 : Int32)
def L_X12_image_7 (n : Nat)  (σ : MS) (a7 : Int32 × MS) : Option ((Int32 × MS) ⊕ (Int32 × MS)) := (if (1323 : Int32) ≤ a7.1 then ((ltM (mu a7.2 171 6 (1 : Int32)) (fun s34 => some (0, s34)))).map Sum.inr else (if inb a7.1 2172 then (if inb a7.1 1323 then ltM (mu a7.2 173 (ix a7.1) (a7.2 172 (ix a7.1))) (fun s25 => some (.inl ((a7.1 + (1 : Int32)), s25))) else none) else none))
def f_X12_image (n : Nat)  (σ : MS) : Option (Int32 × MS) := (ltM (mu σ 171 0 (0 : Int32)) (fun s2 => itr (L_X12_image_7 n  σ) n ((0 : Int32), s2)))
set_option maxRecDepth 20000 in
set_option maxHeartbeats 2000000 in
theorem c_X12_image (w : TG) (n : Nat)  (σ : MS) : MC m_X12_image w [.ref (wB w + 171)] σ (f_X12_image n  σ) := by
  refine V_meth (by decide +kernel) (Nat.le_of_ble_eq_true rfl) (by intro v hv; simp only [List.mem_cons, List.not_mem_nil, or_false] at hv; subst hv; rfl) (fun g x => ?_)
  show VV m_X12_image w g 0 0 (QM m_X12_image w g x) (fun b : Int32 × MS => b = x) 0 [some (.ref (wB w + 171)), none] [] σ (f_X12_image n  σ)
  have hL7 : ∀  (n0 : Nat) (a : Int32 × MS), VV m_X12_image w g 0 0 (QM m_X12_image w g x) (fun b : Int32 × MS => b = x) 7 [some (.ref (wB w + 171)), some (.int a.1)] [] a.2 (itr (L_X12_image_7 n  σ) n0 a) := by
    refine V_itr (vf := fun a : Int32 × MS => [some (.ref (wB w + 171)), some (.int a.1)]) (sf := fun a : Int32 × MS => a.2) (fun κ7 b7 r7 a7 => ?_)
    obtain ⟨a7_1, a7_2⟩ := a7
    show VV m_X12_image w g 0 0 (QM m_X12_image w g x) κ7 7 [some (.ref (wB w + 171)), some (.int a7_1)] [] a7_2 (L_X12_image_7 n  σ (a7_1, a7_2))
    refine V_iload_n (pc := 7) dX12_image_7 rfl rfl ?_
    refine V_sipush (pc := 8) dX12_image_8 sp_1323 ?_
    refine V_icmp_ge (pc := 11) (tgt := 32) dX12_image_11 (by decide +kernel) ?_ ?_
    · refine V_exit r7 ?_
      refine V_aload_n (pc := 32) dX12_image_32 rfl rfl ?_
      refine V_iconst (pc := 33) dX12_image_33 ic_1 ?_
      refine V_put (pc := 34) fp_X12_51 rfl dX12_image_34 kc_171 rfl rfl rfl (fun s34 => ?_)
      exact V_ret (pc := 37) dX12_image_37 rfl (hk := fun h => h)
    · refine V_aload_n (pc := 14) dX12_image_14 rfl rfl ?_
      refine V_getr (pc := 15) (t := 173) fk_X12_17 rfl dX12_image_15 kc_171 rf_12_2_171 ?_
      refine V_iload_n (pc := 18) dX12_image_18 rfl rfl ?_
      refine V_aload_n (pc := 19) dX12_image_19 rfl rfl ?_
      refine V_getr (pc := 20) (t := 172) fk_X12_13 rfl dX12_image_20 kc_171 rf_12_1_171 ?_
      refine V_iload_n (pc := 23) dX12_image_23 rfl rfl ?_
      refine V_iald (pc := 24) (n := 2172) dX12_image_24 kc_172 lc_172 ?_
      refine V_iast (pc := 25) (n := 1323) dX12_image_25 kc_173 lc_173 (fun s25 => ?_)
      refine V_iincC (pc := 26) (vs' := [some (.ref (wB w + 171)), some (.int (a7_1 + (1 : Int32)))]) dX12_image_26 (Nat.le_of_ble_eq_true rfl) rfl ic_1 rfl ?_
      refine V_goto (pc := 29) (tgt := 7) dX12_image_29 (by decide +kernel) ?_
      exact V_back (b7 ((a7_1 + (1 : Int32)), s25))
  refine V_aload_n (pc := 0) dX12_image_0 rfl rfl ?_
  refine V_iconst (pc := 1) dX12_image_1 ic_0 ?_
  refine V_puti (pc := 2) fp_X12_3 rfl dX12_image_2 kc_171 rf_12_0_171 (fun s2 => ?_)
  refine V_iconst (pc := 5) dX12_image_5 ic_0 ?_
  refine V_istore_n (pc := 6) (vs' := [some (.ref (wB w + 171)), some (.int (0 : Int32))]) dX12_image_6 rfl (Nat.le_of_ble_eq_true rfl) (Nat.le_of_ble_eq_true rfl) rfl ?_
  exact hL7 n ((0 : Int32), s2)
def L_X12_back_16 (n : Nat)  (σ : MS) (a16 : Int32 × MS) : Option ((Int32 × MS) ⊕ (Int32 × MS)) := (if (1323 : Int32) ≤ a16.1 then ((ltM (mu a16.2 171 7 (0 : Int32)) (fun s43 => some ((1 : Int32), s43)))).map Sum.inr else (if inb a16.1 1323 then (if inb a16.1 2172 then ltM (mu a16.2 172 (ix a16.1) (a16.2 173 (ix a16.1))) (fun s34 => some (.inl ((a16.1 + (1 : Int32)), s34))) else none) else none))
def f_X12_back (n : Nat)  (σ : MS) : Option (Int32 × MS) := (ltM (mu σ 171 0 (0 : Int32)) (fun s2 => (if (s2 171 6) = 0 then some ((0 : Int32), s2) else itr (L_X12_back_16 n  σ) n ((0 : Int32), s2))))
set_option maxRecDepth 20000 in
set_option maxHeartbeats 2000000 in
theorem c_X12_back (w : TG) (n : Nat)  (σ : MS) : MC m_X12_back w [.ref (wB w + 171)] σ (f_X12_back n  σ) := by
  refine V_meth (by decide +kernel) (Nat.le_of_ble_eq_true rfl) (by intro v hv; simp only [List.mem_cons, List.not_mem_nil, or_false] at hv; subst hv; rfl) (fun g x => ?_)
  show VV m_X12_back w g 0 0 (QM m_X12_back w g x) (fun b : Int32 × MS => b = x) 0 [some (.ref (wB w + 171)), none] [] σ (f_X12_back n  σ)
  have hL16 : ∀  (n0 : Nat) (a : Int32 × MS), VV m_X12_back w g 0 0 (QM m_X12_back w g x) (fun b : Int32 × MS => b = x) 16 [some (.ref (wB w + 171)), some (.int a.1)] [] a.2 (itr (L_X12_back_16 n  σ) n0 a) := by
    refine V_itr (vf := fun a : Int32 × MS => [some (.ref (wB w + 171)), some (.int a.1)]) (sf := fun a : Int32 × MS => a.2) (fun κ16 b16 r16 a16 => ?_)
    obtain ⟨a16_1, a16_2⟩ := a16
    show VV m_X12_back w g 0 0 (QM m_X12_back w g x) κ16 16 [some (.ref (wB w + 171)), some (.int a16_1)] [] a16_2 (L_X12_back_16 n  σ (a16_1, a16_2))
    refine V_iload_n (pc := 16) dX12_back_16 rfl rfl ?_
    refine V_sipush (pc := 17) dX12_back_17 sp_1323 ?_
    refine V_icmp_ge (pc := 20) (tgt := 41) dX12_back_20 (by decide +kernel) ?_ ?_
    · refine V_exit r16 ?_
      refine V_aload_n (pc := 41) dX12_back_41 rfl rfl ?_
      refine V_iconst (pc := 42) dX12_back_42 ic_0 ?_
      refine V_puti (pc := 43) fp_X12_55 rfl dX12_back_43 kc_171 rf_12_7_171 (fun s43 => ?_)
      refine V_iconst (pc := 46) dX12_back_46 ic_1 ?_
      exact V_iretz (pc := 47) dX12_back_47 rfl rfl (hk := fun h => h)
    · refine V_aload_n (pc := 23) dX12_back_23 rfl rfl ?_
      refine V_getr (pc := 24) (t := 172) fk_X12_13 rfl dX12_back_24 kc_171 rf_12_1_171 ?_
      refine V_iload_n (pc := 27) dX12_back_27 rfl rfl ?_
      refine V_aload_n (pc := 28) dX12_back_28 rfl rfl ?_
      refine V_getr (pc := 29) (t := 173) fk_X12_17 rfl dX12_back_29 kc_171 rf_12_2_171 ?_
      refine V_iload_n (pc := 32) dX12_back_32 rfl rfl ?_
      refine V_iald (pc := 33) (n := 1323) dX12_back_33 kc_173 lc_173 ?_
      refine V_iast (pc := 34) (n := 2172) dX12_back_34 kc_172 lc_172 (fun s34 => ?_)
      refine V_iincC (pc := 35) (vs' := [some (.ref (wB w + 171)), some (.int (a16_1 + (1 : Int32)))]) dX12_back_35 (Nat.le_of_ble_eq_true rfl) rfl ic_1 rfl ?_
      refine V_goto (pc := 38) (tgt := 16) dX12_back_38 (by decide +kernel) ?_
      exact V_back (b16 ((a16_1 + (1 : Int32)), s34))
  refine V_aload_n (pc := 0) dX12_back_0 rfl rfl ?_
  refine V_iconst (pc := 1) dX12_back_1 ic_0 ?_
  refine V_puti (pc := 2) fp_X12_3 rfl dX12_back_2 kc_171 rf_12_0_171 (fun s2 => ?_)
  refine V_aload_n (pc := 5) dX12_back_5 rfl rfl ?_
  refine V_geti (pc := 6) fk_X12_51 rfl dX12_back_6 kc_171 rf_12_6_171 ?_
  refine V_if_ne (pc := 9) (tgt := 14) dX12_back_9 (by decide +kernel) ?_ ?_
  · refine V_iconst (pc := 14) dX12_back_14 ic_0 ?_
    refine V_istore_n (pc := 15) (vs' := [some (.ref (wB w + 171)), some (.int (0 : Int32))]) dX12_back_15 rfl (Nat.le_of_ble_eq_true rfl) (Nat.le_of_ble_eq_true rfl) rfl ?_
    exact hL16 n ((0 : Int32), s2)
  · refine V_iconst (pc := 12) dX12_back_12 ic_0 ?_
    exact V_iretz (pc := 13) dX12_back_13 rfl rfl (hk := fun h => h)
def L_X12_remembers_55 (n : Nat)  (σ : MS) (a55 : Int32 × MS) : Option ((Int32 × MS) ⊕ (Int32 × MS)) := (if (474 : Int32) ≤ a55.1 then (some (0, a55.2)).map Sum.inr else (if inb a55.1 2172 then (if inb (((474 : Int32) * ((a55.2 171 7) - (1 : Int32))) + a55.1) 5688 then ltM (mu a55.2 176 (ix (((474 : Int32) * ((a55.2 171 7) - (1 : Int32))) + a55.1)) (a55.2 172 (ix a55.1))) (fun s84 => some (.inl ((a55.1 + (1 : Int32)), s84))) else none) else none))
def J_X12_remembers_53 (n : Nat)  (σ : MS) : Option (Int32 × MS) := itr (L_X12_remembers_55 n  σ) n ((0 : Int32), σ)
def L_X12_remembers_11 (n : Nat)  (σ : MS) (a11 : Int32 × MS) : Option ((Int32 × MS) ⊕ (Int32 × MS)) := (if (5214 : Int32) ≤ a11.1 then (J_X12_remembers_53 n  a11.2).map Sum.inr else (if inb (a11.1 + (474 : Int32)) 5688 then (if inb a11.1 5688 then ltM (mu a11.2 176 (ix a11.1) (a11.2 176 (ix (a11.1 + (474 : Int32))))) (fun s33 => some (.inl ((a11.1 + (1 : Int32)), s33))) else none) else none))
def f_X12_remembers (n : Nat)  (σ : MS) : Option (Int32 × MS) := (if (σ 171 7) = (12 : Int32) then itr (L_X12_remembers_11 n  σ) n ((0 : Int32), σ) else (ltM (mu σ 171 7 ((σ 171 7) + (1 : Int32))) (fun s50 => J_X12_remembers_53 n  s50)))
set_option maxRecDepth 20000 in
set_option maxHeartbeats 2000000 in
theorem c_X12_remembers (w : TG) (n : Nat)  (σ : MS) : MC m_X12_remembers w [.ref (wB w + 171)] σ (f_X12_remembers n  σ) := by
  refine V_meth (by decide +kernel) (Nat.le_of_ble_eq_true rfl) (by intro v hv; simp only [List.mem_cons, List.not_mem_nil, or_false] at hv; subst hv; rfl) (fun g x => ?_)
  show VV m_X12_remembers w g 0 0 (QM m_X12_remembers w g x) (fun b : Int32 × MS => b = x) 0 [some (.ref (wB w + 171)), none] [] σ (f_X12_remembers n  σ)
  have hL55 : ∀  (n0 : Nat) (a : Int32 × MS), VV m_X12_remembers w g 0 0 (QM m_X12_remembers w g x) (fun b : Int32 × MS => b = x) 55 [some (.ref (wB w + 171)), some (.int a.1)] [] a.2 (itr (L_X12_remembers_55 n  σ) n0 a) := by
    refine V_itr (vf := fun a : Int32 × MS => [some (.ref (wB w + 171)), some (.int a.1)]) (sf := fun a : Int32 × MS => a.2) (fun κ55 b55 r55 a55 => ?_)
    obtain ⟨a55_1, a55_2⟩ := a55
    show VV m_X12_remembers w g 0 0 (QM m_X12_remembers w g x) κ55 55 [some (.ref (wB w + 171)), some (.int a55_1)] [] a55_2 (L_X12_remembers_55 n  σ (a55_1, a55_2))
    refine V_iload_n (pc := 55) dX12_remembers_55 rfl rfl ?_
    refine V_sipush (pc := 56) dX12_remembers_56 sp_474 ?_
    refine V_icmp_ge (pc := 59) (tgt := 91) dX12_remembers_59 (by decide +kernel) ?_ ?_
    · refine V_exit r55 ?_
      exact V_ret (pc := 91) dX12_remembers_91 rfl (hk := fun h => h)
    · refine V_aload_n (pc := 62) dX12_remembers_62 rfl rfl ?_
      refine V_getr (pc := 63) (t := 176) fk_X12_26 rfl dX12_remembers_63 kc_171 rf_12_5_171 ?_
      refine V_sipush (pc := 66) dX12_remembers_66 sp_474 ?_
      refine V_aload_n (pc := 69) dX12_remembers_69 rfl rfl ?_
      refine V_geti (pc := 70) fk_X12_55 rfl dX12_remembers_70 kc_171 rf_12_7_171 ?_
      refine V_iconst (pc := 73) dX12_remembers_73 ic_1 ?_
      refine V_isub (pc := 74) dX12_remembers_74 ?_
      refine V_imul (pc := 75) dX12_remembers_75 ?_
      refine V_iload_n (pc := 76) dX12_remembers_76 rfl rfl ?_
      refine V_iadd (pc := 77) dX12_remembers_77 ?_
      refine V_aload_n (pc := 78) dX12_remembers_78 rfl rfl ?_
      refine V_getr (pc := 79) (t := 172) fk_X12_13 rfl dX12_remembers_79 kc_171 rf_12_1_171 ?_
      refine V_iload_n (pc := 82) dX12_remembers_82 rfl rfl ?_
      refine V_iald (pc := 83) (n := 2172) dX12_remembers_83 kc_172 lc_172 ?_
      refine V_iast (pc := 84) (n := 5688) dX12_remembers_84 kc_176 lc_176 (fun s84 => ?_)
      refine V_iincC (pc := 85) (vs' := [some (.ref (wB w + 171)), some (.int (a55_1 + (1 : Int32)))]) dX12_remembers_85 (Nat.le_of_ble_eq_true rfl) rfl ic_1 rfl ?_
      refine V_goto (pc := 88) (tgt := 55) dX12_remembers_88 (by decide +kernel) ?_
      exact V_back (b55 ((a55_1 + (1 : Int32)), s84))
  have hJ53 : ∀ (σ : MS), VV m_X12_remembers w g 0 0 (QM m_X12_remembers w g x) (fun b : Int32 × MS => b = x) 53 [some (.ref (wB w + 171)), none] [] σ (J_X12_remembers_53 n  σ) := by
    intro σ
    refine V_iconst (pc := 53) dX12_remembers_53 ic_0 ?_
    refine V_istore_n (pc := 54) (vs' := [some (.ref (wB w + 171)), some (.int (0 : Int32))]) dX12_remembers_54 rfl (Nat.le_of_ble_eq_true rfl) (Nat.le_of_ble_eq_true rfl) rfl ?_
    exact hL55 n ((0 : Int32), σ)
  have hL11 : ∀  (n0 : Nat) (a : Int32 × MS), VV m_X12_remembers w g 0 0 (QM m_X12_remembers w g x) (fun b : Int32 × MS => b = x) 11 [some (.ref (wB w + 171)), some (.int a.1)] [] a.2 (itr (L_X12_remembers_11 n  σ) n0 a) := by
    refine V_itr (vf := fun a : Int32 × MS => [some (.ref (wB w + 171)), some (.int a.1)]) (sf := fun a : Int32 × MS => a.2) (fun κ11 b11 r11 a11 => ?_)
    obtain ⟨a11_1, a11_2⟩ := a11
    show VV m_X12_remembers w g 0 0 (QM m_X12_remembers w g x) κ11 11 [some (.ref (wB w + 171)), some (.int a11_1)] [] a11_2 (L_X12_remembers_11 n  σ (a11_1, a11_2))
    refine V_iload_n (pc := 11) dX12_remembers_11 rfl rfl ?_
    refine V_sipush (pc := 12) dX12_remembers_12 sp_5214 ?_
    refine V_icmp_ge (pc := 15) (tgt := 40) dX12_remembers_15 (by decide +kernel) ?_ ?_
    · refine V_exit r11 ?_
      refine V_goto (pc := 40) (tgt := 53) dX12_remembers_40 (by decide +kernel) ?_
      refine V_sub (vs' := [some (.ref (wB w + 171)), none]) (show vless _ _ from ⟨rfl, trivial⟩) rfl ?_
      exact hJ53 a11_2
    · refine V_aload_n (pc := 18) dX12_remembers_18 rfl rfl ?_
      refine V_getr (pc := 19) (t := 176) fk_X12_26 rfl dX12_remembers_19 kc_171 rf_12_5_171 ?_
      refine V_iload_n (pc := 22) dX12_remembers_22 rfl rfl ?_
      refine V_aload_n (pc := 23) dX12_remembers_23 rfl rfl ?_
      refine V_getr (pc := 24) (t := 176) fk_X12_26 rfl dX12_remembers_24 kc_171 rf_12_5_171 ?_
      refine V_iload_n (pc := 27) dX12_remembers_27 rfl rfl ?_
      refine V_sipush (pc := 28) dX12_remembers_28 sp_474 ?_
      refine V_iadd (pc := 31) dX12_remembers_31 ?_
      refine V_iald (pc := 32) (n := 5688) dX12_remembers_32 kc_176 lc_176 ?_
      refine V_iast (pc := 33) (n := 5688) dX12_remembers_33 kc_176 lc_176 (fun s33 => ?_)
      refine V_iincC (pc := 34) (vs' := [some (.ref (wB w + 171)), some (.int (a11_1 + (1 : Int32)))]) dX12_remembers_34 (Nat.le_of_ble_eq_true rfl) rfl ic_1 rfl ?_
      refine V_goto (pc := 37) (tgt := 11) dX12_remembers_37 (by decide +kernel) ?_
      exact V_back (b11 ((a11_1 + (1 : Int32)), s33))
  refine V_aload_n (pc := 0) dX12_remembers_0 rfl rfl ?_
  refine V_geti (pc := 1) fk_X12_55 rfl dX12_remembers_1 kc_171 rf_12_7_171 ?_
  refine V_bipush (pc := 4) dX12_remembers_4 bp_12 ?_
  refine V_icmp_ne (pc := 6) (tgt := 43) dX12_remembers_6 (by decide +kernel) ?_ ?_
  · refine V_aload_n (pc := 43) dX12_remembers_43 rfl rfl ?_
    refine V_dup (pc := 44) dX12_remembers_44 rfl ?_
    refine V_geti (pc := 45) fk_X12_55 rfl dX12_remembers_45 kc_171 rf_12_7_171 ?_
    refine V_iconst (pc := 48) dX12_remembers_48 ic_1 ?_
    refine V_iadd (pc := 49) dX12_remembers_49 ?_
    refine V_puti (pc := 50) fp_X12_55 rfl dX12_remembers_50 kc_171 rf_12_7_171 (fun s50 => ?_)
    exact hJ53 s50
  · refine V_iconst (pc := 9) dX12_remembers_9 ic_0 ?_
    refine V_istore_n (pc := 10) (vs' := [some (.ref (wB w + 171)), some (.int (0 : Int32))]) dX12_remembers_10 rfl (Nat.le_of_ble_eq_true rfl) (Nat.le_of_ble_eq_true rfl) rfl ?_
    exact hL11 n ((0 : Int32), σ)
def L_X12_undo_26 (n : Nat)  (σ : MS) (a26 : Int32 × MS) : Option ((Int32 × MS) ⊕ (Int32 × MS)) := (if (474 : Int32) ≤ a26.1 then (some ((1 : Int32), a26.2)).map Sum.inr else (if inb (((474 : Int32) * (a26.2 171 7)) + a26.1) 5688 then (if inb a26.1 2172 then ltM (mu a26.2 172 (ix a26.1) (a26.2 176 (ix (((474 : Int32) * (a26.2 171 7)) + a26.1)))) (fun s53 => some (.inl ((a26.1 + (1 : Int32)), s53))) else none) else none))
def f_X12_undo (n : Nat)  (σ : MS) : Option (Int32 × MS) := (ltM (mu σ 171 0 (0 : Int32)) (fun s2 => (if (s2 171 7) = 0 then some ((0 : Int32), s2) else (ltM (mu s2 171 7 ((s2 171 7) - (1 : Int32))) (fun s21 => itr (L_X12_undo_26 n  σ) n ((0 : Int32), s21))))))
set_option maxRecDepth 20000 in
set_option maxHeartbeats 2000000 in
theorem c_X12_undo (w : TG) (n : Nat)  (σ : MS) : MC m_X12_undo w [.ref (wB w + 171)] σ (f_X12_undo n  σ) := by
  refine V_meth (by decide +kernel) (Nat.le_of_ble_eq_true rfl) (by intro v hv; simp only [List.mem_cons, List.not_mem_nil, or_false] at hv; subst hv; rfl) (fun g x => ?_)
  show VV m_X12_undo w g 0 0 (QM m_X12_undo w g x) (fun b : Int32 × MS => b = x) 0 [some (.ref (wB w + 171)), none] [] σ (f_X12_undo n  σ)
  have hL26 : ∀  (n0 : Nat) (a : Int32 × MS), VV m_X12_undo w g 0 0 (QM m_X12_undo w g x) (fun b : Int32 × MS => b = x) 26 [some (.ref (wB w + 171)), some (.int a.1)] [] a.2 (itr (L_X12_undo_26 n  σ) n0 a) := by
    refine V_itr (vf := fun a : Int32 × MS => [some (.ref (wB w + 171)), some (.int a.1)]) (sf := fun a : Int32 × MS => a.2) (fun κ26 b26 r26 a26 => ?_)
    obtain ⟨a26_1, a26_2⟩ := a26
    show VV m_X12_undo w g 0 0 (QM m_X12_undo w g x) κ26 26 [some (.ref (wB w + 171)), some (.int a26_1)] [] a26_2 (L_X12_undo_26 n  σ (a26_1, a26_2))
    refine V_iload_n (pc := 26) dX12_undo_26 rfl rfl ?_
    refine V_sipush (pc := 27) dX12_undo_27 sp_474 ?_
    refine V_icmp_ge (pc := 30) (tgt := 60) dX12_undo_30 (by decide +kernel) ?_ ?_
    · refine V_exit r26 ?_
      refine V_iconst (pc := 60) dX12_undo_60 ic_1 ?_
      exact V_iretz (pc := 61) dX12_undo_61 rfl rfl (hk := fun h => h)
    · refine V_aload_n (pc := 33) dX12_undo_33 rfl rfl ?_
      refine V_getr (pc := 34) (t := 172) fk_X12_13 rfl dX12_undo_34 kc_171 rf_12_1_171 ?_
      refine V_iload_n (pc := 37) dX12_undo_37 rfl rfl ?_
      refine V_aload_n (pc := 38) dX12_undo_38 rfl rfl ?_
      refine V_getr (pc := 39) (t := 176) fk_X12_26 rfl dX12_undo_39 kc_171 rf_12_5_171 ?_
      refine V_sipush (pc := 42) dX12_undo_42 sp_474 ?_
      refine V_aload_n (pc := 45) dX12_undo_45 rfl rfl ?_
      refine V_geti (pc := 46) fk_X12_55 rfl dX12_undo_46 kc_171 rf_12_7_171 ?_
      refine V_imul (pc := 49) dX12_undo_49 ?_
      refine V_iload_n (pc := 50) dX12_undo_50 rfl rfl ?_
      refine V_iadd (pc := 51) dX12_undo_51 ?_
      refine V_iald (pc := 52) (n := 5688) dX12_undo_52 kc_176 lc_176 ?_
      refine V_iast (pc := 53) (n := 2172) dX12_undo_53 kc_172 lc_172 (fun s53 => ?_)
      refine V_iincC (pc := 54) (vs' := [some (.ref (wB w + 171)), some (.int (a26_1 + (1 : Int32)))]) dX12_undo_54 (Nat.le_of_ble_eq_true rfl) rfl ic_1 rfl ?_
      refine V_goto (pc := 57) (tgt := 26) dX12_undo_57 (by decide +kernel) ?_
      exact V_back (b26 ((a26_1 + (1 : Int32)), s53))
  refine V_aload_n (pc := 0) dX12_undo_0 rfl rfl ?_
  refine V_iconst (pc := 1) dX12_undo_1 ic_0 ?_
  refine V_puti (pc := 2) fp_X12_3 rfl dX12_undo_2 kc_171 rf_12_0_171 (fun s2 => ?_)
  refine V_aload_n (pc := 5) dX12_undo_5 rfl rfl ?_
  refine V_geti (pc := 6) fk_X12_55 rfl dX12_undo_6 kc_171 rf_12_7_171 ?_
  refine V_if_ne (pc := 9) (tgt := 14) dX12_undo_9 (by decide +kernel) ?_ ?_
  · refine V_aload_n (pc := 14) dX12_undo_14 rfl rfl ?_
    refine V_dup (pc := 15) dX12_undo_15 rfl ?_
    refine V_geti (pc := 16) fk_X12_55 rfl dX12_undo_16 kc_171 rf_12_7_171 ?_
    refine V_iconst (pc := 19) dX12_undo_19 ic_1 ?_
    refine V_isub (pc := 20) dX12_undo_20 ?_
    refine V_puti (pc := 21) fp_X12_55 rfl dX12_undo_21 kc_171 rf_12_7_171 (fun s21 => ?_)
    refine V_iconst (pc := 24) dX12_undo_24 ic_0 ?_
    refine V_istore_n (pc := 25) (vs' := [some (.ref (wB w + 171)), some (.int (0 : Int32))]) dX12_undo_25 rfl (Nat.le_of_ble_eq_true rfl) (Nat.le_of_ble_eq_true rfl) rfl ?_
    exact hL26 n ((0 : Int32), s21)
  · refine V_iconst (pc := 12) dX12_undo_12 ic_0 ?_
    exact V_iretz (pc := 13) dX12_undo_13 rfl rfl (hk := fun h => h)
def f_X12_people  (σ : MS) : Option (Int32) := some (σ 172 0)
set_option maxRecDepth 20000 in
set_option maxHeartbeats 2000000 in
theorem c_X12_people (w : TG)  (σ : MS) : MC m_X12_people w [.ref (wB w + 171)] σ ((f_X12_people  σ).map (fun r => (r, σ))) := by
  refine V_methp (by decide +kernel) (Nat.le_of_ble_eq_true rfl) (by intro v hv; simp only [List.mem_cons, List.not_mem_nil, or_false] at hv; subst hv; rfl) (fun g x => ?_)
  show VV m_X12_people w g 0 0 (QM m_X12_people w g x) (fun b : Int32 => (b, σ) = x) 0 [some (.ref (wB w + 171))] [] σ (f_X12_people  σ)
  refine V_aload_n (pc := 0) dX12_people_0 rfl rfl ?_
  refine V_getr (pc := 1) (t := 172) fk_X12_13 rfl dX12_people_1 kc_171 rf_12_1_171 ?_
  refine V_iconst (pc := 4) dX12_people_4 ic_0 ?_
  refine V_ialdC (pc := 5) (n := 2172) dX12_people_5 kc_172 lc_172 inb_0_2172 ?_
  exact V_ireti (pc := 6) dX12_people_6 rfl (hk := fun h => h)
def f_X12_everybody  (σ : MS) : Option (Int32) := ((f_X12_people  σ).bind (fun q2 => some ((shlI (1 : Int32) q2) - (1 : Int32))))
set_option maxRecDepth 20000 in
set_option maxHeartbeats 2000000 in
theorem c_X12_everybody (w : TG)  (σ : MS) : MC m_X12_everybody w [.ref (wB w + 171)] σ ((f_X12_everybody  σ).map (fun r => (r, σ))) := by
  refine V_methp (by decide +kernel) (Nat.le_of_ble_eq_true rfl) (by intro v hv; simp only [List.mem_cons, List.not_mem_nil, or_false] at hv; subst hv; rfl) (fun g x => ?_)
  show VV m_X12_everybody w g 0 0 (QM m_X12_everybody w g x) (fun b : Int32 => (b, σ) = x) 0 [some (.ref (wB w + 171))] [] σ (f_X12_everybody  σ)
  refine V_iconst (pc := 0) dX12_everybody_0 ic_1 ?_
  refine V_aload_n (pc := 1) dX12_everybody_1 rfl rfl ?_
  refine V_callVpi (pc := 2) (As := []) (rest := [.int (1 : Int32)]) (c_X12_people w  σ) cw_X12_58 rfl rfl dX12_everybody_2 kc_171 ci_12 ⟨Nat.le_of_ble_eq_true rfl, Nat.le_of_ble_eq_true rfl⟩ rfl rfl (Nat.le_of_ble_eq_true rfl) (Nat.le_of_ble_eq_true rfl) (Nat.le_of_ble_eq_true rfl) rfl (fun q2 => ?_)
  refine V_ishl (pc := 5) dX12_everybody_5 ?_
  refine V_iconst (pc := 6) dX12_everybody_6 ic_1 ?_
  refine V_isub (pc := 7) dX12_everybody_7 ?_
  exact V_ireti (pc := 8) dX12_everybody_8 rfl (hk := fun h => h)
def f_X12_at (p0 : Int32) (p1 : Int32) (σ : MS) : Option (Int32) := some (((10 : Int32) + ((4 : Int32) * p0)) + p1)
set_option maxRecDepth 20000 in
set_option maxHeartbeats 2000000 in
theorem c_X12_at (w : TG) (p0 : Int32) (p1 : Int32) (σ : MS) : MC m_X12_at w [.int p0, .int p1] σ ((f_X12_at p0 p1 σ).map (fun r => (r, σ))) := by
  refine V_methp (by decide +kernel) (Nat.le_of_ble_eq_true rfl) (by intro v hv; simp only [List.mem_cons, List.not_mem_nil, or_false] at hv; rcases hv with rfl | rfl <;> rfl) (fun g x => ?_)
  show VV m_X12_at w g 0 0 (QM m_X12_at w g x) (fun b : Int32 => (b, σ) = x) 0 [some (.int p0), some (.int p1)] [] σ (f_X12_at p0 p1 σ)
  refine V_bipush (pc := 0) dX12_at_0 bp_10 ?_
  refine V_iconst (pc := 2) dX12_at_2 ic_4 ?_
  refine V_iload_n (pc := 3) dX12_at_3 rfl rfl ?_
  refine V_imul (pc := 4) dX12_at_4 ?_
  refine V_iadd (pc := 5) dX12_at_5 ?_
  refine V_iload_n (pc := 6) dX12_at_6 rfl rfl ?_
  refine V_iadd (pc := 7) dX12_at_7 ?_
  exact V_ireti (pc := 8) dX12_at_8 rfl (hk := fun h => h)
def f_X12_of (p1 : Int32) (p2 : Int32) (σ : MS) : Option (Int32) := ((f_X12_at p1 p2 σ).bind (fun q6 => (if inb q6 2172 then some (σ 172 (ix q6)) else none)))
set_option maxRecDepth 20000 in
set_option maxHeartbeats 2000000 in
theorem c_X12_of (w : TG) (p1 : Int32) (p2 : Int32) (σ : MS) : MC m_X12_of w [.ref (wB w + 171), .int p1, .int p2] σ ((f_X12_of p1 p2 σ).map (fun r => (r, σ))) := by
  refine V_methp (by decide +kernel) (Nat.le_of_ble_eq_true rfl) (by intro v hv; simp only [List.mem_cons, List.not_mem_nil, or_false] at hv; rcases hv with rfl | rfl | rfl <;> rfl) (fun g x => ?_)
  show VV m_X12_of w g 0 0 (QM m_X12_of w g x) (fun b : Int32 => (b, σ) = x) 0 [some (.ref (wB w + 171)), some (.int p1), some (.int p2)] [] σ (f_X12_of p1 p2 σ)
  refine V_aload_n (pc := 0) dX12_of_0 rfl rfl ?_
  refine V_getr (pc := 1) (t := 172) fk_X12_13 rfl dX12_of_1 kc_171 rf_12_1_171 ?_
  refine V_iload_n (pc := 4) dX12_of_4 rfl rfl ?_
  refine V_iload_n (pc := 5) dX12_of_5 rfl rfl ?_
  refine V_callSpi (pc := 6) (As := [.int p1, .int p2]) (rest := [.ref (wB w + 172)]) (c_X12_at w p1 p2 σ) cs_X12_62 rfl rfl dX12_of_6 ⟨Nat.le_of_ble_eq_true rfl, Nat.le_of_ble_eq_true rfl⟩ rfl rfl (Nat.le_of_ble_eq_true rfl) (Nat.le_of_ble_eq_true rfl) (Nat.le_of_ble_eq_true rfl) rfl (fun q6 => ?_)
  refine V_iald (pc := 9) (n := 2172) dX12_of_9 kc_172 lc_172 ?_
  exact V_ireti (pc := 10) dX12_of_10 rfl (hk := fun h => h)
def f_X12_both (p0 : Int32) (p1 : Int32) (σ : MS) : Option (Int32) := some (((8 : Int32) * p0) + p1)
set_option maxRecDepth 20000 in
set_option maxHeartbeats 2000000 in
theorem c_X12_both (w : TG) (p0 : Int32) (p1 : Int32) (σ : MS) : MC m_X12_both w [.int p0, .int p1] σ ((f_X12_both p0 p1 σ).map (fun r => (r, σ))) := by
  refine V_methp (by decide +kernel) (Nat.le_of_ble_eq_true rfl) (by intro v hv; simp only [List.mem_cons, List.not_mem_nil, or_false] at hv; rcases hv with rfl | rfl <;> rfl) (fun g x => ?_)
  show VV m_X12_both w g 0 0 (QM m_X12_both w g x) (fun b : Int32 => (b, σ) = x) 0 [some (.int p0), some (.int p1)] [] σ (f_X12_both p0 p1 σ)
  refine V_bipush (pc := 0) dX12_both_0 bp_8 ?_
  refine V_iload_n (pc := 2) dX12_both_2 rfl rfl ?_
  refine V_imul (pc := 3) dX12_both_3 ?_
  refine V_iload_n (pc := 4) dX12_both_4 rfl rfl ?_
  refine V_iadd (pc := 5) dX12_both_5 ?_
  exact V_ireti (pc := 6) dX12_both_6 rfl (hk := fun h => h)
def f_X12_likes (p1 : Int32) (p2 : Int32) (σ : MS) : Option (Int32) := ((f_X12_both p1 p2 σ).bind (fun q8 => (if inb ((42 : Int32) + q8) 2172 then some (σ 172 (ix ((42 : Int32) + q8))) else none)))
set_option maxRecDepth 20000 in
set_option maxHeartbeats 2000000 in
theorem c_X12_likes (w : TG) (p1 : Int32) (p2 : Int32) (σ : MS) : MC m_X12_likes w [.ref (wB w + 171), .int p1, .int p2] σ ((f_X12_likes p1 p2 σ).map (fun r => (r, σ))) := by
  refine V_methp (by decide +kernel) (Nat.le_of_ble_eq_true rfl) (by intro v hv; simp only [List.mem_cons, List.not_mem_nil, or_false] at hv; rcases hv with rfl | rfl | rfl <;> rfl) (fun g x => ?_)
  show VV m_X12_likes w g 0 0 (QM m_X12_likes w g x) (fun b : Int32 => (b, σ) = x) 0 [some (.ref (wB w + 171)), some (.int p1), some (.int p2)] [] σ (f_X12_likes p1 p2 σ)
  refine V_aload_n (pc := 0) dX12_likes_0 rfl rfl ?_
  refine V_getr (pc := 1) (t := 172) fk_X12_13 rfl dX12_likes_1 kc_171 rf_12_1_171 ?_
  refine V_bipush (pc := 4) dX12_likes_4 bp_42 ?_
  refine V_iload_n (pc := 6) dX12_likes_6 rfl rfl ?_
  refine V_iload_n (pc := 7) dX12_likes_7 rfl rfl ?_
  refine V_callSpi (pc := 8) (As := [.int p1, .int p2]) (rest := [.int (42 : Int32), .ref (wB w + 172)]) (c_X12_both w p1 p2 σ) cs_X12_66 rfl rfl dX12_likes_8 ⟨Nat.le_of_ble_eq_true rfl, Nat.le_of_ble_eq_true rfl⟩ rfl rfl (Nat.le_of_ble_eq_true rfl) (Nat.le_of_ble_eq_true rfl) (Nat.le_of_ble_eq_true rfl) rfl (fun q8 => ?_)
  refine V_iadd (pc := 11) dX12_likes_11 ?_
  refine V_iald (pc := 12) (n := 2172) dX12_likes_12 kc_172 lc_172 ?_
  exact V_ireti (pc := 13) dX12_likes_13 rfl (hk := fun h => h)
def J_X12_holds_44 (t0 : Int32) (σ : MS) : Option (Int32) := (if t0 = 0 ∨ t0 = 1 then some t0 else none)
def J_X12_holds_43  (σ : MS) : Option (Int32) := J_X12_holds_44 (0 : Int32) σ
def f_X12_holds (p1 : Int32) (p2 : Int32) (σ : MS) : Option (Int32) := ((f_X12_both p1 p2 σ).bind (fun q8 => (if inb ((106 : Int32) + q8) 2172 then (if (σ 172 (ix ((106 : Int32) + q8))) ≤ 0 then J_X12_holds_43  σ else ((f_X12_both p1 p2 σ).bind (fun q31 => (if inb ((170 : Int32) + q31) 2172 then (if (σ 172 (ix ((170 : Int32) + q31))) ≤ (σ 172 3) then J_X12_holds_43  σ else J_X12_holds_44 (1 : Int32) σ) else none)))) else none)))
set_option maxRecDepth 20000 in
set_option maxHeartbeats 2000000 in
theorem c_X12_holds (w : TG) (p1 : Int32) (p2 : Int32) (σ : MS) : MC m_X12_holds w [.ref (wB w + 171), .int p1, .int p2] σ ((f_X12_holds p1 p2 σ).map (fun r => (r, σ))) := by
  refine V_methp (by decide +kernel) (Nat.le_of_ble_eq_true rfl) (by intro v hv; simp only [List.mem_cons, List.not_mem_nil, or_false] at hv; rcases hv with rfl | rfl | rfl <;> rfl) (fun g x => ?_)
  show VV m_X12_holds w g 0 0 (QM m_X12_holds w g x) (fun b : Int32 => (b, σ) = x) 0 [some (.ref (wB w + 171)), some (.int p1), some (.int p2)] [] σ (f_X12_holds p1 p2 σ)
  have hJ44 : ∀ (t0 : Int32), VV m_X12_holds w g 0 0 (QM m_X12_holds w g x) (fun b : Int32 => (b, σ) = x) 44 [none, none, none] [.int t0] σ (J_X12_holds_44 t0 σ) := by
    intro t0
    exact V_iretZ (pc := 44) dX12_holds_44 rfl (hk := fun h => h)
  have hJ43 : ∀ (_ : Unit), VV m_X12_holds w g 0 0 (QM m_X12_holds w g x) (fun b : Int32 => (b, σ) = x) 43 [none, none, none] [] σ (J_X12_holds_43  σ) := by
    intro _
    refine V_iconst (pc := 43) dX12_holds_43 ic_0 ?_
    exact hJ44 (0 : Int32)
  refine V_aload_n (pc := 0) dX12_holds_0 rfl rfl ?_
  refine V_getr (pc := 1) (t := 172) fk_X12_13 rfl dX12_holds_1 kc_171 rf_12_1_171 ?_
  refine V_bipush (pc := 4) dX12_holds_4 bp_106 ?_
  refine V_iload_n (pc := 6) dX12_holds_6 rfl rfl ?_
  refine V_iload_n (pc := 7) dX12_holds_7 rfl rfl ?_
  refine V_callSpi (pc := 8) (As := [.int p1, .int p2]) (rest := [.int (106 : Int32), .ref (wB w + 172)]) (c_X12_both w p1 p2 σ) cs_X12_66 rfl rfl dX12_holds_8 ⟨Nat.le_of_ble_eq_true rfl, Nat.le_of_ble_eq_true rfl⟩ rfl rfl (Nat.le_of_ble_eq_true rfl) (Nat.le_of_ble_eq_true rfl) (Nat.le_of_ble_eq_true rfl) rfl (fun q8 => ?_)
  refine V_iadd (pc := 11) dX12_holds_11 ?_
  refine V_iald (pc := 12) (n := 2172) dX12_holds_12 kc_172 lc_172 ?_
  refine V_if_le (pc := 13) (tgt := 43) dX12_holds_13 (by decide +kernel) ?_ ?_
  · refine V_sub (vs' := [none, none, none]) (show vless _ _ from trivial) rfl ?_
    exact hJ43 ()
  · refine V_aload_n (pc := 16) dX12_holds_16 rfl rfl ?_
    refine V_getr (pc := 17) (t := 172) fk_X12_13 rfl dX12_holds_17 kc_171 rf_12_1_171 ?_
    refine V_iconst (pc := 20) dX12_holds_20 ic_3 ?_
    refine V_ialdC (pc := 21) (n := 2172) dX12_holds_21 kc_172 lc_172 inb_3_2172 ?_
    refine V_aload_n (pc := 22) dX12_holds_22 rfl rfl ?_
    refine V_getr (pc := 23) (t := 172) fk_X12_13 rfl dX12_holds_23 kc_171 rf_12_1_171 ?_
    refine V_sipush (pc := 26) dX12_holds_26 sp_170 ?_
    refine V_iload_n (pc := 29) dX12_holds_29 rfl rfl ?_
    refine V_iload_n (pc := 30) dX12_holds_30 rfl rfl ?_
    refine V_callSpi (pc := 31) (As := [.int p1, .int p2]) (rest := [.int (170 : Int32), .ref (wB w + 172), .int (σ 172 3)]) (c_X12_both w p1 p2 σ) cs_X12_66 rfl rfl dX12_holds_31 ⟨Nat.le_of_ble_eq_true rfl, Nat.le_of_ble_eq_true rfl⟩ rfl rfl (Nat.le_of_ble_eq_true rfl) (Nat.le_of_ble_eq_true rfl) (Nat.le_of_ble_eq_true rfl) rfl (fun q31 => ?_)
    refine V_iadd (pc := 34) dX12_holds_34 ?_
    refine V_iald (pc := 35) (n := 2172) dX12_holds_35 kc_172 lc_172 ?_
    refine V_icmp_ge (pc := 36) (tgt := 43) dX12_holds_36 (by decide +kernel) ?_ ?_
    · refine V_sub (vs' := [none, none, none]) (show vless _ _ from trivial) rfl ?_
      exact hJ43 ()
    · refine V_iconst (pc := 39) dX12_holds_39 ic_1 ?_
      refine V_goto (pc := 40) (tgt := 44) dX12_holds_40 (by decide +kernel) ?_
      refine V_sub (vs' := [none, none, none]) (show vless _ _ from trivial) rfl ?_
      exact hJ44 (1 : Int32)
def J_X12_bondOf_26 (t0 : Int32) (σ : MS) : Option (Int32) := some t0
def f_X12_bondOf (p1 : Int32) (p2 : Int32) (σ : MS) : Option (Int32) := ((f_X12_holds p1 p2 σ).bind (fun q3 => (if q3 = 0 then J_X12_bondOf_26 (0 : Int32) σ else ((f_X12_both p1 p2 σ).bind (fun q17 => (if inb ((106 : Int32) + q17) 2172 then J_X12_bondOf_26 (σ 172 (ix ((106 : Int32) + q17))) σ else none))))))
set_option maxRecDepth 20000 in
set_option maxHeartbeats 2000000 in
theorem c_X12_bondOf (w : TG) (p1 : Int32) (p2 : Int32) (σ : MS) : MC m_X12_bondOf w [.ref (wB w + 171), .int p1, .int p2] σ ((f_X12_bondOf p1 p2 σ).map (fun r => (r, σ))) := by
  refine V_methp (by decide +kernel) (Nat.le_of_ble_eq_true rfl) (by intro v hv; simp only [List.mem_cons, List.not_mem_nil, or_false] at hv; rcases hv with rfl | rfl | rfl <;> rfl) (fun g x => ?_)
  show VV m_X12_bondOf w g 0 0 (QM m_X12_bondOf w g x) (fun b : Int32 => (b, σ) = x) 0 [some (.ref (wB w + 171)), some (.int p1), some (.int p2)] [] σ (f_X12_bondOf p1 p2 σ)
  have hJ26 : ∀ (t0 : Int32), VV m_X12_bondOf w g 0 0 (QM m_X12_bondOf w g x) (fun b : Int32 => (b, σ) = x) 26 [none, none, none] [.int t0] σ (J_X12_bondOf_26 t0 σ) := by
    intro t0
    exact V_ireti (pc := 26) dX12_bondOf_26 rfl (hk := fun h => h)
  refine V_aload_n (pc := 0) dX12_bondOf_0 rfl rfl ?_
  refine V_iload_n (pc := 1) dX12_bondOf_1 rfl rfl ?_
  refine V_iload_n (pc := 2) dX12_bondOf_2 rfl rfl ?_
  refine V_callVpi (pc := 3) (As := [.int p1, .int p2]) (rest := []) (c_X12_holds w p1 p2 σ) cw_X12_69 rfl rfl dX12_bondOf_3 kc_171 ci_12 ⟨Nat.le_of_ble_eq_true rfl, Nat.le_of_ble_eq_true rfl⟩ rfl rfl (Nat.le_of_ble_eq_true rfl) (Nat.le_of_ble_eq_true rfl) (Nat.le_of_ble_eq_true rfl) rfl (fun q3 => ?_)
  refine V_if_eq (pc := 6) (tgt := 25) dX12_bondOf_6 (by decide +kernel) ?_ ?_
  · refine V_iconst (pc := 25) dX12_bondOf_25 ic_0 ?_
    refine V_sub (vs' := [none, none, none]) (show vless _ _ from trivial) rfl ?_
    exact hJ26 (0 : Int32)
  · refine V_aload_n (pc := 9) dX12_bondOf_9 rfl rfl ?_
    refine V_getr (pc := 10) (t := 172) fk_X12_13 rfl dX12_bondOf_10 kc_171 rf_12_1_171 ?_
    refine V_bipush (pc := 13) dX12_bondOf_13 bp_106 ?_
    refine V_iload_n (pc := 15) dX12_bondOf_15 rfl rfl ?_
    refine V_iload_n (pc := 16) dX12_bondOf_16 rfl rfl ?_
    refine V_callSpi (pc := 17) (As := [.int p1, .int p2]) (rest := [.int (106 : Int32), .ref (wB w + 172)]) (c_X12_both w p1 p2 σ) cs_X12_66 rfl rfl dX12_bondOf_17 ⟨Nat.le_of_ble_eq_true rfl, Nat.le_of_ble_eq_true rfl⟩ rfl rfl (Nat.le_of_ble_eq_true rfl) (Nat.le_of_ble_eq_true rfl) (Nat.le_of_ble_eq_true rfl) rfl (fun q17 => ?_)
    refine V_iadd (pc := 20) dX12_bondOf_20 ?_
    refine V_iald (pc := 21) (n := 2172) dX12_bondOf_21 kc_172 lc_172 ?_
    refine V_goto (pc := 22) (tgt := 26) dX12_bondOf_22 (by decide +kernel) ?_
    refine V_sub (vs' := [none, none, none]) (show vless _ _ from trivial) rfl ?_
    exact hJ26 (σ 172 (ix ((106 : Int32) + q17)))
def f_X12_binds (p1 : Int32) (p2 : Int32) (p3 : Int32) (p4 : Int32) (σ : MS) : Option (Int32 × MS) := ((f_X12_both p1 p2 σ).bind (fun q8 => (if inb ((106 : Int32) + q8) 2172 then ltM (mu σ 172 (ix ((106 : Int32) + q8)) p3) (fun s13 => ((f_X12_both p2 p1 s13).bind (fun q22 => (if inb ((106 : Int32) + q22) 2172 then ltM (mu s13 172 (ix ((106 : Int32) + q22)) p3) (fun s27 => ((f_X12_both p1 p2 s27).bind (fun q37 => (if inb ((170 : Int32) + q37) 2172 then ltM (mu s27 172 (ix ((170 : Int32) + q37)) p4) (fun s43 => ((f_X12_both p2 p1 s43).bind (fun q53 => (if inb ((170 : Int32) + q53) 2172 then ltM (mu s43 172 (ix ((170 : Int32) + q53)) p4) (fun s59 => some (0, s59)) else none)))) else none)))) else none)))) else none)))
set_option maxRecDepth 20000 in
set_option maxHeartbeats 2000000 in
theorem c_X12_binds (w : TG) (p1 : Int32) (p2 : Int32) (p3 : Int32) (p4 : Int32) (σ : MS) : MC m_X12_binds w [.ref (wB w + 171), .int p1, .int p2, .int p3, .int p4] σ (f_X12_binds p1 p2 p3 p4 σ) := by
  refine V_meth (by decide +kernel) (Nat.le_of_ble_eq_true rfl) (by intro v hv; simp only [List.mem_cons, List.not_mem_nil, or_false] at hv; rcases hv with rfl | rfl | rfl | rfl | rfl <;> rfl) (fun g x => ?_)
  show VV m_X12_binds w g 0 0 (QM m_X12_binds w g x) (fun b : Int32 × MS => b = x) 0 [some (.ref (wB w + 171)), some (.int p1), some (.int p2), some (.int p3), some (.int p4)] [] σ (f_X12_binds p1 p2 p3 p4 σ)
  refine V_aload_n (pc := 0) dX12_binds_0 rfl rfl ?_
  refine V_getr (pc := 1) (t := 172) fk_X12_13 rfl dX12_binds_1 kc_171 rf_12_1_171 ?_
  refine V_bipush (pc := 4) dX12_binds_4 bp_106 ?_
  refine V_iload_n (pc := 6) dX12_binds_6 rfl rfl ?_
  refine V_iload_n (pc := 7) dX12_binds_7 rfl rfl ?_
  refine V_callSpi (pc := 8) (As := [.int p1, .int p2]) (rest := [.int (106 : Int32), .ref (wB w + 172)]) (c_X12_both w p1 p2 σ) cs_X12_66 rfl rfl dX12_binds_8 ⟨Nat.le_of_ble_eq_true rfl, Nat.le_of_ble_eq_true rfl⟩ rfl rfl (Nat.le_of_ble_eq_true rfl) (Nat.le_of_ble_eq_true rfl) (Nat.le_of_ble_eq_true rfl) rfl (fun q8 => ?_)
  refine V_iadd (pc := 11) dX12_binds_11 ?_
  refine V_iload_n (pc := 12) dX12_binds_12 rfl rfl ?_
  refine V_iast (pc := 13) (n := 2172) dX12_binds_13 kc_172 lc_172 (fun s13 => ?_)
  refine V_aload_n (pc := 14) dX12_binds_14 rfl rfl ?_
  refine V_getr (pc := 15) (t := 172) fk_X12_13 rfl dX12_binds_15 kc_171 rf_12_1_171 ?_
  refine V_bipush (pc := 18) dX12_binds_18 bp_106 ?_
  refine V_iload_n (pc := 20) dX12_binds_20 rfl rfl ?_
  refine V_iload_n (pc := 21) dX12_binds_21 rfl rfl ?_
  refine V_callSpi (pc := 22) (As := [.int p2, .int p1]) (rest := [.int (106 : Int32), .ref (wB w + 172)]) (c_X12_both w p2 p1 s13) cs_X12_66 rfl rfl dX12_binds_22 ⟨Nat.le_of_ble_eq_true rfl, Nat.le_of_ble_eq_true rfl⟩ rfl rfl (Nat.le_of_ble_eq_true rfl) (Nat.le_of_ble_eq_true rfl) (Nat.le_of_ble_eq_true rfl) rfl (fun q22 => ?_)
  refine V_iadd (pc := 25) dX12_binds_25 ?_
  refine V_iload_n (pc := 26) dX12_binds_26 rfl rfl ?_
  refine V_iast (pc := 27) (n := 2172) dX12_binds_27 kc_172 lc_172 (fun s27 => ?_)
  refine V_aload_n (pc := 28) dX12_binds_28 rfl rfl ?_
  refine V_getr (pc := 29) (t := 172) fk_X12_13 rfl dX12_binds_29 kc_171 rf_12_1_171 ?_
  refine V_sipush (pc := 32) dX12_binds_32 sp_170 ?_
  refine V_iload_n (pc := 35) dX12_binds_35 rfl rfl ?_
  refine V_iload_n (pc := 36) dX12_binds_36 rfl rfl ?_
  refine V_callSpi (pc := 37) (As := [.int p1, .int p2]) (rest := [.int (170 : Int32), .ref (wB w + 172)]) (c_X12_both w p1 p2 s27) cs_X12_66 rfl rfl dX12_binds_37 ⟨Nat.le_of_ble_eq_true rfl, Nat.le_of_ble_eq_true rfl⟩ rfl rfl (Nat.le_of_ble_eq_true rfl) (Nat.le_of_ble_eq_true rfl) (Nat.le_of_ble_eq_true rfl) rfl (fun q37 => ?_)
  refine V_iadd (pc := 40) dX12_binds_40 ?_
  refine V_iload (pc := 41) dX12_binds_41 rfl ?_
  refine V_iast (pc := 43) (n := 2172) dX12_binds_43 kc_172 lc_172 (fun s43 => ?_)
  refine V_aload_n (pc := 44) dX12_binds_44 rfl rfl ?_
  refine V_getr (pc := 45) (t := 172) fk_X12_13 rfl dX12_binds_45 kc_171 rf_12_1_171 ?_
  refine V_sipush (pc := 48) dX12_binds_48 sp_170 ?_
  refine V_iload_n (pc := 51) dX12_binds_51 rfl rfl ?_
  refine V_iload_n (pc := 52) dX12_binds_52 rfl rfl ?_
  refine V_callSpi (pc := 53) (As := [.int p2, .int p1]) (rest := [.int (170 : Int32), .ref (wB w + 172)]) (c_X12_both w p2 p1 s43) cs_X12_66 rfl rfl dX12_binds_53 ⟨Nat.le_of_ble_eq_true rfl, Nat.le_of_ble_eq_true rfl⟩ rfl rfl (Nat.le_of_ble_eq_true rfl) (Nat.le_of_ble_eq_true rfl) (Nat.le_of_ble_eq_true rfl) rfl (fun q53 => ?_)
  refine V_iadd (pc := 56) dX12_binds_56 ?_
  refine V_iload (pc := 57) dX12_binds_57 rfl ?_
  refine V_iast (pc := 59) (n := 2172) dX12_binds_59 kc_172 lc_172 (fun s59 => ?_)
  exact V_ret (pc := 60) dX12_binds_60 rfl (hk := fun h => h)
def J_X12_areWed_15 (t0 : Int32) (σ : MS) : Option (Int32) := (if t0 = 0 ∨ t0 = 1 then some t0 else none)
def f_X12_areWed (p1 : Int32) (p2 : Int32) (σ : MS) : Option (Int32) := ((f_X12_of p1 (1 : Int32) σ).bind (fun q3 => (if q3 = p2 then J_X12_areWed_15 (1 : Int32) σ else J_X12_areWed_15 (0 : Int32) σ)))
set_option maxRecDepth 20000 in
set_option maxHeartbeats 2000000 in
theorem c_X12_areWed (w : TG) (p1 : Int32) (p2 : Int32) (σ : MS) : MC m_X12_areWed w [.ref (wB w + 171), .int p1, .int p2] σ ((f_X12_areWed p1 p2 σ).map (fun r => (r, σ))) := by
  refine V_methp (by decide +kernel) (Nat.le_of_ble_eq_true rfl) (by intro v hv; simp only [List.mem_cons, List.not_mem_nil, or_false] at hv; rcases hv with rfl | rfl | rfl <;> rfl) (fun g x => ?_)
  show VV m_X12_areWed w g 0 0 (QM m_X12_areWed w g x) (fun b : Int32 => (b, σ) = x) 0 [some (.ref (wB w + 171)), some (.int p1), some (.int p2)] [] σ (f_X12_areWed p1 p2 σ)
  have hJ15 : ∀ (t0 : Int32), VV m_X12_areWed w g 0 0 (QM m_X12_areWed w g x) (fun b : Int32 => (b, σ) = x) 15 [none, none, none] [.int t0] σ (J_X12_areWed_15 t0 σ) := by
    intro t0
    exact V_iretZ (pc := 15) dX12_areWed_15 rfl (hk := fun h => h)
  refine V_aload_n (pc := 0) dX12_areWed_0 rfl rfl ?_
  refine V_iload_n (pc := 1) dX12_areWed_1 rfl rfl ?_
  refine V_iconst (pc := 2) dX12_areWed_2 ic_1 ?_
  refine V_callVpi (pc := 3) (As := [.int p1, .int (1 : Int32)]) (rest := []) (c_X12_of w p1 (1 : Int32) σ) cw_X12_73 rfl rfl dX12_areWed_3 kc_171 ci_12 ⟨Nat.le_of_ble_eq_true rfl, Nat.le_of_ble_eq_true rfl⟩ rfl rfl (Nat.le_of_ble_eq_true rfl) (Nat.le_of_ble_eq_true rfl) (Nat.le_of_ble_eq_true rfl) rfl (fun q3 => ?_)
  refine V_iload_n (pc := 6) dX12_areWed_6 rfl rfl ?_
  refine V_icmp_ne (pc := 7) (tgt := 14) dX12_areWed_7 (by decide +kernel) ?_ ?_
  · refine V_iconst (pc := 14) dX12_areWed_14 ic_0 ?_
    refine V_sub (vs' := [none, none, none]) (show vless _ _ from trivial) rfl ?_
    exact hJ15 (0 : Int32)
  · refine V_iconst (pc := 10) dX12_areWed_10 ic_1 ?_
    refine V_goto (pc := 11) (tgt := 15) dX12_areWed_11 (by decide +kernel) ?_
    refine V_sub (vs' := [none, none, none]) (show vless _ _ from trivial) rfl ?_
    exact hJ15 (1 : Int32)
def f_X12_hasFlour (p1 : Int32) (σ : MS) : Option (Int32) := ((f_X12_has (σ 172 4) p1 σ).bind (fun q7 => (if q7 = 0 ∨ q7 = 1 then some q7 else none)))
set_option maxRecDepth 20000 in
set_option maxHeartbeats 2000000 in
theorem c_X12_hasFlour (w : TG) (p1 : Int32) (σ : MS) : MC m_X12_hasFlour w [.ref (wB w + 171), .int p1] σ ((f_X12_hasFlour p1 σ).map (fun r => (r, σ))) := by
  refine V_methp (by decide +kernel) (Nat.le_of_ble_eq_true rfl) (by intro v hv; simp only [List.mem_cons, List.not_mem_nil, or_false] at hv; rcases hv with rfl | rfl <;> rfl) (fun g x => ?_)
  show VV m_X12_hasFlour w g 0 0 (QM m_X12_hasFlour w g x) (fun b : Int32 => (b, σ) = x) 0 [some (.ref (wB w + 171)), some (.int p1)] [] σ (f_X12_hasFlour p1 σ)
  refine V_aload_n (pc := 0) dX12_hasFlour_0 rfl rfl ?_
  refine V_getr (pc := 1) (t := 172) fk_X12_13 rfl dX12_hasFlour_1 kc_171 rf_12_1_171 ?_
  refine V_iconst (pc := 4) dX12_hasFlour_4 ic_4 ?_
  refine V_ialdC (pc := 5) (n := 2172) dX12_hasFlour_5 kc_172 lc_172 inb_4_2172 ?_
  refine V_iload_n (pc := 6) dX12_hasFlour_6 rfl rfl ?_
  refine V_callSpi (pc := 7) (As := [.int (σ 172 4), .int p1]) (rest := []) (c_X12_has w (σ 172 4) p1 σ) cs_X12_76 rfl rfl dX12_hasFlour_7 ⟨Nat.le_of_ble_eq_true rfl, Nat.le_of_ble_eq_true rfl⟩ rfl rfl (Nat.le_of_ble_eq_true rfl) (Nat.le_of_ble_eq_true rfl) (Nat.le_of_ble_eq_true rfl) rfl (fun q7 => ?_)
  exact V_iretZ (pc := 10) dX12_hasFlour_10 rfl (hk := fun h => h)
def J_X12_noPerson_19 (t0 : Int32) (σ : MS) : Option (Int32) := (if t0 = 0 ∨ t0 = 1 then some t0 else none)
def f_X12_noPerson (p1 : Int32) (σ : MS) : Option (Int32) := ((f_X12_people  σ).bind (fun q3 => ((f_X12_in p1 (0 : Int32) (q3 - (1 : Int32)) σ).bind (fun q8 => (if q8 = 0 then J_X12_noPerson_19 (1 : Int32) σ else J_X12_noPerson_19 (0 : Int32) σ)))))
set_option maxRecDepth 20000 in
set_option maxHeartbeats 2000000 in
theorem c_X12_noPerson (w : TG) (p1 : Int32) (σ : MS) : MC m_X12_noPerson w [.ref (wB w + 171), .int p1] σ ((f_X12_noPerson p1 σ).map (fun r => (r, σ))) := by
  refine V_methp (by decide +kernel) (Nat.le_of_ble_eq_true rfl) (by intro v hv; simp only [List.mem_cons, List.not_mem_nil, or_false] at hv; rcases hv with rfl | rfl <;> rfl) (fun g x => ?_)
  show VV m_X12_noPerson w g 0 0 (QM m_X12_noPerson w g x) (fun b : Int32 => (b, σ) = x) 0 [some (.ref (wB w + 171)), some (.int p1)] [] σ (f_X12_noPerson p1 σ)
  have hJ19 : ∀ (t0 : Int32), VV m_X12_noPerson w g 0 0 (QM m_X12_noPerson w g x) (fun b : Int32 => (b, σ) = x) 19 [none, none] [.int t0] σ (J_X12_noPerson_19 t0 σ) := by
    intro t0
    exact V_iretZ (pc := 19) dX12_noPerson_19 rfl (hk := fun h => h)
  refine V_iload_n (pc := 0) dX12_noPerson_0 rfl rfl ?_
  refine V_iconst (pc := 1) dX12_noPerson_1 ic_0 ?_
  refine V_aload_n (pc := 2) dX12_noPerson_2 rfl rfl ?_
  refine V_callVpi (pc := 3) (As := []) (rest := [.int (0 : Int32), .int p1]) (c_X12_people w  σ) cw_X12_58 rfl rfl dX12_noPerson_3 kc_171 ci_12 ⟨Nat.le_of_ble_eq_true rfl, Nat.le_of_ble_eq_true rfl⟩ rfl rfl (Nat.le_of_ble_eq_true rfl) (Nat.le_of_ble_eq_true rfl) (Nat.le_of_ble_eq_true rfl) rfl (fun q3 => ?_)
  refine V_iconst (pc := 6) dX12_noPerson_6 ic_1 ?_
  refine V_isub (pc := 7) dX12_noPerson_7 ?_
  refine V_callSpi (pc := 8) (As := [.int p1, .int (0 : Int32), .int (q3 - (1 : Int32))]) (rest := []) (c_X12_in w p1 (0 : Int32) (q3 - (1 : Int32)) σ) cs_X12_79 rfl rfl dX12_noPerson_8 ⟨Nat.le_of_ble_eq_true rfl, Nat.le_of_ble_eq_true rfl⟩ rfl rfl (Nat.le_of_ble_eq_true rfl) (Nat.le_of_ble_eq_true rfl) (Nat.le_of_ble_eq_true rfl) rfl (fun q8 => ?_)
  refine V_if_ne (pc := 11) (tgt := 18) dX12_noPerson_11 (by decide +kernel) ?_ ?_
  · refine V_iconst (pc := 18) dX12_noPerson_18 ic_0 ?_
    refine V_sub (vs' := [none, none]) (show vless _ _ from trivial) rfl ?_
    exact hJ19 (0 : Int32)
  · refine V_iconst (pc := 14) dX12_noPerson_14 ic_1 ?_
    refine V_goto (pc := 15) (tgt := 19) dX12_noPerson_15 (by decide +kernel) ?_
    refine V_sub (vs' := [none, none]) (show vless _ _ from trivial) rfl ?_
    exact hJ19 (1 : Int32)
def J_X12_noRoom_14 (t0 : Int32) (σ : MS) : Option (Int32) := (if t0 = 0 ∨ t0 = 1 then some t0 else none)
def f_X12_noRoom (p0 : Int32) (σ : MS) : Option (Int32) := ((f_X12_in p0 (0 : Int32) (5 : Int32) σ).bind (fun q3 => (if q3 = 0 then J_X12_noRoom_14 (1 : Int32) σ else J_X12_noRoom_14 (0 : Int32) σ)))
set_option maxRecDepth 20000 in
set_option maxHeartbeats 2000000 in
theorem c_X12_noRoom (w : TG) (p0 : Int32) (σ : MS) : MC m_X12_noRoom w [.int p0] σ ((f_X12_noRoom p0 σ).map (fun r => (r, σ))) := by
  refine V_methp (by decide +kernel) (Nat.le_of_ble_eq_true rfl) (by intro v hv; simp only [List.mem_cons, List.not_mem_nil, or_false] at hv; subst hv; rfl) (fun g x => ?_)
  show VV m_X12_noRoom w g 0 0 (QM m_X12_noRoom w g x) (fun b : Int32 => (b, σ) = x) 0 [some (.int p0)] [] σ (f_X12_noRoom p0 σ)
  have hJ14 : ∀ (t0 : Int32), VV m_X12_noRoom w g 0 0 (QM m_X12_noRoom w g x) (fun b : Int32 => (b, σ) = x) 14 [none] [.int t0] σ (J_X12_noRoom_14 t0 σ) := by
    intro t0
    exact V_iretZ (pc := 14) dX12_noRoom_14 rfl (hk := fun h => h)
  refine V_iload_n (pc := 0) dX12_noRoom_0 rfl rfl ?_
  refine V_iconst (pc := 1) dX12_noRoom_1 ic_0 ?_
  refine V_iconst (pc := 2) dX12_noRoom_2 ic_5 ?_
  refine V_callSpi (pc := 3) (As := [.int p0, .int (0 : Int32), .int (5 : Int32)]) (rest := []) (c_X12_in w p0 (0 : Int32) (5 : Int32) σ) cs_X12_79 rfl rfl dX12_noRoom_3 ⟨Nat.le_of_ble_eq_true rfl, Nat.le_of_ble_eq_true rfl⟩ rfl rfl (Nat.le_of_ble_eq_true rfl) (Nat.le_of_ble_eq_true rfl) (Nat.le_of_ble_eq_true rfl) rfl (fun q3 => ?_)
  refine V_if_ne (pc := 6) (tgt := 13) dX12_noRoom_6 (by decide +kernel) ?_ ?_
  · refine V_iconst (pc := 13) dX12_noRoom_13 ic_0 ?_
    refine V_sub (vs' := [none]) (show vless _ _ from trivial) rfl ?_
    exact hJ14 (0 : Int32)
  · refine V_iconst (pc := 9) dX12_noRoom_9 ic_1 ?_
    refine V_goto (pc := 10) (tgt := 14) dX12_noRoom_10 (by decide +kernel) ?_
    refine V_sub (vs' := [none]) (show vless _ _ from trivial) rfl ?_
    exact hJ14 (1 : Int32)
def f_X12_drawn (p1 : Int32) (σ : MS) : Option (Int32 × MS) := (ltM (mu σ 172 9 (((1103515245 : Int32) * (σ 172 9)) + (12345 : Int32))) (fun s20 => (if p1 = 0 then none else some ((remI ((shrI (s20 172 9) (16 : Int32)) &&& (32767 : Int32)) p1), s20))))
set_option maxRecDepth 20000 in
set_option maxHeartbeats 2000000 in
theorem c_X12_drawn (w : TG) (p1 : Int32) (σ : MS) : MC m_X12_drawn w [.ref (wB w + 171), .int p1] σ (f_X12_drawn p1 σ) := by
  refine V_meth (by decide +kernel) (Nat.le_of_ble_eq_true rfl) (by intro v hv; simp only [List.mem_cons, List.not_mem_nil, or_false] at hv; rcases hv with rfl | rfl <;> rfl) (fun g x => ?_)
  show VV m_X12_drawn w g 0 0 (QM m_X12_drawn w g x) (fun b : Int32 × MS => b = x) 0 [some (.ref (wB w + 171)), some (.int p1)] [] σ (f_X12_drawn p1 σ)
  refine V_aload_n (pc := 0) dX12_drawn_0 rfl rfl ?_
  refine V_getr (pc := 1) (t := 172) fk_X12_13 rfl dX12_drawn_1 kc_171 rf_12_1_171 ?_
  refine V_bipush (pc := 4) dX12_drawn_4 bp_9 ?_
  refine V_ldc (pc := 6) (v := (1103515245 : Int32)) dX12_drawn_6 rfl ld_X12_83 ?_
  refine V_aload_n (pc := 8) dX12_drawn_8 rfl rfl ?_
  refine V_getr (pc := 9) (t := 172) fk_X12_13 rfl dX12_drawn_9 kc_171 rf_12_1_171 ?_
  refine V_bipush (pc := 12) dX12_drawn_12 bp_9 ?_
  refine V_ialdC (pc := 14) (n := 2172) dX12_drawn_14 kc_172 lc_172 inb_9_2172 ?_
  refine V_imul (pc := 15) dX12_drawn_15 ?_
  refine V_sipush (pc := 16) dX12_drawn_16 sp_12345 ?_
  refine V_iadd (pc := 19) dX12_drawn_19 ?_
  refine V_iastC (pc := 20) (n := 2172) dX12_drawn_20 kc_172 lc_172 inb_9_2172 (fun s20 => ?_)
  refine V_aload_n (pc := 21) dX12_drawn_21 rfl rfl ?_
  refine V_getr (pc := 22) (t := 172) fk_X12_13 rfl dX12_drawn_22 kc_171 rf_12_1_171 ?_
  refine V_bipush (pc := 25) dX12_drawn_25 bp_9 ?_
  refine V_ialdC (pc := 27) (n := 2172) dX12_drawn_27 kc_172 lc_172 inb_9_2172 ?_
  refine V_bipush (pc := 28) dX12_drawn_28 bp_16 ?_
  refine V_ishr (pc := 30) dX12_drawn_30 ?_
  refine V_sipush (pc := 31) dX12_drawn_31 sp_32767 ?_
  refine V_iand (pc := 34) dX12_drawn_34 ?_
  refine V_iload_n (pc := 35) dX12_drawn_35 rfl rfl ?_
  refine V_iremG (pc := 36) dX12_drawn_36 ?_
  exact V_ireti (pc := 37) dX12_drawn_37 rfl (hk := fun h => h)
def L_X12_feed_60 (n : Nat)  (σ : MS) (a60 : Int32 × MS) : Option ((Int32 × MS) ⊕ (Int32 × MS)) := (if (20 : Int32) ≤ a60.1 then ((ltM (mu a60.2 171 9 ((a60.2 171 9) + (20 : Int32))) (fun s114 => some ((s114 171 9), s114)))).map Sum.inr else (if inb (a60.1 / (4 : Int32)) 5 then (if inb ((a60.2 171 9) + a60.1) 400 then ltM (mu a60.2 177 (ix ((a60.2 171 9) + a60.1)) (b2b (b2b (shrI (a60.2 178 (ix (a60.1 / (4 : Int32)))) ((24 : Int32) - ((8 : Int32) * (remI a60.1 (4 : Int32)))))))) (fun s99 => some (.inl ((a60.1 + (1 : Int32)), s99))) else none) else none))
def f_X12_feed (n : Nat) (p1 : Int32) (p2 : Int32) (p3 : Int32) (p4 : Int32) (p5 : Int32) (σ : MS) : Option (Int32 × MS) := (ltM (mu σ 171 0 (0 : Int32)) (fun s2 => (if ((s2 171 9) + (20 : Int32)) ≤ (400 : Int32) then (ltM (mu s2 178 0 p1) (fun s26 => (ltM (mu s26 178 1 p2) (fun s33 => (ltM (mu s33 178 2 p3) (fun s40 => (ltM (mu s40 178 3 p4) (fun s48 => (ltM (mu s48 178 4 p5) (fun s56 => itr (L_X12_feed_60 n  σ) n ((0 : Int32), s56))))))))))) else some ((-1 : Int32), s2))))
set_option maxRecDepth 20000 in
set_option maxHeartbeats 2000000 in
theorem c_X12_feed (w : TG) (n : Nat) (p1 : Int32) (p2 : Int32) (p3 : Int32) (p4 : Int32) (p5 : Int32) (σ : MS) : MC m_X12_feed w [.ref (wB w + 171), .int p1, .int p2, .int p3, .int p4, .int p5] σ (f_X12_feed n p1 p2 p3 p4 p5 σ) := by
  refine V_meth (by decide +kernel) (Nat.le_of_ble_eq_true rfl) (by intro v hv; simp only [List.mem_cons, List.not_mem_nil, or_false] at hv; rcases hv with rfl | rfl | rfl | rfl | rfl | rfl <;> rfl) (fun g x => ?_)
  show VV m_X12_feed w g 0 0 (QM m_X12_feed w g x) (fun b : Int32 × MS => b = x) 0 [some (.ref (wB w + 171)), some (.int p1), some (.int p2), some (.int p3), some (.int p4), some (.int p5), none] [] σ (f_X12_feed n p1 p2 p3 p4 p5 σ)
  have hL60 : ∀  (n0 : Nat) (a : Int32 × MS), VV m_X12_feed w g 0 0 (QM m_X12_feed w g x) (fun b : Int32 × MS => b = x) 60 [some (.ref (wB w + 171)), none, none, none, none, none, some (.int a.1)] [] a.2 (itr (L_X12_feed_60 n  σ) n0 a) := by
    refine V_itr (vf := fun a : Int32 × MS => [some (.ref (wB w + 171)), none, none, none, none, none, some (.int a.1)]) (sf := fun a : Int32 × MS => a.2) (fun κ60 b60 r60 a60 => ?_)
    obtain ⟨a60_1, a60_2⟩ := a60
    show VV m_X12_feed w g 0 0 (QM m_X12_feed w g x) κ60 60 [some (.ref (wB w + 171)), none, none, none, none, none, some (.int a60_1)] [] a60_2 (L_X12_feed_60 n  σ (a60_1, a60_2))
    refine V_iload (pc := 60) dX12_feed_60 rfl ?_
    refine V_bipush (pc := 62) dX12_feed_62 bp_20 ?_
    refine V_icmp_ge (pc := 64) (tgt := 106) dX12_feed_64 (by decide +kernel) ?_ ?_
    · refine V_exit r60 ?_
      refine V_aload_n (pc := 106) dX12_feed_106 rfl rfl ?_
      refine V_dup (pc := 107) dX12_feed_107 rfl ?_
      refine V_geti (pc := 108) fk_X12_84 rfl dX12_feed_108 kc_171 rf_12_9_171 ?_
      refine V_bipush (pc := 111) dX12_feed_111 bp_20 ?_
      refine V_iadd (pc := 113) dX12_feed_113 ?_
      refine V_puti (pc := 114) fp_X12_84 rfl dX12_feed_114 kc_171 rf_12_9_171 (fun s114 => ?_)
      refine V_aload_n (pc := 117) dX12_feed_117 rfl rfl ?_
      refine V_geti (pc := 118) fk_X12_84 rfl dX12_feed_118 kc_171 rf_12_9_171 ?_
      exact V_ireti (pc := 121) dX12_feed_121 rfl (hk := fun h => h)
    · refine V_aload_n (pc := 67) dX12_feed_67 rfl rfl ?_
      refine V_getr (pc := 68) (t := 177) fk_X12_29 rfl dX12_feed_68 kc_171 rf_12_8_171 ?_
      refine V_aload_n (pc := 71) dX12_feed_71 rfl rfl ?_
      refine V_geti (pc := 72) fk_X12_84 rfl dX12_feed_72 kc_171 rf_12_9_171 ?_
      refine V_iload (pc := 75) dX12_feed_75 rfl ?_
      refine V_iadd (pc := 77) dX12_feed_77 ?_
      refine V_aload_n (pc := 78) dX12_feed_78 rfl rfl ?_
      refine V_getr (pc := 79) (t := 178) fk_X12_36 rfl dX12_feed_79 kc_171 rf_12_15_171 ?_
      refine V_iload (pc := 82) dX12_feed_82 rfl ?_
      refine V_iconst (pc := 84) dX12_feed_84 ic_4 ?_
      refine V_idiv (pc := 85) dX12_feed_85 (by decide +kernel) ?_
      refine V_iald (pc := 86) (n := 5) dX12_feed_86 kc_178 lc_178 ?_
      refine V_bipush (pc := 87) dX12_feed_87 bp_24 ?_
      refine V_bipush (pc := 89) dX12_feed_89 bp_8 ?_
      refine V_iload (pc := 91) dX12_feed_91 rfl ?_
      refine V_iconst (pc := 93) dX12_feed_93 ic_4 ?_
      refine V_irem (pc := 94) dX12_feed_94 (by decide +kernel) ?_
      refine V_imul (pc := 95) dX12_feed_95 ?_
      refine V_isub (pc := 96) dX12_feed_96 ?_
      refine V_ishr (pc := 97) dX12_feed_97 ?_
      refine V_i2b (pc := 98) dX12_feed_98 ?_
      refine V_bast (pc := 99) (n := 400) dX12_feed_99 kc_177 lc_177 (fun s99 => ?_)
      refine V_iincC (pc := 100) (vs' := [some (.ref (wB w + 171)), none, none, none, none, none, some (.int (a60_1 + (1 : Int32)))]) dX12_feed_100 (Nat.le_of_ble_eq_true rfl) rfl ic_1 rfl ?_
      refine V_goto (pc := 103) (tgt := 60) dX12_feed_103 (by decide +kernel) ?_
      exact V_back (b60 ((a60_1 + (1 : Int32)), s99))
  refine V_aload_n (pc := 0) dX12_feed_0 rfl rfl ?_
  refine V_iconst (pc := 1) dX12_feed_1 ic_0 ?_
  refine V_puti (pc := 2) fp_X12_3 rfl dX12_feed_2 kc_171 rf_12_0_171 (fun s2 => ?_)
  refine V_aload_n (pc := 5) dX12_feed_5 rfl rfl ?_
  refine V_geti (pc := 6) fk_X12_84 rfl dX12_feed_6 kc_171 rf_12_9_171 ?_
  refine V_bipush (pc := 9) dX12_feed_9 bp_20 ?_
  refine V_iadd (pc := 11) dX12_feed_11 ?_
  refine V_sipush (pc := 12) dX12_feed_12 sp_400 ?_
  refine V_icmp_le (pc := 15) (tgt := 20) dX12_feed_15 (by decide +kernel) ?_ ?_
  · refine V_aload_n (pc := 20) dX12_feed_20 rfl rfl ?_
    refine V_getr (pc := 21) (t := 178) fk_X12_36 rfl dX12_feed_21 kc_171 rf_12_15_171 ?_
    refine V_iconst (pc := 24) dX12_feed_24 ic_0 ?_
    refine V_iload_n (pc := 25) dX12_feed_25 rfl rfl ?_
    refine V_iastC (pc := 26) (n := 5) dX12_feed_26 kc_178 lc_178 inb_0_5 (fun s26 => ?_)
    refine V_aload_n (pc := 27) dX12_feed_27 rfl rfl ?_
    refine V_getr (pc := 28) (t := 178) fk_X12_36 rfl dX12_feed_28 kc_171 rf_12_15_171 ?_
    refine V_iconst (pc := 31) dX12_feed_31 ic_1 ?_
    refine V_iload_n (pc := 32) dX12_feed_32 rfl rfl ?_
    refine V_iastC (pc := 33) (n := 5) dX12_feed_33 kc_178 lc_178 inb_1_5 (fun s33 => ?_)
    refine V_aload_n (pc := 34) dX12_feed_34 rfl rfl ?_
    refine V_getr (pc := 35) (t := 178) fk_X12_36 rfl dX12_feed_35 kc_171 rf_12_15_171 ?_
    refine V_iconst (pc := 38) dX12_feed_38 ic_2 ?_
    refine V_iload_n (pc := 39) dX12_feed_39 rfl rfl ?_
    refine V_iastC (pc := 40) (n := 5) dX12_feed_40 kc_178 lc_178 inb_2_5 (fun s40 => ?_)
    refine V_aload_n (pc := 41) dX12_feed_41 rfl rfl ?_
    refine V_getr (pc := 42) (t := 178) fk_X12_36 rfl dX12_feed_42 kc_171 rf_12_15_171 ?_
    refine V_iconst (pc := 45) dX12_feed_45 ic_3 ?_
    refine V_iload (pc := 46) dX12_feed_46 rfl ?_
    refine V_iastC (pc := 48) (n := 5) dX12_feed_48 kc_178 lc_178 inb_3_5 (fun s48 => ?_)
    refine V_aload_n (pc := 49) dX12_feed_49 rfl rfl ?_
    refine V_getr (pc := 50) (t := 178) fk_X12_36 rfl dX12_feed_50 kc_171 rf_12_15_171 ?_
    refine V_iconst (pc := 53) dX12_feed_53 ic_4 ?_
    refine V_iload (pc := 54) dX12_feed_54 rfl ?_
    refine V_iastC (pc := 56) (n := 5) dX12_feed_56 kc_178 lc_178 inb_4_5 (fun s56 => ?_)
    refine V_iconst (pc := 57) dX12_feed_57 ic_0 ?_
    refine V_istore (pc := 58) (vs' := [some (.ref (wB w + 171)), some (.int p1), some (.int p2), some (.int p3), some (.int p4), some (.int p5), some (.int (0 : Int32))]) dX12_feed_58 (Nat.le_of_ble_eq_true rfl) (Nat.le_of_ble_eq_true rfl) rfl ?_
    refine V_sub (vs' := [some (.ref (wB w + 171)), none, none, none, none, none, some (.int (0 : Int32))]) (show vless _ _ from ⟨rfl, ⟨rfl, trivial⟩⟩) rfl ?_
    exact hL60 n ((0 : Int32), s56)
  · refine V_iconst (pc := 18) dX12_feed_18 ic_m1 ?_
    exact V_ireti (pc := 19) dX12_feed_19 rfl (hk := fun h => h)
def J_X12_end_17  (σ : MS) : Option (Int32 × MS) := some ((0 : Int32), σ)
def f_X12_end (p1 : Int32) (σ : MS) : Option (Int32 × MS) := (ltM (mu σ 171 0 (0 : Int32)) (fun s2 => (if p1 < 0 then J_X12_end_17  s2 else (if p1 ≤ (s2 171 9) then (ltM (mu s2 171 9 p1) (fun s21 => some ((1 : Int32), s21))) else J_X12_end_17  s2))))
set_option maxRecDepth 20000 in
set_option maxHeartbeats 2000000 in
theorem c_X12_end (w : TG) (p1 : Int32) (σ : MS) : MC m_X12_end w [.ref (wB w + 171), .int p1] σ (f_X12_end p1 σ) := by
  refine V_meth (by decide +kernel) (Nat.le_of_ble_eq_true rfl) (by intro v hv; simp only [List.mem_cons, List.not_mem_nil, or_false] at hv; rcases hv with rfl | rfl <;> rfl) (fun g x => ?_)
  show VV m_X12_end w g 0 0 (QM m_X12_end w g x) (fun b : Int32 × MS => b = x) 0 [some (.ref (wB w + 171)), some (.int p1)] [] σ (f_X12_end p1 σ)
  have hJ17 : ∀ (σ : MS), VV m_X12_end w g 0 0 (QM m_X12_end w g x) (fun b : Int32 × MS => b = x) 17 [none, none] [] σ (J_X12_end_17  σ) := by
    intro σ
    refine V_iconst (pc := 17) dX12_end_17 ic_0 ?_
    exact V_iretz (pc := 18) dX12_end_18 rfl rfl (hk := fun h => h)
  refine V_aload_n (pc := 0) dX12_end_0 rfl rfl ?_
  refine V_iconst (pc := 1) dX12_end_1 ic_0 ?_
  refine V_puti (pc := 2) fp_X12_3 rfl dX12_end_2 kc_171 rf_12_0_171 (fun s2 => ?_)
  refine V_iload_n (pc := 5) dX12_end_5 rfl rfl ?_
  refine V_if_lt (pc := 6) (tgt := 17) dX12_end_6 (by decide +kernel) ?_ ?_
  · refine V_sub (vs' := [none, none]) (show vless _ _ from trivial) rfl ?_
    exact hJ17 s2
  · refine V_iload_n (pc := 9) dX12_end_9 rfl rfl ?_
    refine V_aload_n (pc := 10) dX12_end_10 rfl rfl ?_
    refine V_geti (pc := 11) fk_X12_84 rfl dX12_end_11 kc_171 rf_12_9_171 ?_
    refine V_icmp_le (pc := 14) (tgt := 19) dX12_end_14 (by decide +kernel) ?_ ?_
    · refine V_aload_n (pc := 19) dX12_end_19 rfl rfl ?_
      refine V_iload_n (pc := 20) dX12_end_20 rfl rfl ?_
      refine V_puti (pc := 21) fp_X12_84 rfl dX12_end_21 kc_171 rf_12_9_171 (fun s21 => ?_)
      refine V_iconst (pc := 24) dX12_end_24 ic_1 ?_
      exact V_iretz (pc := 25) dX12_end_25 rfl rfl (hk := fun h => h)
    · refine V_sub (vs' := [none, none]) (show vless _ _ from trivial) rfl ?_
      exact hJ17 s2
def J_X12_isAt_42 (t0 : Int32) (σ : MS) : Option (Int32) := (if t0 = 0 ∨ t0 = 1 then some t0 else none)
def J_X12_isAt_41  (σ : MS) : Option (Int32) := J_X12_isAt_42 (0 : Int32) σ
def f_X12_isAt (p1 : Int32) (p2 : Int32) (σ : MS) : Option (Int32) := (if (σ 171 11) ≤ (σ 171 10) then J_X12_isAt_41  σ else (if inb (σ 171 10) 400 then (if (σ 177 (ix (σ 171 10))) < p1 then J_X12_isAt_41  σ else (if inb (σ 171 10) 400 then (if p2 < (σ 177 (ix (σ 171 10))) then J_X12_isAt_41  σ else J_X12_isAt_42 (1 : Int32) σ) else none)) else none))
set_option maxRecDepth 20000 in
set_option maxHeartbeats 2000000 in
theorem c_X12_isAt (w : TG) (p1 : Int32) (p2 : Int32) (σ : MS) : MC m_X12_isAt w [.ref (wB w + 171), .int p1, .int p2] σ ((f_X12_isAt p1 p2 σ).map (fun r => (r, σ))) := by
  refine V_methp (by decide +kernel) (Nat.le_of_ble_eq_true rfl) (by intro v hv; simp only [List.mem_cons, List.not_mem_nil, or_false] at hv; rcases hv with rfl | rfl | rfl <;> rfl) (fun g x => ?_)
  show VV m_X12_isAt w g 0 0 (QM m_X12_isAt w g x) (fun b : Int32 => (b, σ) = x) 0 [some (.ref (wB w + 171)), some (.int p1), some (.int p2)] [] σ (f_X12_isAt p1 p2 σ)
  have hJ42 : ∀ (t0 : Int32), VV m_X12_isAt w g 0 0 (QM m_X12_isAt w g x) (fun b : Int32 => (b, σ) = x) 42 [none, none, none] [.int t0] σ (J_X12_isAt_42 t0 σ) := by
    intro t0
    exact V_iretZ (pc := 42) dX12_isAt_42 rfl (hk := fun h => h)
  have hJ41 : ∀ (_ : Unit), VV m_X12_isAt w g 0 0 (QM m_X12_isAt w g x) (fun b : Int32 => (b, σ) = x) 41 [none, none, none] [] σ (J_X12_isAt_41  σ) := by
    intro _
    refine V_iconst (pc := 41) dX12_isAt_41 ic_0 ?_
    exact hJ42 (0 : Int32)
  refine V_aload_n (pc := 0) dX12_isAt_0 rfl rfl ?_
  refine V_geti (pc := 1) fk_X12_87 rfl dX12_isAt_1 kc_171 rf_12_10_171 ?_
  refine V_aload_n (pc := 4) dX12_isAt_4 rfl rfl ?_
  refine V_geti (pc := 5) fk_X12_90 rfl dX12_isAt_5 kc_171 rf_12_11_171 ?_
  refine V_icmp_ge (pc := 8) (tgt := 41) dX12_isAt_8 (by decide +kernel) ?_ ?_
  · refine V_sub (vs' := [none, none, none]) (show vless _ _ from trivial) rfl ?_
    exact hJ41 ()
  · refine V_aload_n (pc := 11) dX12_isAt_11 rfl rfl ?_
    refine V_getr (pc := 12) (t := 177) fk_X12_29 rfl dX12_isAt_12 kc_171 rf_12_8_171 ?_
    refine V_aload_n (pc := 15) dX12_isAt_15 rfl rfl ?_
    refine V_geti (pc := 16) fk_X12_87 rfl dX12_isAt_16 kc_171 rf_12_10_171 ?_
    refine V_bald (pc := 19) (n := 400) dX12_isAt_19 kc_177 lc_177 ?_
    refine V_iload_n (pc := 20) dX12_isAt_20 rfl rfl ?_
    refine V_icmp_lt (pc := 21) (tgt := 41) dX12_isAt_21 (by decide +kernel) ?_ ?_
    · refine V_sub (vs' := [none, none, none]) (show vless _ _ from trivial) rfl ?_
      exact hJ41 ()
    · refine V_aload_n (pc := 24) dX12_isAt_24 rfl rfl ?_
      refine V_getr (pc := 25) (t := 177) fk_X12_29 rfl dX12_isAt_25 kc_171 rf_12_8_171 ?_
      refine V_aload_n (pc := 28) dX12_isAt_28 rfl rfl ?_
      refine V_geti (pc := 29) fk_X12_87 rfl dX12_isAt_29 kc_171 rf_12_10_171 ?_
      refine V_bald (pc := 32) (n := 400) dX12_isAt_32 kc_177 lc_177 ?_
      refine V_iload_n (pc := 33) dX12_isAt_33 rfl rfl ?_
      refine V_icmp_gt (pc := 34) (tgt := 41) dX12_isAt_34 (by decide +kernel) ?_ ?_
      · refine V_sub (vs' := [none, none, none]) (show vless _ _ from trivial) rfl ?_
        exact hJ41 ()
      · refine V_iconst (pc := 37) dX12_isAt_37 ic_1 ?_
        refine V_goto (pc := 38) (tgt := 42) dX12_isAt_38 (by decide +kernel) ?_
        refine V_sub (vs' := [none, none, none]) (show vless _ _ from trivial) rfl ?_
        exact hJ42 (1 : Int32)
def L_X12_blanks_0 (n : Nat)  (σ : MS) (a0 : MS) : Option ((MS) ⊕ (Int32 × MS)) := ((f_X12_isAt (32 : Int32) (32 : Int32) a0).bind (fun q5 => (if q5 = 0 then ((ltM (mu a0 171 12 (a0 171 10)) (fun s29 => some (0, s29)))).map Sum.inr else (ltM (mu a0 171 10 ((a0 171 10) + (1 : Int32))) (fun s18 => some (.inl (s18)))))))
def f_X12_blanks (n : Nat)  (σ : MS) : Option (Int32 × MS) := itr (L_X12_blanks_0 n  σ) n (σ)
set_option maxRecDepth 20000 in
set_option maxHeartbeats 2000000 in
theorem c_X12_blanks (w : TG) (n : Nat)  (σ : MS) : MC m_X12_blanks w [.ref (wB w + 171)] σ (f_X12_blanks n  σ) := by
  refine V_meth (by decide +kernel) (Nat.le_of_ble_eq_true rfl) (by intro v hv; simp only [List.mem_cons, List.not_mem_nil, or_false] at hv; subst hv; rfl) (fun g x => ?_)
  show VV m_X12_blanks w g 0 0 (QM m_X12_blanks w g x) (fun b : Int32 × MS => b = x) 0 [some (.ref (wB w + 171))] [] σ (f_X12_blanks n  σ)
  have hL0 : ∀  (n0 : Nat) (a : MS), VV m_X12_blanks w g 0 0 (QM m_X12_blanks w g x) (fun b : Int32 × MS => b = x) 0 [some (.ref (wB w + 171))] [] a (itr (L_X12_blanks_0 n  σ) n0 a) := by
    refine V_itr (vf := fun a : MS => [some (.ref (wB w + 171))]) (sf := fun a : MS => a) (fun κ0 b0 r0 a0 => ?_)
    show VV m_X12_blanks w g 0 0 (QM m_X12_blanks w g x) κ0 0 [some (.ref (wB w + 171))] [] a0 (L_X12_blanks_0 n  σ a0)
    refine V_aload_n (pc := 0) dX12_blanks_0 rfl rfl ?_
    refine V_bipush (pc := 1) dX12_blanks_1 bp_32 ?_
    refine V_bipush (pc := 3) dX12_blanks_3 bp_32 ?_
    refine V_callVpi (pc := 5) (As := [.int (32 : Int32), .int (32 : Int32)]) (rest := []) (c_X12_isAt w (32 : Int32) (32 : Int32) a0) cw_X12_93 rfl rfl dX12_blanks_5 kc_171 ci_12 ⟨Nat.le_of_ble_eq_true rfl, Nat.le_of_ble_eq_true rfl⟩ rfl rfl (Nat.le_of_ble_eq_true rfl) (Nat.le_of_ble_eq_true rfl) (Nat.le_of_ble_eq_true rfl) rfl (fun q5 => ?_)
    refine V_if_eq (pc := 8) (tgt := 24) dX12_blanks_8 (by decide +kernel) ?_ ?_
    · refine V_exit r0 ?_
      refine V_aload_n (pc := 24) dX12_blanks_24 rfl rfl ?_
      refine V_aload_n (pc := 25) dX12_blanks_25 rfl rfl ?_
      refine V_geti (pc := 26) fk_X12_87 rfl dX12_blanks_26 kc_171 rf_12_10_171 ?_
      refine V_puti (pc := 29) fp_X12_96 rfl dX12_blanks_29 kc_171 rf_12_12_171 (fun s29 => ?_)
      exact V_ret (pc := 32) dX12_blanks_32 rfl (hk := fun h => h)
    · refine V_aload_n (pc := 11) dX12_blanks_11 rfl rfl ?_
      refine V_dup (pc := 12) dX12_blanks_12 rfl ?_
      refine V_geti (pc := 13) fk_X12_87 rfl dX12_blanks_13 kc_171 rf_12_10_171 ?_
      refine V_iconst (pc := 16) dX12_blanks_16 ic_1 ?_
      refine V_iadd (pc := 17) dX12_blanks_17 ?_
      refine V_puti (pc := 18) fp_X12_87 rfl dX12_blanks_18 kc_171 rf_12_10_171 (fun s18 => ?_)
      refine V_goto (pc := 21) (tgt := 0) dX12_blanks_21 (by decide +kernel) ?_
      exact V_back (b0 (s18))
  exact hL0 n (σ)
def L_X12_letters_4 (n : Nat)  (σ : MS) (a4 : MS) : Option ((MS) ⊕ (Int32 × MS)) := ((f_X12_isAt (97 : Int32) (122 : Int32) a4).bind (fun q9 => (if q9 = 0 then (some (0, a4)).map Sum.inr else (ltM (mu a4 171 10 ((a4 171 10) + (1 : Int32))) (fun s22 => some (.inl (s22)))))))
def f_X12_letters (n : Nat)  (σ : MS) : Option (Int32 × MS) := ((f_X12_blanks n  σ).bind (fun q1 => itr (L_X12_letters_4 n  σ) n (q1.2)))
set_option maxRecDepth 20000 in
set_option maxHeartbeats 2000000 in
theorem c_X12_letters (w : TG) (n : Nat)  (σ : MS) : MC m_X12_letters w [.ref (wB w + 171)] σ (f_X12_letters n  σ) := by
  refine V_meth (by decide +kernel) (Nat.le_of_ble_eq_true rfl) (by intro v hv; simp only [List.mem_cons, List.not_mem_nil, or_false] at hv; subst hv; rfl) (fun g x => ?_)
  show VV m_X12_letters w g 0 0 (QM m_X12_letters w g x) (fun b : Int32 × MS => b = x) 0 [some (.ref (wB w + 171))] [] σ (f_X12_letters n  σ)
  have hL4 : ∀  (n0 : Nat) (a : MS), VV m_X12_letters w g 0 0 (QM m_X12_letters w g x) (fun b : Int32 × MS => b = x) 4 [some (.ref (wB w + 171))] [] a (itr (L_X12_letters_4 n  σ) n0 a) := by
    refine V_itr (vf := fun a : MS => [some (.ref (wB w + 171))]) (sf := fun a : MS => a) (fun κ4 b4 r4 a4 => ?_)
    show VV m_X12_letters w g 0 0 (QM m_X12_letters w g x) κ4 4 [some (.ref (wB w + 171))] [] a4 (L_X12_letters_4 n  σ a4)
    refine V_aload_n (pc := 4) dX12_letters_4 rfl rfl ?_
    refine V_bipush (pc := 5) dX12_letters_5 bp_97 ?_
    refine V_bipush (pc := 7) dX12_letters_7 bp_122 ?_
    refine V_callVpi (pc := 9) (As := [.int (97 : Int32), .int (122 : Int32)]) (rest := []) (c_X12_isAt w (97 : Int32) (122 : Int32) a4) cw_X12_93 rfl rfl dX12_letters_9 kc_171 ci_12 ⟨Nat.le_of_ble_eq_true rfl, Nat.le_of_ble_eq_true rfl⟩ rfl rfl (Nat.le_of_ble_eq_true rfl) (Nat.le_of_ble_eq_true rfl) (Nat.le_of_ble_eq_true rfl) rfl (fun q9 => ?_)
    refine V_if_eq (pc := 12) (tgt := 28) dX12_letters_12 (by decide +kernel) ?_ ?_
    · refine V_exit r4 ?_
      exact V_ret (pc := 28) dX12_letters_28 rfl (hk := fun h => h)
    · refine V_aload_n (pc := 15) dX12_letters_15 rfl rfl ?_
      refine V_dup (pc := 16) dX12_letters_16 rfl ?_
      refine V_geti (pc := 17) fk_X12_87 rfl dX12_letters_17 kc_171 rf_12_10_171 ?_
      refine V_iconst (pc := 20) dX12_letters_20 ic_1 ?_
      refine V_iadd (pc := 21) dX12_letters_21 ?_
      refine V_puti (pc := 22) fp_X12_87 rfl dX12_letters_22 kc_171 rf_12_10_171 (fun s22 => ?_)
      refine V_goto (pc := 25) (tgt := 4) dX12_letters_25 (by decide +kernel) ?_
      exact V_back (b4 (s22))
  refine V_aload_n (pc := 0) dX12_letters_0 rfl rfl ?_
  refine V_callVv (pc := 1) (As := []) (rest := []) (c_X12_blanks w n  σ) cw_X12_99 rfl rfl dX12_letters_1 kc_171 ci_12 ⟨Nat.le_of_ble_eq_true rfl, Nat.le_of_ble_eq_true rfl⟩ rfl rfl (Nat.le_of_ble_eq_true rfl) (Nat.le_of_ble_eq_true rfl) (Nat.le_of_ble_eq_true rfl) rfl (fun q1 => ?_)
  exact hL4 n (q1.2)
def J_X12_isWord_67 (n : Nat) (z1 : Nat) (v2 : Int32) (σ : MS) : Option (Int32) := (if v2 = 0 ∨ v2 = 1 then some v2 else none)
def J_X12_isWord_60 (n : Nat) (z1 : Nat) (v3 : Int32) (t0 : Int32) (σ : MS) : Option ((Int32 × Int32) ⊕ (Int32)) := some (.inl (t0, (v3 + (1 : Int32))))
def L_X12_isWord_24 (n : Nat) (z1 : Nat) (σ : MS) (a24 : Int32 × Int32) : Option ((Int32 × Int32) ⊕ (Int32)) := (if a24.1 = 0 then (J_X12_isWord_67 n z1 a24.1 σ).map Sum.inr else ((fs_length z1).bind (fun q30 => (if q30 ≤ a24.2 then (J_X12_isWord_67 n z1 a24.1 σ).map Sum.inr else (if inb ((σ 171 12) + a24.2) 400 then ((fs_charAt z1 a24.2).bind (fun q49 => (if (σ 177 (ix ((σ 171 12) + a24.2))) = q49 then J_X12_isWord_60 n z1 a24.2 (1 : Int32) σ else J_X12_isWord_60 n z1 a24.2 (0 : Int32) σ))) else none)))))
def J_X12_isWord_21 (n : Nat) (z1 : Nat) (t0 : Int32) (σ : MS) : Option (Int32) := itr (L_X12_isWord_24 n z1 σ) n (t0, (0 : Int32))
def f_X12_isWord (n : Nat) (z1 : Nat) (σ : MS) : Option (Int32) := ((fs_length z1).bind (fun q10 => (if ((σ 171 10) - (σ 171 12)) = q10 then J_X12_isWord_21 n z1 (1 : Int32) σ else J_X12_isWord_21 n z1 (0 : Int32) σ)))
set_option maxRecDepth 20000 in
set_option maxHeartbeats 2000000 in
theorem c_X12_isWord (w : TG) (n : Nat) (z1 : Nat) (k_z1 : z1 < 33) (σ : MS) : MC m_X12_isWord w [.ref (wB w + 171), .ref (wS w z1)] σ ((f_X12_isWord n z1 σ).map (fun r => (r, σ))) := by
  refine V_methp (by decide +kernel) (Nat.le_of_ble_eq_true rfl) (by intro v hv; simp only [List.mem_cons, List.not_mem_nil, or_false] at hv; rcases hv with rfl | rfl <;> rfl) (fun g x => ?_)
  show VV m_X12_isWord w g 0 0 (QM m_X12_isWord w g x) (fun b : Int32 => (b, σ) = x) 0 [some (.ref (wB w + 171)), some (.ref (wS w z1)), none, none] [] σ (f_X12_isWord n z1 σ)
  have hJ67 : ∀ (v2 : Int32), VV m_X12_isWord w g 0 0 (QM m_X12_isWord w g x) (fun b : Int32 => (b, σ) = x) 67 [none, none, some (.int v2), none] [] σ (J_X12_isWord_67 n z1 v2 σ) := by
    intro v2
    refine V_iload_n (pc := 67) dX12_isWord_67 rfl rfl ?_
    exact V_iretZ (pc := 68) dX12_isWord_68 rfl (hk := fun h => h)
  have hL24 : ∀  (n0 : Nat) (a : Int32 × Int32), VV m_X12_isWord w g 0 0 (QM m_X12_isWord w g x) (fun b : Int32 => (b, σ) = x) 24 [some (.ref (wB w + 171)), some (.ref (wS w z1)), some (.int a.1), some (.int a.2)] [] σ (itr (L_X12_isWord_24 n z1 σ) n0 a) := by
    refine V_itr (vf := fun a : Int32 × Int32 => [some (.ref (wB w + 171)), some (.ref (wS w z1)), some (.int a.1), some (.int a.2)]) (sf := fun a : Int32 × Int32 => σ) (fun κ24 b24 r24 a24 => ?_)
    obtain ⟨a24_1, a24_2⟩ := a24
    show VV m_X12_isWord w g 0 0 (QM m_X12_isWord w g x) κ24 24 [some (.ref (wB w + 171)), some (.ref (wS w z1)), some (.int a24_1), some (.int a24_2)] [] σ (L_X12_isWord_24 n z1 σ (a24_1, a24_2))
    have hJ60 : ∀ (v3 : Int32) (t0 : Int32), VV m_X12_isWord w g 0 0 (QM m_X12_isWord w g x) κ24 60 [some (.ref (wB w + 171)), some (.ref (wS w z1)), none, some (.int v3)] [.int t0] σ (J_X12_isWord_60 n z1 v3 t0 σ) := by
      intro v3 t0
      refine V_istore_n (pc := 60) (vs' := [some (.ref (wB w + 171)), some (.ref (wS w z1)), some (.int t0), some (.int v3)]) dX12_isWord_60 rfl (Nat.le_of_ble_eq_true rfl) (Nat.le_of_ble_eq_true rfl) rfl ?_
      refine V_iincC (pc := 61) (vs' := [some (.ref (wB w + 171)), some (.ref (wS w z1)), some (.int t0), some (.int (v3 + (1 : Int32)))]) dX12_isWord_61 (Nat.le_of_ble_eq_true rfl) rfl ic_1 rfl ?_
      refine V_goto (pc := 64) (tgt := 24) dX12_isWord_64 (by decide +kernel) ?_
      exact V_back (b24 (t0, (v3 + (1 : Int32))))
    refine V_iload_n (pc := 24) dX12_isWord_24 rfl rfl ?_
    refine V_if_eq (pc := 25) (tgt := 67) dX12_isWord_25 (by decide +kernel) ?_ ?_
    · refine V_exit r24 ?_
      refine V_sub (vs' := [none, none, some (.int a24_1), none]) (show vless _ _ from ⟨rfl, trivial⟩) rfl ?_
      exact hJ67 a24_1
    · refine V_iload_n (pc := 28) dX12_isWord_28 rfl rfl ?_
      refine V_aload_n (pc := 29) dX12_isWord_29 rfl rfl ?_
      refine V_callT (pc := 30) (As := []) (rest := [.int a24_2]) k_z1 rfl (cs_length w z1 k_z1 σ) cw_X12_102 rfl rfl dX12_isWord_30 ⟨Nat.le_of_ble_eq_true rfl, Nat.le_of_ble_eq_true rfl⟩ rfl rfl (Nat.le_of_ble_eq_true rfl) (Nat.le_of_ble_eq_true rfl) (Nat.le_of_ble_eq_true rfl) rfl (fun q30 => ?_)
      refine V_icmp_ge (pc := 33) (tgt := 67) dX12_isWord_33 (by decide +kernel) ?_ ?_
      · refine V_exit r24 ?_
        refine V_sub (vs' := [none, none, some (.int a24_1), none]) (show vless _ _ from ⟨rfl, trivial⟩) rfl ?_
        exact hJ67 a24_1
      · refine V_aload_n (pc := 36) dX12_isWord_36 rfl rfl ?_
        refine V_getr (pc := 37) (t := 177) fk_X12_29 rfl dX12_isWord_37 kc_171 rf_12_8_171 ?_
        refine V_aload_n (pc := 40) dX12_isWord_40 rfl rfl ?_
        refine V_geti (pc := 41) fk_X12_96 rfl dX12_isWord_41 kc_171 rf_12_12_171 ?_
        refine V_iload_n (pc := 44) dX12_isWord_44 rfl rfl ?_
        refine V_iadd (pc := 45) dX12_isWord_45 ?_
        refine V_bald (pc := 46) (n := 400) dX12_isWord_46 kc_177 lc_177 ?_
        refine V_aload_n (pc := 47) dX12_isWord_47 rfl rfl ?_
        refine V_iload_n (pc := 48) dX12_isWord_48 rfl rfl ?_
        refine V_callT (pc := 49) (As := [.int a24_2]) (rest := [.int (σ 177 (ix ((σ 171 12) + a24_2)))]) k_z1 rfl (cs_charAt w z1 a24_2 k_z1 σ) cw_X12_107 rfl rfl dX12_isWord_49 ⟨Nat.le_of_ble_eq_true rfl, Nat.le_of_ble_eq_true rfl⟩ rfl rfl (Nat.le_of_ble_eq_true rfl) (Nat.le_of_ble_eq_true rfl) (Nat.le_of_ble_eq_true rfl) rfl (fun q49 => ?_)
        refine V_icmp_ne (pc := 52) (tgt := 59) dX12_isWord_52 (by decide +kernel) ?_ ?_
        · refine V_iconst (pc := 59) dX12_isWord_59 ic_0 ?_
          refine V_sub (vs' := [some (.ref (wB w + 171)), some (.ref (wS w z1)), none, some (.int a24_2)]) (show vless _ _ from ⟨rfl, ⟨rfl, ⟨rfl, trivial⟩⟩⟩) rfl ?_
          exact hJ60 a24_2 (0 : Int32)
        · refine V_iconst (pc := 55) dX12_isWord_55 ic_1 ?_
          refine V_goto (pc := 56) (tgt := 60) dX12_isWord_56 (by decide +kernel) ?_
          refine V_sub (vs' := [some (.ref (wB w + 171)), some (.ref (wS w z1)), none, some (.int a24_2)]) (show vless _ _ from ⟨rfl, ⟨rfl, ⟨rfl, trivial⟩⟩⟩) rfl ?_
          exact hJ60 a24_2 (1 : Int32)
  have hJ21 : ∀ (t0 : Int32), VV m_X12_isWord w g 0 0 (QM m_X12_isWord w g x) (fun b : Int32 => (b, σ) = x) 21 [some (.ref (wB w + 171)), some (.ref (wS w z1)), none, none] [.int t0] σ (J_X12_isWord_21 n z1 t0 σ) := by
    intro t0
    refine V_istore_n (pc := 21) (vs' := [some (.ref (wB w + 171)), some (.ref (wS w z1)), some (.int t0), none]) dX12_isWord_21 rfl (Nat.le_of_ble_eq_true rfl) (Nat.le_of_ble_eq_true rfl) rfl ?_
    refine V_iconst (pc := 22) dX12_isWord_22 ic_0 ?_
    refine V_istore_n (pc := 23) (vs' := [some (.ref (wB w + 171)), some (.ref (wS w z1)), some (.int t0), some (.int (0 : Int32))]) dX12_isWord_23 rfl (Nat.le_of_ble_eq_true rfl) (Nat.le_of_ble_eq_true rfl) rfl ?_
    exact hL24 n (t0, (0 : Int32))
  refine V_aload_n (pc := 0) dX12_isWord_0 rfl rfl ?_
  refine V_geti (pc := 1) fk_X12_87 rfl dX12_isWord_1 kc_171 rf_12_10_171 ?_
  refine V_aload_n (pc := 4) dX12_isWord_4 rfl rfl ?_
  refine V_geti (pc := 5) fk_X12_96 rfl dX12_isWord_5 kc_171 rf_12_12_171 ?_
  refine V_isub (pc := 8) dX12_isWord_8 ?_
  refine V_aload_n (pc := 9) dX12_isWord_9 rfl rfl ?_
  refine V_callT (pc := 10) (As := []) (rest := [.int ((σ 171 10) - (σ 171 12))]) k_z1 rfl (cs_length w z1 k_z1 σ) cw_X12_102 rfl rfl dX12_isWord_10 ⟨Nat.le_of_ble_eq_true rfl, Nat.le_of_ble_eq_true rfl⟩ rfl rfl (Nat.le_of_ble_eq_true rfl) (Nat.le_of_ble_eq_true rfl) (Nat.le_of_ble_eq_true rfl) rfl (fun q10 => ?_)
  refine V_icmp_ne (pc := 13) (tgt := 20) dX12_isWord_13 (by decide +kernel) ?_ ?_
  · refine V_iconst (pc := 20) dX12_isWord_20 ic_0 ?_
    exact hJ21 (0 : Int32)
  · refine V_iconst (pc := 16) dX12_isWord_16 ic_1 ?_
    refine V_goto (pc := 17) (tgt := 21) dX12_isWord_17 (by decide +kernel) ?_
    exact hJ21 (1 : Int32)
def f_X12_passes (n : Nat) (z1 : Nat) (σ : MS) : Option (Int32 × MS) := ((f_X12_letters n  σ).bind (fun q1 => ((f_X12_isWord n z1 q1.2).bind (fun q6 => (if q6 = 0 then (ltM (mu q1.2 171 10 (q1.2 171 12)) (fun s19 => some ((0 : Int32), s19))) else some ((1 : Int32), q1.2))))))
set_option maxRecDepth 20000 in
set_option maxHeartbeats 2000000 in
theorem c_X12_passes (w : TG) (n : Nat) (z1 : Nat) (k_z1 : z1 < 33) (σ : MS) : MC m_X12_passes w [.ref (wB w + 171), .ref (wS w z1)] σ (f_X12_passes n z1 σ) := by
  refine V_meth (by decide +kernel) (Nat.le_of_ble_eq_true rfl) (by intro v hv; simp only [List.mem_cons, List.not_mem_nil, or_false] at hv; rcases hv with rfl | rfl <;> rfl) (fun g x => ?_)
  show VV m_X12_passes w g 0 0 (QM m_X12_passes w g x) (fun b : Int32 × MS => b = x) 0 [some (.ref (wB w + 171)), some (.ref (wS w z1))] [] σ (f_X12_passes n z1 σ)
  refine V_aload_n (pc := 0) dX12_passes_0 rfl rfl ?_
  refine V_callVv (pc := 1) (As := []) (rest := []) (c_X12_letters w n  σ) cw_X12_111 rfl rfl dX12_passes_1 kc_171 ci_12 ⟨Nat.le_of_ble_eq_true rfl, Nat.le_of_ble_eq_true rfl⟩ rfl rfl (Nat.le_of_ble_eq_true rfl) (Nat.le_of_ble_eq_true rfl) (Nat.le_of_ble_eq_true rfl) rfl (fun q1 => ?_)
  refine V_aload_n (pc := 4) dX12_passes_4 rfl rfl ?_
  refine V_aload_n (pc := 5) dX12_passes_5 rfl rfl ?_
  refine V_callVpi (pc := 6) (As := [.ref (wS w z1)]) (rest := []) (c_X12_isWord w n z1 k_z1 q1.2) cw_X12_114 rfl rfl dX12_passes_6 kc_171 ci_12 ⟨Nat.le_of_ble_eq_true rfl, Nat.le_of_ble_eq_true rfl⟩ rfl rfl (Nat.le_of_ble_eq_true rfl) (Nat.le_of_ble_eq_true rfl) (Nat.le_of_ble_eq_true rfl) rfl (fun q6 => ?_)
  refine V_if_eq (pc := 9) (tgt := 14) dX12_passes_9 (by decide +kernel) ?_ ?_
  · refine V_aload_n (pc := 14) dX12_passes_14 rfl rfl ?_
    refine V_aload_n (pc := 15) dX12_passes_15 rfl rfl ?_
    refine V_geti (pc := 16) fk_X12_96 rfl dX12_passes_16 kc_171 rf_12_12_171 ?_
    refine V_puti (pc := 19) fp_X12_87 rfl dX12_passes_19 kc_171 rf_12_10_171 (fun s19 => ?_)
    refine V_iconst (pc := 22) dX12_passes_22 ic_0 ?_
    exact V_iretz (pc := 23) dX12_passes_23 rfl rfl (hk := fun h => h)
  · refine V_iconst (pc := 12) dX12_passes_12 ic_1 ?_
    exact V_iretz (pc := 13) dX12_passes_13 rfl rfl (hk := fun h => h)
def f_X12_sign (n : Nat) (p1 : Int32) (σ : MS) : Option (Int32 × MS) := ((f_X12_blanks n  σ).bind (fun q1 => ((f_X12_isAt p1 p1 q1.2).bind (fun q7 => (if q7 = 0 then some ((0 : Int32), q1.2) else (ltM (mu q1.2 171 10 ((q1.2 171 10) + (1 : Int32))) (fun s22 => some ((1 : Int32), s22))))))))
set_option maxRecDepth 20000 in
set_option maxHeartbeats 2000000 in
theorem c_X12_sign (w : TG) (n : Nat) (p1 : Int32) (σ : MS) : MC m_X12_sign w [.ref (wB w + 171), .int p1] σ (f_X12_sign n p1 σ) := by
  refine V_meth (by decide +kernel) (Nat.le_of_ble_eq_true rfl) (by intro v hv; simp only [List.mem_cons, List.not_mem_nil, or_false] at hv; rcases hv with rfl | rfl <;> rfl) (fun g x => ?_)
  show VV m_X12_sign w g 0 0 (QM m_X12_sign w g x) (fun b : Int32 × MS => b = x) 0 [some (.ref (wB w + 171)), some (.int p1)] [] σ (f_X12_sign n p1 σ)
  refine V_aload_n (pc := 0) dX12_sign_0 rfl rfl ?_
  refine V_callVv (pc := 1) (As := []) (rest := []) (c_X12_blanks w n  σ) cw_X12_99 rfl rfl dX12_sign_1 kc_171 ci_12 ⟨Nat.le_of_ble_eq_true rfl, Nat.le_of_ble_eq_true rfl⟩ rfl rfl (Nat.le_of_ble_eq_true rfl) (Nat.le_of_ble_eq_true rfl) (Nat.le_of_ble_eq_true rfl) rfl (fun q1 => ?_)
  refine V_aload_n (pc := 4) dX12_sign_4 rfl rfl ?_
  refine V_iload_n (pc := 5) dX12_sign_5 rfl rfl ?_
  refine V_iload_n (pc := 6) dX12_sign_6 rfl rfl ?_
  refine V_callVpi (pc := 7) (As := [.int p1, .int p1]) (rest := []) (c_X12_isAt w p1 p1 q1.2) cw_X12_93 rfl rfl dX12_sign_7 kc_171 ci_12 ⟨Nat.le_of_ble_eq_true rfl, Nat.le_of_ble_eq_true rfl⟩ rfl rfl (Nat.le_of_ble_eq_true rfl) (Nat.le_of_ble_eq_true rfl) (Nat.le_of_ble_eq_true rfl) rfl (fun q7 => ?_)
  refine V_if_ne (pc := 10) (tgt := 15) dX12_sign_10 (by decide +kernel) ?_ ?_
  · refine V_aload_n (pc := 15) dX12_sign_15 rfl rfl ?_
    refine V_dup (pc := 16) dX12_sign_16 rfl ?_
    refine V_geti (pc := 17) fk_X12_87 rfl dX12_sign_17 kc_171 rf_12_10_171 ?_
    refine V_iconst (pc := 20) dX12_sign_20 ic_1 ?_
    refine V_iadd (pc := 21) dX12_sign_21 ?_
    refine V_puti (pc := 22) fp_X12_87 rfl dX12_sign_22 kc_171 rf_12_10_171 (fun s22 => ?_)
    refine V_iconst (pc := 25) dX12_sign_25 ic_1 ?_
    exact V_iretz (pc := 26) dX12_sign_26 rfl rfl (hk := fun h => h)
  · refine V_iconst (pc := 13) dX12_sign_13 ic_0 ?_
    exact V_iretz (pc := 14) dX12_sign_14 rfl rfl (hk := fun h => h)
def J_X12_number_104 (n : Nat) (t0 : Int32) (σ : MS) : Option (Int32 × MS) := some (t0, σ)
def J_X12_number_99 (n : Nat)  (σ : MS) : Option (Int32 × MS) := J_X12_number_104 n (-1 : Int32) σ
def J_X12_number_51 (n : Nat) (v1 : Int32) (v2 : Int32) (t0 : Int32) (σ : MS) : Option ((Int32 × MS) ⊕ (Int32 × MS)) := (ltM (mu σ 171 10 ((σ 171 10) + (1 : Int32))) (fun s59 => some (.inl (t0, s59))))
def L_X12_number_6 (n : Nat) (v1 : Int32) (v2 : Int32) (σ : MS) (a6 : Int32 × MS) : Option ((Int32 × MS) ⊕ (Int32 × MS)) := ((f_X12_isAt (48 : Int32) (57 : Int32) a6.2).bind (fun q11 => (if q11 = 0 then ((if (a6.2 171 10) = (a6.2 171 12) then J_X12_number_99 n  a6.2 else (if (3 : Int32) < ((a6.2 171 10) - (a6.2 171 12)) then J_X12_number_99 n  a6.2 else (if a6.1 < v1 then J_X12_number_99 n  a6.2 else (if a6.1 ≤ v2 then J_X12_number_104 n a6.1 a6.2 else J_X12_number_99 n  a6.2))))).map Sum.inr else (if (3 : Int32) ≤ ((a6.2 171 10) - (a6.2 171 12)) then J_X12_number_51 n v1 v2 a6.1 a6.2 else (if inb (a6.2 171 10) 400 then J_X12_number_51 n v1 v2 ((((10 : Int32) * a6.1) + (a6.2 177 (ix (a6.2 171 10)))) - (48 : Int32)) a6.2 else none)))))
def f_X12_number (n : Nat) (p1 : Int32) (p2 : Int32) (σ : MS) : Option (Int32 × MS) := ((f_X12_blanks n  σ).bind (fun q1 => itr (L_X12_number_6 n p1 p2 σ) n ((0 : Int32), q1.2)))
set_option maxRecDepth 20000 in
set_option maxHeartbeats 2000000 in
theorem c_X12_number (w : TG) (n : Nat) (p1 : Int32) (p2 : Int32) (σ : MS) : MC m_X12_number w [.ref (wB w + 171), .int p1, .int p2] σ (f_X12_number n p1 p2 σ) := by
  refine V_meth (by decide +kernel) (Nat.le_of_ble_eq_true rfl) (by intro v hv; simp only [List.mem_cons, List.not_mem_nil, or_false] at hv; rcases hv with rfl | rfl | rfl <;> rfl) (fun g x => ?_)
  show VV m_X12_number w g 0 0 (QM m_X12_number w g x) (fun b : Int32 × MS => b = x) 0 [some (.ref (wB w + 171)), some (.int p1), some (.int p2), none] [] σ (f_X12_number n p1 p2 σ)
  have hJ104 : ∀ (t0 : Int32) (σ : MS), VV m_X12_number w g 0 0 (QM m_X12_number w g x) (fun b : Int32 × MS => b = x) 104 [none, none, none, none] [.int t0] σ (J_X12_number_104 n t0 σ) := by
    intro t0 σ
    exact V_ireti (pc := 104) dX12_number_104 rfl (hk := fun h => h)
  have hJ99 : ∀ (σ : MS), VV m_X12_number w g 0 0 (QM m_X12_number w g x) (fun b : Int32 × MS => b = x) 99 [none, none, none, none] [] σ (J_X12_number_99 n  σ) := by
    intro σ
    refine V_iconst (pc := 99) dX12_number_99 ic_m1 ?_
    refine V_goto (pc := 100) (tgt := 104) dX12_number_100 (by decide +kernel) ?_
    exact hJ104 (-1 : Int32) σ
  have hL6 : ∀  (n0 : Nat) (a : Int32 × MS), VV m_X12_number w g 0 0 (QM m_X12_number w g x) (fun b : Int32 × MS => b = x) 6 [some (.ref (wB w + 171)), some (.int p1), some (.int p2), some (.int a.1)] [] a.2 (itr (L_X12_number_6 n p1 p2 σ) n0 a) := by
    refine V_itr (vf := fun a : Int32 × MS => [some (.ref (wB w + 171)), some (.int p1), some (.int p2), some (.int a.1)]) (sf := fun a : Int32 × MS => a.2) (fun κ6 b6 r6 a6 => ?_)
    obtain ⟨a6_1, a6_2⟩ := a6
    show VV m_X12_number w g 0 0 (QM m_X12_number w g x) κ6 6 [some (.ref (wB w + 171)), some (.int p1), some (.int p2), some (.int a6_1)] [] a6_2 (L_X12_number_6 n p1 p2 σ (a6_1, a6_2))
    have hJ51 : ∀ (t0 : Int32) (σ : MS), VV m_X12_number w g 0 0 (QM m_X12_number w g x) κ6 51 [some (.ref (wB w + 171)), some (.int p1), some (.int p2), none] [.int t0] σ (J_X12_number_51 n p1 p2 t0 σ) := by
      intro t0 σ
      refine V_istore_n (pc := 51) (vs' := [some (.ref (wB w + 171)), some (.int p1), some (.int p2), some (.int t0)]) dX12_number_51 rfl (Nat.le_of_ble_eq_true rfl) (Nat.le_of_ble_eq_true rfl) rfl ?_
      refine V_aload_n (pc := 52) dX12_number_52 rfl rfl ?_
      refine V_dup (pc := 53) dX12_number_53 rfl ?_
      refine V_geti (pc := 54) fk_X12_87 rfl dX12_number_54 kc_171 rf_12_10_171 ?_
      refine V_iconst (pc := 57) dX12_number_57 ic_1 ?_
      refine V_iadd (pc := 58) dX12_number_58 ?_
      refine V_puti (pc := 59) fp_X12_87 rfl dX12_number_59 kc_171 rf_12_10_171 (fun s59 => ?_)
      refine V_goto (pc := 62) (tgt := 6) dX12_number_62 (by decide +kernel) ?_
      exact V_back (b6 (t0, s59))
    refine V_aload_n (pc := 6) dX12_number_6 rfl rfl ?_
    refine V_bipush (pc := 7) dX12_number_7 bp_48 ?_
    refine V_bipush (pc := 9) dX12_number_9 bp_57 ?_
    refine V_callVpi (pc := 11) (As := [.int (48 : Int32), .int (57 : Int32)]) (rest := []) (c_X12_isAt w (48 : Int32) (57 : Int32) a6_2) cw_X12_93 rfl rfl dX12_number_11 kc_171 ci_12 ⟨Nat.le_of_ble_eq_true rfl, Nat.le_of_ble_eq_true rfl⟩ rfl rfl (Nat.le_of_ble_eq_true rfl) (Nat.le_of_ble_eq_true rfl) (Nat.le_of_ble_eq_true rfl) rfl (fun q11 => ?_)
    refine V_if_eq (pc := 14) (tgt := 65) dX12_number_14 (by decide +kernel) ?_ ?_
    · refine V_exit r6 ?_
      refine V_aload_n (pc := 65) dX12_number_65 rfl rfl ?_
      refine V_geti (pc := 66) fk_X12_87 rfl dX12_number_66 kc_171 rf_12_10_171 ?_
      refine V_aload_n (pc := 69) dX12_number_69 rfl rfl ?_
      refine V_geti (pc := 70) fk_X12_96 rfl dX12_number_70 kc_171 rf_12_12_171 ?_
      refine V_icmp_eq (pc := 73) (tgt := 99) dX12_number_73 (by decide +kernel) ?_ ?_
      · refine V_sub (vs' := [none, none, none, none]) (show vless _ _ from trivial) rfl ?_
        exact hJ99 a6_2
      · refine V_aload_n (pc := 76) dX12_number_76 rfl rfl ?_
        refine V_geti (pc := 77) fk_X12_87 rfl dX12_number_77 kc_171 rf_12_10_171 ?_
        refine V_aload_n (pc := 80) dX12_number_80 rfl rfl ?_
        refine V_geti (pc := 81) fk_X12_96 rfl dX12_number_81 kc_171 rf_12_12_171 ?_
        refine V_isub (pc := 84) dX12_number_84 ?_
        refine V_iconst (pc := 85) dX12_number_85 ic_3 ?_
        refine V_icmp_gt (pc := 86) (tgt := 99) dX12_number_86 (by decide +kernel) ?_ ?_
        · refine V_sub (vs' := [none, none, none, none]) (show vless _ _ from trivial) rfl ?_
          exact hJ99 a6_2
        · refine V_iload_n (pc := 89) dX12_number_89 rfl rfl ?_
          refine V_iload_n (pc := 90) dX12_number_90 rfl rfl ?_
          refine V_icmp_lt (pc := 91) (tgt := 99) dX12_number_91 (by decide +kernel) ?_ ?_
          · refine V_sub (vs' := [none, none, none, none]) (show vless _ _ from trivial) rfl ?_
            exact hJ99 a6_2
          · refine V_iload_n (pc := 94) dX12_number_94 rfl rfl ?_
            refine V_iload_n (pc := 95) dX12_number_95 rfl rfl ?_
            refine V_icmp_le (pc := 96) (tgt := 103) dX12_number_96 (by decide +kernel) ?_ ?_
            · refine V_iload_n (pc := 103) dX12_number_103 rfl rfl ?_
              refine V_sub (vs' := [none, none, none, none]) (show vless _ _ from trivial) rfl ?_
              exact hJ104 a6_1 a6_2
            · refine V_sub (vs' := [none, none, none, none]) (show vless _ _ from trivial) rfl ?_
              exact hJ99 a6_2
    · refine V_aload_n (pc := 17) dX12_number_17 rfl rfl ?_
      refine V_geti (pc := 18) fk_X12_87 rfl dX12_number_18 kc_171 rf_12_10_171 ?_
      refine V_aload_n (pc := 21) dX12_number_21 rfl rfl ?_
      refine V_geti (pc := 22) fk_X12_96 rfl dX12_number_22 kc_171 rf_12_12_171 ?_
      refine V_isub (pc := 25) dX12_number_25 ?_
      refine V_iconst (pc := 26) dX12_number_26 ic_3 ?_
      refine V_icmp_ge (pc := 27) (tgt := 50) dX12_number_27 (by decide +kernel) ?_ ?_
      · refine V_iload_n (pc := 50) dX12_number_50 rfl rfl ?_
        refine V_sub (vs' := [some (.ref (wB w + 171)), some (.int p1), some (.int p2), none]) (show vless _ _ from ⟨rfl, ⟨rfl, ⟨rfl, trivial⟩⟩⟩) rfl ?_
        exact hJ51 a6_1 a6_2
      · refine V_bipush (pc := 30) dX12_number_30 bp_10 ?_
        refine V_iload_n (pc := 32) dX12_number_32 rfl rfl ?_
        refine V_imul (pc := 33) dX12_number_33 ?_
        refine V_aload_n (pc := 34) dX12_number_34 rfl rfl ?_
        refine V_getr (pc := 35) (t := 177) fk_X12_29 rfl dX12_number_35 kc_171 rf_12_8_171 ?_
        refine V_aload_n (pc := 38) dX12_number_38 rfl rfl ?_
        refine V_geti (pc := 39) fk_X12_87 rfl dX12_number_39 kc_171 rf_12_10_171 ?_
        refine V_bald (pc := 42) (n := 400) dX12_number_42 kc_177 lc_177 ?_
        refine V_iadd (pc := 43) dX12_number_43 ?_
        refine V_bipush (pc := 44) dX12_number_44 bp_48 ?_
        refine V_isub (pc := 46) dX12_number_46 ?_
        refine V_goto (pc := 47) (tgt := 51) dX12_number_47 (by decide +kernel) ?_
        refine V_sub (vs' := [some (.ref (wB w + 171)), some (.int p1), some (.int p2), none]) (show vless _ _ from ⟨rfl, ⟨rfl, ⟨rfl, trivial⟩⟩⟩) rfl ?_
        exact hJ51 ((((10 : Int32) * a6_1) + (a6_2 177 (ix (a6_2 171 10)))) - (48 : Int32)) a6_2
  refine V_aload_n (pc := 0) dX12_number_0 rfl rfl ?_
  refine V_callVv (pc := 1) (As := []) (rest := []) (c_X12_blanks w n  σ) cw_X12_99 rfl rfl dX12_number_1 kc_171 ci_12 ⟨Nat.le_of_ble_eq_true rfl, Nat.le_of_ble_eq_true rfl⟩ rfl rfl (Nat.le_of_ble_eq_true rfl) (Nat.le_of_ble_eq_true rfl) (Nat.le_of_ble_eq_true rfl) rfl (fun q1 => ?_)
  refine V_iconst (pc := 4) dX12_number_4 ic_0 ?_
  refine V_istore_n (pc := 5) (vs' := [some (.ref (wB w + 171)), some (.int p1), some (.int p2), some (.int (0 : Int32))]) dX12_number_5 rfl (Nat.le_of_ble_eq_true rfl) (Nat.le_of_ble_eq_true rfl) rfl ?_
  exact hL6 n ((0 : Int32), q1.2)
def J_X12_after_22 (n : Nat) (z1 : Nat) (t0 : Int32) (σ : MS) : Option (Int32 × MS) := some (t0, σ)
def f_X12_after (n : Nat) (z1 : Nat) (p2 : Int32) (p3 : Int32) (σ : MS) : Option (Int32 × MS) := ((f_X12_letters n  σ).bind (fun q1 => ((f_X12_isWord n z1 q1.2).bind (fun q6 => (if q6 = 0 then J_X12_after_22 n z1 (-1 : Int32) q1.2 else ((f_X12_number n p2 p3 q1.2).bind (fun q15 => J_X12_after_22 n z1 q15.1 q15.2)))))))
set_option maxRecDepth 20000 in
set_option maxHeartbeats 2000000 in
theorem c_X12_after (w : TG) (n : Nat) (z1 : Nat) (p2 : Int32) (p3 : Int32) (k_z1 : z1 < 33) (σ : MS) : MC m_X12_after w [.ref (wB w + 171), .ref (wS w z1), .int p2, .int p3] σ (f_X12_after n z1 p2 p3 σ) := by
  refine V_meth (by decide +kernel) (Nat.le_of_ble_eq_true rfl) (by intro v hv; simp only [List.mem_cons, List.not_mem_nil, or_false] at hv; rcases hv with rfl | rfl | rfl | rfl <;> rfl) (fun g x => ?_)
  show VV m_X12_after w g 0 0 (QM m_X12_after w g x) (fun b : Int32 × MS => b = x) 0 [some (.ref (wB w + 171)), some (.ref (wS w z1)), some (.int p2), some (.int p3)] [] σ (f_X12_after n z1 p2 p3 σ)
  have hJ22 : ∀ (t0 : Int32) (σ : MS), VV m_X12_after w g 0 0 (QM m_X12_after w g x) (fun b : Int32 × MS => b = x) 22 [none, none, none, none] [.int t0] σ (J_X12_after_22 n z1 t0 σ) := by
    intro t0 σ
    exact V_ireti (pc := 22) dX12_after_22 rfl (hk := fun h => h)
  refine V_aload_n (pc := 0) dX12_after_0 rfl rfl ?_
  refine V_callVv (pc := 1) (As := []) (rest := []) (c_X12_letters w n  σ) cw_X12_111 rfl rfl dX12_after_1 kc_171 ci_12 ⟨Nat.le_of_ble_eq_true rfl, Nat.le_of_ble_eq_true rfl⟩ rfl rfl (Nat.le_of_ble_eq_true rfl) (Nat.le_of_ble_eq_true rfl) (Nat.le_of_ble_eq_true rfl) rfl (fun q1 => ?_)
  refine V_aload_n (pc := 4) dX12_after_4 rfl rfl ?_
  refine V_aload_n (pc := 5) dX12_after_5 rfl rfl ?_
  refine V_callVpi (pc := 6) (As := [.ref (wS w z1)]) (rest := []) (c_X12_isWord w n z1 k_z1 q1.2) cw_X12_114 rfl rfl dX12_after_6 kc_171 ci_12 ⟨Nat.le_of_ble_eq_true rfl, Nat.le_of_ble_eq_true rfl⟩ rfl rfl (Nat.le_of_ble_eq_true rfl) (Nat.le_of_ble_eq_true rfl) (Nat.le_of_ble_eq_true rfl) rfl (fun q6 => ?_)
  refine V_if_eq (pc := 9) (tgt := 21) dX12_after_9 (by decide +kernel) ?_ ?_
  · refine V_iconst (pc := 21) dX12_after_21 ic_m1 ?_
    refine V_sub (vs' := [none, none, none, none]) (show vless _ _ from trivial) rfl ?_
    exact hJ22 (-1 : Int32) q1.2
  · refine V_aload_n (pc := 12) dX12_after_12 rfl rfl ?_
    refine V_iload_n (pc := 13) dX12_after_13 rfl rfl ?_
    refine V_iload_n (pc := 14) dX12_after_14 rfl rfl ?_
    refine V_callVi (pc := 15) (As := [.int p2, .int p3]) (rest := []) (c_X12_number w n p2 p3 q1.2) cw_X12_118 rfl rfl dX12_after_15 kc_171 ci_12 ⟨Nat.le_of_ble_eq_true rfl, Nat.le_of_ble_eq_true rfl⟩ rfl rfl (Nat.le_of_ble_eq_true rfl) (Nat.le_of_ble_eq_true rfl) (Nat.le_of_ble_eq_true rfl) rfl (fun q15 => ?_)
    refine V_goto (pc := 18) (tgt := 22) dX12_after_18 (by decide +kernel) ?_
    refine V_sub (vs' := [none, none, none, none]) (show vless _ _ from trivial) rfl ?_
    exact hJ22 q15.1 q15.2
def f_X12_fault  (σ : MS) : Option (Int32 × MS) := (ltM (mu σ 171 0 (0 : Int32)) (fun s2 => some ((s2 171 14), s2)))
set_option maxRecDepth 20000 in
set_option maxHeartbeats 2000000 in
theorem c_X12_fault (w : TG)  (σ : MS) : MC m_X12_fault w [.ref (wB w + 171)] σ (f_X12_fault  σ) := by
  refine V_meth (by decide +kernel) (Nat.le_of_ble_eq_true rfl) (by intro v hv; simp only [List.mem_cons, List.not_mem_nil, or_false] at hv; subst hv; rfl) (fun g x => ?_)
  show VV m_X12_fault w g 0 0 (QM m_X12_fault w g x) (fun b : Int32 × MS => b = x) 0 [some (.ref (wB w + 171))] [] σ (f_X12_fault  σ)
  refine V_aload_n (pc := 0) dX12_fault_0 rfl rfl ?_
  refine V_iconst (pc := 1) dX12_fault_1 ic_0 ?_
  refine V_puti (pc := 2) fp_X12_3 rfl dX12_fault_2 kc_171 rf_12_0_171 (fun s2 => ?_)
  refine V_aload_n (pc := 5) dX12_fault_5 rfl rfl ?_
  refine V_geti (pc := 6) fk_X12_33 rfl dX12_fault_6 kc_171 rf_12_14_171 ?_
  exact V_ireti (pc := 9) dX12_fault_9 rfl (hk := fun h => h)
def f_X12_uses  (σ : MS) : Option (Int32 × MS) := (ltM (mu σ 171 0 (0 : Int32)) (fun s2 => (ltM (mu s2 171 11 (s2 171 9)) (fun s10 => (ltM (mu s10 171 9 (0 : Int32)) (fun s15 => (ltM (mu s15 171 10 (0 : Int32)) (fun s20 => some (0, s20)))))))))
set_option maxRecDepth 20000 in
set_option maxHeartbeats 2000000 in
theorem c_X12_uses (w : TG)  (σ : MS) : MC m_X12_uses w [.ref (wB w + 171)] σ (f_X12_uses  σ) := by
  refine V_meth (by decide +kernel) (Nat.le_of_ble_eq_true rfl) (by intro v hv; simp only [List.mem_cons, List.not_mem_nil, or_false] at hv; subst hv; rfl) (fun g x => ?_)
  show VV m_X12_uses w g 0 0 (QM m_X12_uses w g x) (fun b : Int32 × MS => b = x) 0 [some (.ref (wB w + 171))] [] σ (f_X12_uses  σ)
  refine V_aload_n (pc := 0) dX12_uses_0 rfl rfl ?_
  refine V_iconst (pc := 1) dX12_uses_1 ic_0 ?_
  refine V_puti (pc := 2) fp_X12_3 rfl dX12_uses_2 kc_171 rf_12_0_171 (fun s2 => ?_)
  refine V_aload_n (pc := 5) dX12_uses_5 rfl rfl ?_
  refine V_aload_n (pc := 6) dX12_uses_6 rfl rfl ?_
  refine V_geti (pc := 7) fk_X12_84 rfl dX12_uses_7 kc_171 rf_12_9_171 ?_
  refine V_puti (pc := 10) fp_X12_90 rfl dX12_uses_10 kc_171 rf_12_11_171 (fun s10 => ?_)
  refine V_aload_n (pc := 13) dX12_uses_13 rfl rfl ?_
  refine V_iconst (pc := 14) dX12_uses_14 ic_0 ?_
  refine V_puti (pc := 15) fp_X12_84 rfl dX12_uses_15 kc_171 rf_12_9_171 (fun s15 => ?_)
  refine V_aload_n (pc := 18) dX12_uses_18 rfl rfl ?_
  refine V_iconst (pc := 19) dX12_uses_19 ic_0 ?_
  refine V_puti (pc := 20) fp_X12_87 rfl dX12_uses_20 kc_171 rf_12_10_171 (fun s20 => ?_)
  exact V_ret (pc := 23) dX12_uses_23 rfl (hk := fun h => h)
def f_X12_personTold (n : Nat)  (σ : MS) : Option (Int32 × MS) := ((f_X12_people  σ).bind (fun q3 => ((f_X12_number n (0 : Int32) (q3 - (1 : Int32)) σ).bind (fun q8 => some (q8.1, q8.2)))))
set_option maxRecDepth 20000 in
set_option maxHeartbeats 2000000 in
theorem c_X12_personTold (w : TG) (n : Nat)  (σ : MS) : MC m_X12_personTold w [.ref (wB w + 171)] σ (f_X12_personTold n  σ) := by
  refine V_meth (by decide +kernel) (Nat.le_of_ble_eq_true rfl) (by intro v hv; simp only [List.mem_cons, List.not_mem_nil, or_false] at hv; subst hv; rfl) (fun g x => ?_)
  show VV m_X12_personTold w g 0 0 (QM m_X12_personTold w g x) (fun b : Int32 × MS => b = x) 0 [some (.ref (wB w + 171))] [] σ (f_X12_personTold n  σ)
  refine V_aload_n (pc := 0) dX12_personTold_0 rfl rfl ?_
  refine V_iconst (pc := 1) dX12_personTold_1 ic_0 ?_
  refine V_aload_n (pc := 2) dX12_personTold_2 rfl rfl ?_
  refine V_callVpi (pc := 3) (As := []) (rest := [.int (0 : Int32), .ref (wB w + 171)]) (c_X12_people w  σ) cw_X12_58 rfl rfl dX12_personTold_3 kc_171 ci_12 ⟨Nat.le_of_ble_eq_true rfl, Nat.le_of_ble_eq_true rfl⟩ rfl rfl (Nat.le_of_ble_eq_true rfl) (Nat.le_of_ble_eq_true rfl) (Nat.le_of_ble_eq_true rfl) rfl (fun q3 => ?_)
  refine V_iconst (pc := 6) dX12_personTold_6 ic_1 ?_
  refine V_isub (pc := 7) dX12_personTold_7 ?_
  refine V_callVi (pc := 8) (As := [.int (0 : Int32), .int (q3 - (1 : Int32))]) (rest := []) (c_X12_number w n (0 : Int32) (q3 - (1 : Int32)) σ) cw_X12_118 rfl rfl dX12_personTold_8 kc_171 ci_12 ⟨Nat.le_of_ble_eq_true rfl, Nat.le_of_ble_eq_true rfl⟩ rfl rfl (Nat.le_of_ble_eq_true rfl) (Nat.le_of_ble_eq_true rfl) (Nat.le_of_ble_eq_true rfl) rfl (fun q8 => ?_)
  exact V_ireti (pc := 11) dX12_personTold_11 rfl (hk := fun h => h)
def J_X12_otherTold_23 (n : Nat) (t0 : Int32) (σ : MS) : Option (Int32 × MS) := some (t0, σ)
def J_X12_otherTold_12 (n : Nat) (v1 : Int32) (t0 : Int32) (σ : MS) : Option (Int32 × MS) := (if t0 = v1 then J_X12_otherTold_23 n (-1 : Int32) σ else J_X12_otherTold_23 n t0 σ)
def f_X12_otherTold (n : Nat) (p1 : Int32) (σ : MS) : Option (Int32 × MS) := (if 0 ≤ p1 then ((f_X12_personTold n  σ).bind (fun q9 => J_X12_otherTold_12 n p1 q9.1 q9.2)) else J_X12_otherTold_12 n p1 (-1 : Int32) σ)
set_option maxRecDepth 20000 in
set_option maxHeartbeats 2000000 in
theorem c_X12_otherTold (w : TG) (n : Nat) (p1 : Int32) (σ : MS) : MC m_X12_otherTold w [.ref (wB w + 171), .int p1] σ (f_X12_otherTold n p1 σ) := by
  refine V_meth (by decide +kernel) (Nat.le_of_ble_eq_true rfl) (by intro v hv; simp only [List.mem_cons, List.not_mem_nil, or_false] at hv; rcases hv with rfl | rfl <;> rfl) (fun g x => ?_)
  show VV m_X12_otherTold w g 0 0 (QM m_X12_otherTold w g x) (fun b : Int32 × MS => b = x) 0 [some (.ref (wB w + 171)), some (.int p1), none] [] σ (f_X12_otherTold n p1 σ)
  have hJ23 : ∀ (t0 : Int32) (σ : MS), VV m_X12_otherTold w g 0 0 (QM m_X12_otherTold w g x) (fun b : Int32 × MS => b = x) 23 [none, none, none] [.int t0] σ (J_X12_otherTold_23 n t0 σ) := by
    intro t0 σ
    exact V_ireti (pc := 23) dX12_otherTold_23 rfl (hk := fun h => h)
  have hJ12 : ∀ (t0 : Int32) (σ : MS), VV m_X12_otherTold w g 0 0 (QM m_X12_otherTold w g x) (fun b : Int32 × MS => b = x) 12 [none, some (.int p1), none] [.int t0] σ (J_X12_otherTold_12 n p1 t0 σ) := by
    intro t0 σ
    refine V_istore_n (pc := 12) (vs' := [none, some (.int p1), some (.int t0)]) dX12_otherTold_12 rfl (Nat.le_of_ble_eq_true rfl) (Nat.le_of_ble_eq_true rfl) rfl ?_
    refine V_iload_n (pc := 13) dX12_otherTold_13 rfl rfl ?_
    refine V_iload_n (pc := 14) dX12_otherTold_14 rfl rfl ?_
    refine V_icmp_ne (pc := 15) (tgt := 22) dX12_otherTold_15 (by decide +kernel) ?_ ?_
    · refine V_iload_n (pc := 22) dX12_otherTold_22 rfl rfl ?_
      refine V_sub (vs' := [none, none, none]) (show vless _ _ from trivial) rfl ?_
      exact hJ23 t0 σ
    · refine V_iconst (pc := 18) dX12_otherTold_18 ic_m1 ?_
      refine V_goto (pc := 19) (tgt := 23) dX12_otherTold_19 (by decide +kernel) ?_
      refine V_sub (vs' := [none, none, none]) (show vless _ _ from trivial) rfl ?_
      exact hJ23 (-1 : Int32) σ
  refine V_iload_n (pc := 0) dX12_otherTold_0 rfl rfl ?_
  refine V_if_ge (pc := 1) (tgt := 8) dX12_otherTold_1 (by decide +kernel) ?_ ?_
  · refine V_aload_n (pc := 8) dX12_otherTold_8 rfl rfl ?_
    refine V_callVi (pc := 9) (As := []) (rest := []) (c_X12_personTold w n  σ) cw_X12_121 rfl rfl dX12_otherTold_9 kc_171 ci_12 ⟨Nat.le_of_ble_eq_true rfl, Nat.le_of_ble_eq_true rfl⟩ rfl rfl (Nat.le_of_ble_eq_true rfl) (Nat.le_of_ble_eq_true rfl) (Nat.le_of_ble_eq_true rfl) rfl (fun q9 => ?_)
    refine V_sub (vs' := [none, some (.int p1), none]) (show vless _ _ from ⟨rfl, trivial⟩) rfl ?_
    exact hJ12 q9.1 q9.2
  · refine V_iconst (pc := 4) dX12_otherTold_4 ic_m1 ?_
    refine V_goto (pc := 5) (tgt := 12) dX12_otherTold_5 (by decide +kernel) ?_
    refine V_sub (vs' := [none, some (.int p1), none]) (show vless _ _ from ⟨rfl, trivial⟩) rfl ?_
    exact hJ12 (-1 : Int32) σ
