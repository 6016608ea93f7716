def m_X12_readPerson : MD := (yX12_readPerson, cX12_readPerson, 3, (some .boolean), 5, 223, 0, 0)
def m_X12_readLikes : MD := (yX12_readLikes, cX12_readLikes, 3, (some .boolean), 4, 85, 0, 0)
def m_X12_weds : MD := (yX12_weds, cX12_weds, 3, none, 1, 21, 0, 0)
def m_X12_readWed : MD := (yX12_readWed, cX12_readWed, 3, (some .boolean), 5, 107, 0, 0)
def m_X12_readFlour : MD := (yX12_readFlour, cX12_readFlour, 5, (some .boolean), 3, 62, 0, 0)
def m_X12_readBond : MD := (yX12_readBond, cX12_readBond, 5, (some .boolean), 6, 246, 0, 0)
def m_X12_readNumber : MD := (yX12_readNumber, cX12_readNumber, 5, (some .boolean), 3, 65, 0, 0)
def m_X12_readHouseLine : MD := (yX12_readHouseLine, cX12_readHouseLine, 1, (some .boolean), 7, 270, 0, 0)
def m_X12_emits : MD := (yX12_emits, cX12_emits, 3, none, 0, 0, 0, 0)
def m_X12_readPart : MD := (yX12_readPart, cX12_readPart, 2, (some .boolean), 5, 223, 0, 0)
def m_X12_readSum : MD := (yX12_readSum, cX12_readSum, 1, (some .boolean), 6, 244, 0, 0)
def m_X12_readTag : MD := (yX12_readTag, cX12_readTag, 2, (some .boolean), 5, 223, 0, 0)
def mr_X12_readAtom (d : Nat) : MD := (yX12_readAtom, cX12_readAtom, 2, (some .boolean), 7 + d, 264 + 21 * d, 0, 0)
def m_X12_readAtom : MD := mr_X12_readAtom 30
def mr_X12_readAllOf (d : Nat) : MD := (yX12_readAllOf, cX12_readAllOf, 1, (some .boolean), 7 + d, 264 + 21 * d, 0, 0)
def m_X12_readAllOf : MD := mr_X12_readAllOf 30
def mr_X12_readCond (d : Nat) : MD := (yX12_readCond, cX12_readCond, 1, (some .boolean), 7 + d, 264 + 21 * d, 0, 0)
def m_X12_readCond : MD := mr_X12_readCond 30
abbrev RT_gr : Type := (MS → Option (Int32 × MS)) × (MS → Option (Int32 × MS)) × (MS → Option (Int32 × MS))
def m_X12_readLawLine : MD := (yX12_readLawLine, cX12_readLawLine, 3, (some .boolean), 38, 914, 0, 0)
theorem wm_X12_otherTold : wmp m_X12_otherTold 1 := ⟨gx 1673 (by decide +kernel) (by decide +kernel), gx 58 (by decide +kernel) (by decide +kernel), gx 138 (by decide +kernel) (by decide +kernel), gx 1674 (by decide +kernel) (by decide +kernel), by decide +kernel, by decide +kernel, by decide +kernel⟩
theorem cw_X12_125 : cwp RX12 125 m_X12_otherTold 1 := cwp_of wm_X12_otherTold (gx 1671 (by decide +kernel) (by decide +kernel))
theorem wm_X12_weds : wmp m_X12_weds 2 := ⟨gx 1677 (by decide +kernel) (by decide +kernel), gx 59 (by decide +kernel) (by decide +kernel), gx 138 (by decide +kernel) (by decide +kernel), gx 1678 (by decide +kernel) (by decide +kernel), by decide +kernel, by decide +kernel, by decide +kernel⟩
theorem cw_X12_129 : cwp RX12 129 m_X12_weds 2 := cwp_of wm_X12_weds (gx 1675 (by decide +kernel) (by decide +kernel))
theorem wm_X12_noRoom : wms m_X12_noRoom 1 := ⟨gx 1685 (by decide +kernel) (by decide +kernel), gx 138 (by decide +kernel) (by decide +kernel), gx 1686 (by decide +kernel) (by decide +kernel), by decide +kernel, by decide +kernel, by decide +kernel⟩
theorem cs_X12_133 : csp RX12 133 m_X12_noRoom 1 := csp_of wm_X12_noRoom (gx 1684 (by decide +kernel) (by decide +kernel))
theorem wm_X12_binds : wmp m_X12_binds 4 := ⟨gx 1711 (by decide +kernel) (by decide +kernel), gx 64 (by decide +kernel) (by decide +kernel), gx 138 (by decide +kernel) (by decide +kernel), gx 1712 (by decide +kernel) (by decide +kernel), by decide +kernel, by decide +kernel, by decide +kernel⟩
theorem cw_X12_143 : cwp RX12 143 m_X12_binds 4 := cwp_of wm_X12_binds (gx 1709 (by decide +kernel) (by decide +kernel))
theorem wm_X12_after : wmp m_X12_after 3 := ⟨gx 1707 (by decide +kernel) (by decide +kernel), gx 63 (by decide +kernel) (by decide +kernel), gx 138 (by decide +kernel) (by decide +kernel), gx 1708 (by decide +kernel) (by decide +kernel), by decide +kernel, by decide +kernel, by decide +kernel⟩
theorem cw_X12_139 : cwp RX12 139 m_X12_after 3 := cwp_of wm_X12_after (gx 1705 (by decide +kernel) (by decide +kernel))
theorem wm_X12_readNumber : wmp m_X12_readNumber 3 := ⟨gx 1696 (by decide +kernel) (by decide +kernel), gx 61 (by decide +kernel) (by decide +kernel), gx 138 (by decide +kernel) (by decide +kernel), gx 1697 (by decide +kernel) (by decide +kernel), by decide +kernel, by decide +kernel, by decide +kernel⟩
theorem cw_X12_169 : cwp RX12 169 m_X12_readNumber 3 := cwp_of wm_X12_readNumber (gx 1694 (by decide +kernel) (by decide +kernel))
theorem wm_X12_readBond : wmp m_X12_readBond 0 := ⟨gx 1702 (by decide +kernel) (by decide +kernel), gx 62 (by decide +kernel) (by decide +kernel), gx 138 (by decide +kernel) (by decide +kernel), gx 1703 (by decide +kernel) (by decide +kernel), by decide +kernel, by decide +kernel, by decide +kernel⟩
theorem cw_X12_176 : cwp RX12 176 m_X12_readBond 0 := cwp_of wm_X12_readBond (gx 1700 (by decide +kernel) (by decide +kernel))
theorem wm_X12_readFlour : wmp m_X12_readFlour 0 := ⟨gx 1682 (by decide +kernel) (by decide +kernel), gx 60 (by decide +kernel) (by decide +kernel), gx 138 (by decide +kernel) (by decide +kernel), gx 1683 (by decide +kernel) (by decide +kernel), by decide +kernel, by decide +kernel, by decide +kernel⟩
theorem cw_X12_165 : cwp RX12 165 m_X12_readFlour 0 := cwp_of wm_X12_readFlour (gx 1680 (by decide +kernel) (by decide +kernel))
theorem wm_X12_readWed : wmp m_X12_readWed 0 := ⟨gx 1665 (by decide +kernel) (by decide +kernel), gx 56 (by decide +kernel) (by decide +kernel), gx 138 (by decide +kernel) (by decide +kernel), gx 1666 (by decide +kernel) (by decide +kernel), by decide +kernel, by decide +kernel, by decide +kernel⟩
theorem cw_X12_160 : cwp RX12 160 m_X12_readWed 0 := cwp_of wm_X12_readWed (gx 1663 (by decide +kernel) (by decide +kernel))
theorem wm_X12_readLikes : wmp m_X12_readLikes 0 := ⟨gx 1653 (by decide +kernel) (by decide +kernel), gx 54 (by decide +kernel) (by decide +kernel), gx 138 (by decide +kernel) (by decide +kernel), gx 1654 (by decide +kernel) (by decide +kernel), by decide +kernel, by decide +kernel, by decide +kernel⟩
theorem cw_X12_155 : cwp RX12 155 m_X12_readLikes 0 := cwp_of wm_X12_readLikes (gx 1651 (by decide +kernel) (by decide +kernel))
theorem wm_X12_readPerson : wmp m_X12_readPerson 0 := ⟨gx 1636 (by decide +kernel) (by decide +kernel), gx 51 (by decide +kernel) (by decide +kernel), gx 138 (by decide +kernel) (by decide +kernel), gx 1637 (by decide +kernel) (by decide +kernel), by decide +kernel, by decide +kernel, by decide +kernel⟩
theorem cw_X12_149 : cwp RX12 149 m_X12_readPerson 0 := cwp_of wm_X12_readPerson (gx 1634 (by decide +kernel) (by decide +kernel))
theorem fk_X12_181 : fk RX12 181 12 16 := ⟨_, _, _, rfl, in_12, by decide, rfl, by decide, gx 1511 (by decide +kernel) (by decide +kernel)⟩
theorem fp_X12_181 : fp RX12 181 12 16 .int := ⟨_, _, _, tyX12, rfl, in_12, by decide, rfl, by decide, gx 1511 (by decide +kernel) (by decide +kernel), rfl, by decide +kernel, tyX12_ok, nmX12⟩
theorem wm_X12_emits : wmp m_X12_emits 2 := ⟨gx 1745 (by decide +kernel) (by decide +kernel), gx 71 (by decide +kernel) (by decide +kernel), gx 138 (by decide +kernel) (by decide +kernel), gx 1746 (by decide +kernel) (by decide +kernel), by decide +kernel, by decide +kernel, by decide +kernel⟩
theorem cw_X12_184 : cwp RX12 184 m_X12_emits 2 := cwp_of wm_X12_emits (gx 1743 (by decide +kernel) (by decide +kernel))
theorem wm_X12_sign : wmp m_X12_sign 1 := ⟨gx 1740 (by decide +kernel) (by decide +kernel), gx 70 (by decide +kernel) (by decide +kernel), gx 138 (by decide +kernel) (by decide +kernel), gx 1741 (by decide +kernel) (by decide +kernel), by decide +kernel, by decide +kernel, by decide +kernel⟩
theorem cw_X12_200 : cwp RX12 200 m_X12_sign 1 := cwp_of wm_X12_sign (gx 1738 (by decide +kernel) (by decide +kernel))
theorem wm_X12_readPart : wmp m_X12_readPart 0 := ⟨gx 1758 (by decide +kernel) (by decide +kernel), gx 74 (by decide +kernel) (by decide +kernel), gx 138 (by decide +kernel) (by decide +kernel), gx 1759 (by decide +kernel) (by decide +kernel), by decide +kernel, by decide +kernel, by decide +kernel⟩
theorem cw_X12_197 : cwp RX12 197 m_X12_readPart 0 := cwp_of wm_X12_readPart (gx 1756 (by decide +kernel) (by decide +kernel))
theorem wm_X12_readSum : wmp m_X12_readSum 0 := ⟨gx 1754 (by decide +kernel) (by decide +kernel), gx 73 (by decide +kernel) (by decide +kernel), gx 138 (by decide +kernel) (by decide +kernel), gx 1755 (by decide +kernel) (by decide +kernel), by decide +kernel, by decide +kernel, by decide +kernel⟩
theorem cw_X12_222 : cwp RX12 222 m_X12_readSum 0 := cwp_of wm_X12_readSum (gx 1752 (by decide +kernel) (by decide +kernel))
theorem wm_X12_passes : wmp m_X12_passes 1 := ⟨gx 1724 (by decide +kernel) (by decide +kernel), gx 66 (by decide +kernel) (by decide +kernel), gx 138 (by decide +kernel) (by decide +kernel), gx 1725 (by decide +kernel) (by decide +kernel), by decide +kernel, by decide +kernel, by decide +kernel⟩
theorem cw_X12_213 : cwp RX12 213 m_X12_passes 1 := cwp_of wm_X12_passes (gx 1722 (by decide +kernel) (by decide +kernel))
theorem wm_X12_readTag : wmp m_X12_readTag 0 := ⟨gx 1749 (by decide +kernel) (by decide +kernel), gx 72 (by decide +kernel) (by decide +kernel), gx 138 (by decide +kernel) (by decide +kernel), gx 1750 (by decide +kernel) (by decide +kernel), by decide +kernel, by decide +kernel, by decide +kernel⟩
theorem cw_X12_219 : cwp RX12 219 m_X12_readTag 0 := cwp_of wm_X12_readTag (gx 1747 (by decide +kernel) (by decide +kernel))
theorem fk_X12_205 : fk RX12 205 12 13 := ⟨_, _, _, rfl, in_12, by decide, rfl, by decide, gx 1508 (by decide +kernel) (by decide +kernel)⟩
theorem fp_X12_205 : fp RX12 205 12 13 .int := ⟨_, _, _, tyX12, rfl, in_12, by decide, rfl, by decide, gx 1508 (by decide +kernel) (by decide +kernel), rfl, by decide +kernel, tyX12_ok, nmX12⟩
theorem wm_X12_readAtom : wmp m_X12_readAtom 0 := ⟨gx 1736 (by decide +kernel) (by decide +kernel), gx 69 (by decide +kernel) (by decide +kernel), gx 138 (by decide +kernel) (by decide +kernel), gx 1737 (by decide +kernel) (by decide +kernel), by decide +kernel, by decide +kernel, by decide +kernel⟩
theorem cw_X12_216 : cwp RX12 216 m_X12_readAtom 0 := cwp_of wm_X12_readAtom (gx 1734 (by decide +kernel) (by decide +kernel))
theorem wm_X12_readCond : wmp m_X12_readCond 0 := ⟨gx 1728 (by decide +kernel) (by decide +kernel), gx 67 (by decide +kernel) (by decide +kernel), gx 138 (by decide +kernel) (by decide +kernel), gx 1729 (by decide +kernel) (by decide +kernel), by decide +kernel, by decide +kernel, by decide +kernel⟩
theorem cw_X12_208 : cwp RX12 208 m_X12_readCond 0 := cwp_of wm_X12_readCond (gx 1726 (by decide +kernel) (by decide +kernel))
theorem wm_X12_readAllOf : wmp m_X12_readAllOf 0 := ⟨gx 1732 (by decide +kernel) (by decide +kernel), gx 68 (by decide +kernel) (by decide +kernel), gx 138 (by decide +kernel) (by decide +kernel), gx 1733 (by decide +kernel) (by decide +kernel), by decide +kernel, by decide +kernel, by decide +kernel⟩
theorem cw_X12_227 : cwp RX12 227 m_X12_readAllOf 0 := cwp_of wm_X12_readAllOf (gx 1730 (by decide +kernel) (by decide +kernel))
def J_X12_readPerson_36 (n : Nat) (v1 : Int32) (t0 : Int32) (σ : MS) : Option (Int32 × MS) := (if 0 ≤ t0 then ((f_X12_at v1 (0 : Int32) σ).bind (fun q49 => (if inb q49 2172 then ltM (mu σ 172 (ix q49) t0) (fun s53 => ((f_X12_at v1 (1 : Int32) s53).bind (fun q60 => (if inb q60 2172 then ltM (mu s53 172 (ix q60) (-1 : Int32)) (fun s64 => ((f_X12_at v1 (2 : Int32) s64).bind (fun q71 => (if inb q71 2172 then ltM (mu s64 172 (ix q71) (0 : Int32)) (fun s75 => ((f_X12_at v1 (3 : Int32) s75).bind (fun q82 => (if inb q82 2172 then ltM (mu s75 172 (ix q82) (0 : Int32)) (fun s86 => (ltM (mu s86 172 0 ((s86 172 0) + (1 : Int32))) (fun s96 => some ((1 : Int32), s96)))) else none)))) else none)))) else none)))) else none))) else some ((0 : Int32), σ))
def f_X12_readPerson (n : Nat)  (σ : MS) : Option (Int32 × MS) := ((f_X12_people  σ).bind (fun q1 => (if q1 = (8 : Int32) then some ((0 : Int32), σ) else ((f_X12_letters n  σ).bind (fun q14 => ((f_X12_isWord n 0 q14.2).bind (fun q20 => (if q20 = 0 then J_X12_readPerson_36 n q1 (-1 : Int32) q14.2 else ((f_X12_number n (0 : Int32) (5 : Int32) q14.2).bind (fun q29 => J_X12_readPerson_36 n q1 q29.1 q29.2))))))))))
set_option maxRecDepth 20000 in
set_option maxHeartbeats 2000000 in
theorem c_X12_readPerson (w : TG) (n : Nat)  (σ : MS) : MC m_X12_readPerson w [.ref (wB w + 171)] σ (f_X12_readPerson n  σ) := by
  refine V_meth (by decide +kernel) (Nat.le_of_ble_eq_true rfl) (by intro v hv; simp only [List.mem_cons, List.not_mem_nil, or_false] at hv; subst hv; rfl) (fun g x => ?_)
  show VV m_X12_readPerson w g 0 0 (QM m_X12_readPerson w g x) (fun b : Int32 × MS => b = x) 0 [some (.ref (wB w + 171)), none, none] [] σ (f_X12_readPerson n  σ)
  have hJ36 : ∀ (v1 : Int32) (t0 : Int32) (σ : MS), VV m_X12_readPerson w g 0 0 (QM m_X12_readPerson w g x) (fun b : Int32 × MS => b = x) 36 [some (.ref (wB w + 171)), some (.int v1), none] [.int t0] σ (J_X12_readPerson_36 n v1 t0 σ) := by
    intro v1 t0 σ
    refine V_istore_n (pc := 36) (vs' := [some (.ref (wB w + 171)), some (.int v1), some (.int t0)]) dX12_readPerson_36 rfl (Nat.le_of_ble_eq_true rfl) (Nat.le_of_ble_eq_true rfl) rfl ?_
    refine V_iload_n (pc := 37) dX12_readPerson_37 rfl rfl ?_
    refine V_if_ge (pc := 38) (tgt := 43) dX12_readPerson_38 (by decide +kernel) ?_ ?_
    · refine V_aload_n (pc := 43) dX12_readPerson_43 rfl rfl ?_
      refine V_getr (pc := 44) (t := 172) fk_X12_13 rfl dX12_readPerson_44 kc_171 rf_12_1_171 ?_
      refine V_iload_n (pc := 47) dX12_readPerson_47 rfl rfl ?_
      refine V_iconst (pc := 48) dX12_readPerson_48 ic_0 ?_
      refine V_callSpi (pc := 49) (As := [.int v1, .int (0 : Int32)]) (rest := [.ref (wB w + 172)]) (c_X12_at w v1 (0 : Int32) σ) cs_X12_62 rfl rfl dX12_readPerson_49 ⟨Nat.le_of_ble_eq_true rfl, Nat.le_of_ble_eq_true rfl⟩ rfl rfl (Nat.le_of_ble_eq_true rfl) (Nat.le_of_ble_eq_true rfl) (Nat.le_of_ble_eq_true rfl) rfl (fun q49 => ?_)
      refine V_iload_n (pc := 52) dX12_readPerson_52 rfl rfl ?_
      refine V_iast (pc := 53) (n := 2172) dX12_readPerson_53 kc_172 lc_172 (fun s53 => ?_)
      refine V_aload_n (pc := 54) dX12_readPerson_54 rfl rfl ?_
      refine V_getr (pc := 55) (t := 172) fk_X12_13 rfl dX12_readPerson_55 kc_171 rf_12_1_171 ?_
      refine V_iload_n (pc := 58) dX12_readPerson_58 rfl rfl ?_
      refine V_iconst (pc := 59) dX12_readPerson_59 ic_1 ?_
      refine V_callSpi (pc := 60) (As := [.int v1, .int (1 : Int32)]) (rest := [.ref (wB w + 172)]) (c_X12_at w v1 (1 : Int32) s53) cs_X12_62 rfl rfl dX12_readPerson_60 ⟨Nat.le_of_ble_eq_true rfl, Nat.le_of_ble_eq_true rfl⟩ rfl rfl (Nat.le_of_ble_eq_true rfl) (Nat.le_of_ble_eq_true rfl) (Nat.le_of_ble_eq_true rfl) rfl (fun q60 => ?_)
      refine V_iconst (pc := 63) dX12_readPerson_63 ic_m1 ?_
      refine V_iast (pc := 64) (n := 2172) dX12_readPerson_64 kc_172 lc_172 (fun s64 => ?_)
      refine V_aload_n (pc := 65) dX12_readPerson_65 rfl rfl ?_
      refine V_getr (pc := 66) (t := 172) fk_X12_13 rfl dX12_readPerson_66 kc_171 rf_12_1_171 ?_
      refine V_iload_n (pc := 69) dX12_readPerson_69 rfl rfl ?_
      refine V_iconst (pc := 70) dX12_readPerson_70 ic_2 ?_
      refine V_callSpi (pc := 71) (As := [.int v1, .int (2 : Int32)]) (rest := [.ref (wB w + 172)]) (c_X12_at w v1 (2 : Int32) s64) cs_X12_62 rfl rfl dX12_readPerson_71 ⟨Nat.le_of_ble_eq_true rfl, Nat.le_of_ble_eq_true rfl⟩ rfl rfl (Nat.le_of_ble_eq_true rfl) (Nat.le_of_ble_eq_true rfl) (Nat.le_of_ble_eq_true rfl) rfl (fun q71 => ?_)
      refine V_iconst (pc := 74) dX12_readPerson_74 ic_0 ?_
      refine V_iast (pc := 75) (n := 2172) dX12_readPerson_75 kc_172 lc_172 (fun s75 => ?_)
      refine V_aload_n (pc := 76) dX12_readPerson_76 rfl rfl ?_
      refine V_getr (pc := 77) (t := 172) fk_X12_13 rfl dX12_readPerson_77 kc_171 rf_12_1_171 ?_
      refine V_iload_n (pc := 80) dX12_readPerson_80 rfl rfl ?_
      refine V_iconst (pc := 81) dX12_readPerson_81 ic_3 ?_
      refine V_callSpi (pc := 82) (As := [.int v1, .int (3 : Int32)]) (rest := [.ref (wB w + 172)]) (c_X12_at w v1 (3 : Int32) s75) cs_X12_62 rfl rfl dX12_readPerson_82 ⟨Nat.le_of_ble_eq_true rfl, Nat.le_of_ble_eq_true rfl⟩ rfl rfl (Nat.le_of_ble_eq_true rfl) (Nat.le_of_ble_eq_true rfl) (Nat.le_of_ble_eq_true rfl) rfl (fun q82 => ?_)
      refine V_iconst (pc := 85) dX12_readPerson_85 ic_0 ?_
      refine V_iast (pc := 86) (n := 2172) dX12_readPerson_86 kc_172 lc_172 (fun s86 => ?_)
      refine V_aload_n (pc := 87) dX12_readPerson_87 rfl rfl ?_
      refine V_getr (pc := 88) (t := 172) fk_X12_13 rfl dX12_readPerson_88 kc_171 rf_12_1_171 ?_
      refine V_iconst (pc := 91) dX12_readPerson_91 ic_0 ?_
      refine V_dup2 (pc := 92) dX12_readPerson_92 rfl rfl ?_
      refine V_ialdC (pc := 93) (n := 2172) dX12_readPerson_93 kc_172 lc_172 inb_0_2172 ?_
      refine V_iconst (pc := 94) dX12_readPerson_94 ic_1 ?_
      refine V_iadd (pc := 95) dX12_readPerson_95 ?_
      refine V_iastC (pc := 96) (n := 2172) dX12_readPerson_96 kc_172 lc_172 inb_0_2172 (fun s96 => ?_)
      refine V_iconst (pc := 97) dX12_readPerson_97 ic_1 ?_
      exact V_iretz (pc := 98) dX12_readPerson_98 rfl rfl (hk := fun h => h)
    · refine V_iconst (pc := 41) dX12_readPerson_41 ic_0 ?_
      exact V_iretz (pc := 42) dX12_readPerson_42 rfl rfl (hk := fun h => h)
  refine V_aload_n (pc := 0) dX12_readPerson_0 rfl rfl ?_
  refine V_callVpi (pc := 1) (As := []) (rest := []) (c_X12_people w  σ) cw_X12_58 rfl rfl dX12_readPerson_1 kc_171 ci_12 ⟨Nat.le_of_ble_eq_true rfl, Nat.le_of_ble_eq_true rfl⟩ rfl rfl (Nat.le_of_ble_eq_true rfl) (Nat.le_of_ble_eq_true rfl) (Nat.le_of_ble_eq_true rfl) rfl (fun q1 => ?_)
  refine V_istore_n (pc := 4) (vs' := [some (.ref (wB w + 171)), some (.int q1), none]) dX12_readPerson_4 rfl (Nat.le_of_ble_eq_true rfl) (Nat.le_of_ble_eq_true rfl) rfl ?_
  refine V_iload_n (pc := 5) dX12_readPerson_5 rfl rfl ?_
  refine V_bipush (pc := 6) dX12_readPerson_6 bp_8 ?_
  refine V_icmp_ne (pc := 8) (tgt := 13) dX12_readPerson_8 (by decide +kernel) ?_ ?_
  · refine V_aload_n (pc := 13) dX12_readPerson_13 rfl rfl ?_
    refine V_callVv (pc := 14) (As := []) (rest := []) (c_X12_letters w n  σ) cw_X12_111 rfl rfl dX12_readPerson_14 kc_171 ci_12 ⟨Nat.le_of_ble_eq_true rfl, Nat.le_of_ble_eq_true rfl⟩ rfl rfl (Nat.le_of_ble_eq_true rfl) (Nat.le_of_ble_eq_true rfl) (Nat.le_of_ble_eq_true rfl) rfl (fun q14 => ?_)
    refine V_aload_n (pc := 17) dX12_readPerson_17 rfl rfl ?_
    refine V_ldcS (pc := 18) (i := 0) (tx := "at") dX12_readPerson_18 rfl (show (RX12, 124, "at", 0) ∈ strT from by decide +kernel) ?_
    refine V_callVpi (pc := 20) (As := [.ref (wS w 0)]) (rest := []) (c_X12_isWord w n 0 (by decide) q14.2) cw_X12_114 rfl rfl dX12_readPerson_20 kc_171 ci_12 ⟨Nat.le_of_ble_eq_true rfl, Nat.le_of_ble_eq_true rfl⟩ rfl rfl (Nat.le_of_ble_eq_true rfl) (Nat.le_of_ble_eq_true rfl) (Nat.le_of_ble_eq_true rfl) rfl (fun q20 => ?_)
    refine V_if_eq (pc := 23) (tgt := 35) dX12_readPerson_23 (by decide +kernel) ?_ ?_
    · refine V_iconst (pc := 35) dX12_readPerson_35 ic_m1 ?_
      exact hJ36 q1 (-1 : Int32) q14.2
    · refine V_aload_n (pc := 26) dX12_readPerson_26 rfl rfl ?_
      refine V_iconst (pc := 27) dX12_readPerson_27 ic_0 ?_
      refine V_iconst (pc := 28) dX12_readPerson_28 ic_5 ?_
      refine V_callVi (pc := 29) (As := [.int (0 : Int32), .int (5 : Int32)]) (rest := []) (c_X12_number w n (0 : Int32) (5 : Int32) q14.2) cw_X12_118 rfl rfl dX12_readPerson_29 kc_171 ci_12 ⟨Nat.le_of_ble_eq_true rfl, Nat.le_of_ble_eq_true rfl⟩ rfl rfl (Nat.le_of_ble_eq_true rfl) (Nat.le_of_ble_eq_true rfl) (Nat.le_of_ble_eq_true rfl) rfl (fun q29 => ?_)
      refine V_goto (pc := 32) (tgt := 36) dX12_readPerson_32 (by decide +kernel) ?_
      exact hJ36 q1 q29.1 q29.2
  · refine V_iconst (pc := 11) dX12_readPerson_11 ic_0 ?_
    exact V_iretz (pc := 12) dX12_readPerson_12 rfl rfl (hk := fun h => h)
def J_X12_readLikes_95 (n : Nat) (t0 : Int32) (σ : MS) : Option (Int32 × MS) := (if t0 = 0 ∨ t0 = 1 then some (t0, σ) else none)
def J_X12_readLikes_66 (n : Nat) (v1 : Int32) (v2 : Int32) (σ : MS) : Option ((Int32 × MS) ⊕ (Int32 × MS)) := (ltM (mu σ 171 10 ((σ 171 10) + (1 : Int32))) (fun s76 => some (.inl ((v2 + (1 : Int32)), s76))))
def L_X12_readLikes_17 (n : Nat) (v1 : Int32) (σ : MS) (a17 : Int32 × MS) : Option ((Int32 × MS) ⊕ (Int32 × MS)) := ((f_X12_isAt (48 : Int32) (57 : Int32) a17.2).bind (fun q22 => (if q22 = 0 then (((f_X12_people  a17.2).bind (fun q84 => (if a17.1 = q84 then J_X12_readLikes_95 n (1 : Int32) a17.2 else J_X12_readLikes_95 n (0 : Int32) a17.2)))).map Sum.inr else ((f_X12_people  a17.2).bind (fun q30 => (if q30 ≤ a17.1 then J_X12_readLikes_66 n v1 a17.1 a17.2 else (if a17.1 = v1 then J_X12_readLikes_66 n v1 a17.1 a17.2 else ((f_X12_both v1 a17.1 a17.2).bind (fun q49 => (if inb (a17.2 171 10) 400 then (if inb ((42 : Int32) + q49) 2172 then ltM (mu a17.2 172 (ix ((42 : Int32) + q49)) ((a17.2 177 (ix (a17.2 171 10))) - (48 : Int32))) (fun s65 => J_X12_readLikes_66 n v1 a17.1 s65) else none) else none))))))))))
def f_X12_readLikes (n : Nat)  (σ : MS) : Option (Int32 × MS) := ((f_X12_personTold n  σ).bind (fun q1 => (if 0 ≤ q1.1 then ((f_X12_blanks n  q1.2).bind (fun q12 => itr (L_X12_readLikes_17 n q1.1 σ) n ((0 : Int32), q12.2))) else some ((0 : Int32), q1.2))))
set_option maxRecDepth 20000 in
set_option maxHeartbeats 2000000 in
theorem c_X12_readLikes (w : TG) (n : Nat)  (σ : MS) : MC m_X12_readLikes w [.ref (wB w + 171)] σ (f_X12_readLikes n  σ) := by
  refine V_meth (by decide +kernel) (Nat.le_of_ble_eq_true rfl) (by intro v hv; simp only [List.mem_cons, List.not_mem_nil, or_false] at hv; subst hv; rfl) (fun g x => ?_)
  show VV m_X12_readLikes w g 0 0 (QM m_X12_readLikes w g x) (fun b : Int32 × MS => b = x) 0 [some (.ref (wB w + 171)), none, none] [] σ (f_X12_readLikes n  σ)
  have hJ95 : ∀ (t0 : Int32) (σ : MS), VV m_X12_readLikes w g 0 0 (QM m_X12_readLikes w g x) (fun b : Int32 × MS => b = x) 95 [none, none, none] [.int t0] σ (J_X12_readLikes_95 n t0 σ) := by
    intro t0 σ
    exact V_iretZ (pc := 95) dX12_readLikes_95 rfl (hk := fun h => h)
  have hL17 : ∀ (v1 : Int32) (n0 : Nat) (a : Int32 × MS), VV m_X12_readLikes w g 0 0 (QM m_X12_readLikes w g x) (fun b : Int32 × MS => b = x) 17 [some (.ref (wB w + 171)), some (.int v1), some (.int a.1)] [] a.2 (itr (L_X12_readLikes_17 n v1 σ) n0 a) := by
    intro v1
    refine V_itr (vf := fun a : Int32 × MS => [some (.ref (wB w + 171)), some (.int v1), some (.int a.1)]) (sf := fun a : Int32 × MS => a.2) (fun κ17 b17 r17 a17 => ?_)
    obtain ⟨a17_1, a17_2⟩ := a17
    show VV m_X12_readLikes w g 0 0 (QM m_X12_readLikes w g x) κ17 17 [some (.ref (wB w + 171)), some (.int v1), some (.int a17_1)] [] a17_2 (L_X12_readLikes_17 n v1 σ (a17_1, a17_2))
    have hJ66 : ∀ (v2 : Int32) (σ : MS), VV m_X12_readLikes w g 0 0 (QM m_X12_readLikes w g x) κ17 66 [some (.ref (wB w + 171)), some (.int v1), some (.int v2)] [] σ (J_X12_readLikes_66 n v1 v2 σ) := by
      intro v2 σ
      refine V_iincC (pc := 66) (vs' := [some (.ref (wB w + 171)), some (.int v1), some (.int (v2 + (1 : Int32)))]) dX12_readLikes_66 (Nat.le_of_ble_eq_true rfl) rfl ic_1 rfl ?_
      refine V_aload_n (pc := 69) dX12_readLikes_69 rfl rfl ?_
      refine V_dup (pc := 70) dX12_readLikes_70 rfl ?_
      refine V_geti (pc := 71) fk_X12_87 rfl dX12_readLikes_71 kc_171 rf_12_10_171 ?_
      refine V_iconst (pc := 74) dX12_readLikes_74 ic_1 ?_
      refine V_iadd (pc := 75) dX12_readLikes_75 ?_
      refine V_puti (pc := 76) fp_X12_87 rfl dX12_readLikes_76 kc_171 rf_12_10_171 (fun s76 => ?_)
      refine V_goto (pc := 79) (tgt := 17) dX12_readLikes_79 (by decide +kernel) ?_
      exact V_back (b17 ((v2 + (1 : Int32)), s76))
    refine V_aload_n (pc := 17) dX12_readLikes_17 rfl rfl ?_
    refine V_bipush (pc := 18) dX12_readLikes_18 bp_48 ?_
    refine V_bipush (pc := 20) dX12_readLikes_20 bp_57 ?_
    refine V_callVpi (pc := 22) (As := [.int (48 : Int32), .int (57 : Int32)]) (rest := []) (c_X12_isAt w (48 : Int32) (57 : Int32) a17_2) cw_X12_93 rfl rfl dX12_readLikes_22 kc_171 ci_12 ⟨Nat.le_of_ble_eq_true rfl, Nat.le_of_ble_eq_true rfl⟩ rfl rfl (Nat.le_of_ble_eq_true rfl) (Nat.le_of_ble_eq_true rfl) (Nat.le_of_ble_eq_true rfl) rfl (fun q22 => ?_)
    refine V_if_eq (pc := 25) (tgt := 82) dX12_readLikes_25 (by decide +kernel) ?_ ?_
    · refine V_exit r17 ?_
      refine V_iload_n (pc := 82) dX12_readLikes_82 rfl rfl ?_
      refine V_aload_n (pc := 83) dX12_readLikes_83 rfl rfl ?_
      refine V_callVpi (pc := 84) (As := []) (rest := [.int a17_1]) (c_X12_people w  a17_2) cw_X12_58 rfl rfl dX12_readLikes_84 kc_171 ci_12 ⟨Nat.le_of_ble_eq_true rfl, Nat.le_of_ble_eq_true rfl⟩ rfl rfl (Nat.le_of_ble_eq_true rfl) (Nat.le_of_ble_eq_true rfl) (Nat.le_of_ble_eq_true rfl) rfl (fun q84 => ?_)
      refine V_icmp_ne (pc := 87) (tgt := 94) dX12_readLikes_87 (by decide +kernel) ?_ ?_
      · refine V_iconst (pc := 94) dX12_readLikes_94 ic_0 ?_
        refine V_sub (vs' := [none, none, none]) (show vless _ _ from trivial) rfl ?_
        exact hJ95 (0 : Int32) a17_2
      · refine V_iconst (pc := 90) dX12_readLikes_90 ic_1 ?_
        refine V_goto (pc := 91) (tgt := 95) dX12_readLikes_91 (by decide +kernel) ?_
        refine V_sub (vs' := [none, none, none]) (show vless _ _ from trivial) rfl ?_
        exact hJ95 (1 : Int32) a17_2
    · refine V_iload_n (pc := 28) dX12_readLikes_28 rfl rfl ?_
      refine V_aload_n (pc := 29) dX12_readLikes_29 rfl rfl ?_
      refine V_callVpi (pc := 30) (As := []) (rest := [.int a17_1]) (c_X12_people w  a17_2) cw_X12_58 rfl rfl dX12_readLikes_30 kc_171 ci_12 ⟨Nat.le_of_ble_eq_true rfl, Nat.le_of_ble_eq_true rfl⟩ rfl rfl (Nat.le_of_ble_eq_true rfl) (Nat.le_of_ble_eq_true rfl) (Nat.le_of_ble_eq_true rfl) rfl (fun q30 => ?_)
      refine V_icmp_ge (pc := 33) (tgt := 66) dX12_readLikes_33 (by decide +kernel) ?_ ?_
      · exact hJ66 a17_1 a17_2
      · refine V_iload_n (pc := 36) dX12_readLikes_36 rfl rfl ?_
        refine V_iload_n (pc := 37) dX12_readLikes_37 rfl rfl ?_
        refine V_icmp_eq (pc := 38) (tgt := 66) dX12_readLikes_38 (by decide +kernel) ?_ ?_
        · exact hJ66 a17_1 a17_2
        · refine V_aload_n (pc := 41) dX12_readLikes_41 rfl rfl ?_
          refine V_getr (pc := 42) (t := 172) fk_X12_13 rfl dX12_readLikes_42 kc_171 rf_12_1_171 ?_
          refine V_bipush (pc := 45) dX12_readLikes_45 bp_42 ?_
          refine V_iload_n (pc := 47) dX12_readLikes_47 rfl rfl ?_
          refine V_iload_n (pc := 48) dX12_readLikes_48 rfl rfl ?_
          refine V_callSpi (pc := 49) (As := [.int v1, .int a17_1]) (rest := [.int (42 : Int32), .ref (wB w + 172)]) (c_X12_both w v1 a17_1 a17_2) cs_X12_66 rfl rfl dX12_readLikes_49 ⟨Nat.le_of_ble_eq_true rfl, Nat.le_of_ble_eq_true rfl⟩ rfl rfl (Nat.le_of_ble_eq_true rfl) (Nat.le_of_ble_eq_true rfl) (Nat.le_of_ble_eq_true rfl) rfl (fun q49 => ?_)
          refine V_iadd (pc := 52) dX12_readLikes_52 ?_
          refine V_aload_n (pc := 53) dX12_readLikes_53 rfl rfl ?_
          refine V_getr (pc := 54) (t := 177) fk_X12_29 rfl dX12_readLikes_54 kc_171 rf_12_8_171 ?_
          refine V_aload_n (pc := 57) dX12_readLikes_57 rfl rfl ?_
          refine V_geti (pc := 58) fk_X12_87 rfl dX12_readLikes_58 kc_171 rf_12_10_171 ?_
          refine V_bald (pc := 61) (n := 400) dX12_readLikes_61 kc_177 lc_177 ?_
          refine V_bipush (pc := 62) dX12_readLikes_62 bp_48 ?_
          refine V_isub (pc := 64) dX12_readLikes_64 ?_
          refine V_iast (pc := 65) (n := 2172) dX12_readLikes_65 kc_172 lc_172 (fun s65 => ?_)
          exact hJ66 a17_1 s65
  refine V_aload_n (pc := 0) dX12_readLikes_0 rfl rfl ?_
  refine V_callVi (pc := 1) (As := []) (rest := []) (c_X12_personTold w n  σ) cw_X12_121 rfl rfl dX12_readLikes_1 kc_171 ci_12 ⟨Nat.le_of_ble_eq_true rfl, Nat.le_of_ble_eq_true rfl⟩ rfl rfl (Nat.le_of_ble_eq_true rfl) (Nat.le_of_ble_eq_true rfl) (Nat.le_of_ble_eq_true rfl) rfl (fun q1 => ?_)
  refine V_istore_n (pc := 4) (vs' := [some (.ref (wB w + 171)), some (.int q1.1), none]) dX12_readLikes_4 rfl (Nat.le_of_ble_eq_true rfl) (Nat.le_of_ble_eq_true rfl) rfl ?_
  refine V_iload_n (pc := 5) dX12_readLikes_5 rfl rfl ?_
  refine V_if_ge (pc := 6) (tgt := 11) dX12_readLikes_6 (by decide +kernel) ?_ ?_
  · refine V_aload_n (pc := 11) dX12_readLikes_11 rfl rfl ?_
    refine V_callVv (pc := 12) (As := []) (rest := []) (c_X12_blanks w n  q1.2) cw_X12_99 rfl rfl dX12_readLikes_12 kc_171 ci_12 ⟨Nat.le_of_ble_eq_true rfl, Nat.le_of_ble_eq_true rfl⟩ rfl rfl (Nat.le_of_ble_eq_true rfl) (Nat.le_of_ble_eq_true rfl) (Nat.le_of_ble_eq_true rfl) rfl (fun q12 => ?_)
    refine V_iconst (pc := 15) dX12_readLikes_15 ic_0 ?_
    refine V_istore_n (pc := 16) (vs' := [some (.ref (wB w + 171)), some (.int q1.1), some (.int (0 : Int32))]) dX12_readLikes_16 rfl (Nat.le_of_ble_eq_true rfl) (Nat.le_of_ble_eq_true rfl) rfl ?_
    exact hL17 q1.1 n ((0 : Int32), q12.2)
  · refine V_iconst (pc := 9) dX12_readLikes_9 ic_0 ?_
    exact V_iretz (pc := 10) dX12_readLikes_10 rfl rfl (hk := fun h => h)
def f_X12_weds (p1 : Int32) (p2 : Int32) (σ : MS) : Option (Int32 × MS) := ((f_X12_at p1 (1 : Int32) σ).bind (fun q6 => (if inb q6 2172 then ltM (mu σ 172 (ix q6) p2) (fun s10 => ((f_X12_at p2 (1 : Int32) s10).bind (fun q17 => (if inb q17 2172 then ltM (mu s10 172 (ix q17) p1) (fun s21 => some (0, s21)) else none)))) else none)))
set_option maxRecDepth 20000 in
set_option maxHeartbeats 2000000 in
theorem c_X12_weds (w : TG) (p1 : Int32) (p2 : Int32) (σ : MS) : MC m_X12_weds w [.ref (wB w + 171), .int p1, .int p2] σ (f_X12_weds p1 p2 σ) := by
  refine V_meth (by decide +kernel) (Nat.le_of_ble_eq_true rfl) (by intro v hv; simp only [List.mem_cons, List.not_mem_nil, or_false] at hv; rcases hv with rfl | rfl | rfl <;> rfl) (fun g x => ?_)
  show VV m_X12_weds w g 0 0 (QM m_X12_weds w g x) (fun b : Int32 × MS => b = x) 0 [some (.ref (wB w + 171)), some (.int p1), some (.int p2)] [] σ (f_X12_weds p1 p2 σ)
  refine V_aload_n (pc := 0) dX12_weds_0 rfl rfl ?_
  refine V_getr (pc := 1) (t := 172) fk_X12_13 rfl dX12_weds_1 kc_171 rf_12_1_171 ?_
  refine V_iload_n (pc := 4) dX12_weds_4 rfl rfl ?_
  refine V_iconst (pc := 5) dX12_weds_5 ic_1 ?_
  refine V_callSpi (pc := 6) (As := [.int p1, .int (1 : Int32)]) (rest := [.ref (wB w + 172)]) (c_X12_at w p1 (1 : Int32) σ) cs_X12_62 rfl rfl dX12_weds_6 ⟨Nat.le_of_ble_eq_true rfl, Nat.le_of_ble_eq_true rfl⟩ rfl rfl (Nat.le_of_ble_eq_true rfl) (Nat.le_of_ble_eq_true rfl) (Nat.le_of_ble_eq_true rfl) rfl (fun q6 => ?_)
  refine V_iload_n (pc := 9) dX12_weds_9 rfl rfl ?_
  refine V_iast (pc := 10) (n := 2172) dX12_weds_10 kc_172 lc_172 (fun s10 => ?_)
  refine V_aload_n (pc := 11) dX12_weds_11 rfl rfl ?_
  refine V_getr (pc := 12) (t := 172) fk_X12_13 rfl dX12_weds_12 kc_171 rf_12_1_171 ?_
  refine V_iload_n (pc := 15) dX12_weds_15 rfl rfl ?_
  refine V_iconst (pc := 16) dX12_weds_16 ic_1 ?_
  refine V_callSpi (pc := 17) (As := [.int p2, .int (1 : Int32)]) (rest := [.ref (wB w + 172)]) (c_X12_at w p2 (1 : Int32) s10) cs_X12_62 rfl rfl dX12_weds_17 ⟨Nat.le_of_ble_eq_true rfl, Nat.le_of_ble_eq_true rfl⟩ rfl rfl (Nat.le_of_ble_eq_true rfl) (Nat.le_of_ble_eq_true rfl) (Nat.le_of_ble_eq_true rfl) rfl (fun q17 => ?_)
  refine V_iload_n (pc := 20) dX12_weds_20 rfl rfl ?_
  refine V_iast (pc := 21) (n := 2172) dX12_weds_21 kc_172 lc_172 (fun s21 => ?_)
  exact V_ret (pc := 22) dX12_weds_22 rfl (hk := fun h => h)
def J_X12_readWed_39 (n : Nat)  (σ : MS) : Option (Int32 × MS) := some ((0 : Int32), σ)
def J_X12_readWed_18 (n : Nat)  (σ : MS) : Option (Int32 × MS) := some ((0 : Int32), σ)
def f_X12_readWed (n : Nat)  (σ : MS) : Option (Int32 × MS) := ((f_X12_personTold n  σ).bind (fun q1 => (if q1.1 < 0 then J_X12_readWed_18 n  q1.2 else ((f_X12_of q1.1 (1 : Int32) q1.2).bind (fun q12 => (if q12 < 0 then ((f_X12_otherTold n q1.1 q1.2).bind (fun q22 => (if q22.1 < 0 then J_X12_readWed_39 n  q22.2 else ((f_X12_of q22.1 (1 : Int32) q22.2).bind (fun q33 => (if q33 < 0 then ((f_X12_weds q1.1 q22.1 q22.2).bind (fun q44 => some ((1 : Int32), q44.2))) else J_X12_readWed_39 n  q22.2)))))) else J_X12_readWed_18 n  q1.2))))))
set_option maxRecDepth 20000 in
set_option maxHeartbeats 2000000 in
theorem c_X12_readWed (w : TG) (n : Nat)  (σ : MS) : MC m_X12_readWed w [.ref (wB w + 171)] σ (f_X12_readWed n  σ) := by
  refine V_meth (by decide +kernel) (Nat.le_of_ble_eq_true rfl) (by intro v hv; simp only [List.mem_cons, List.not_mem_nil, or_false] at hv; subst hv; rfl) (fun g x => ?_)
  show VV m_X12_readWed w g 0 0 (QM m_X12_readWed w g x) (fun b : Int32 × MS => b = x) 0 [some (.ref (wB w + 171)), none, none] [] σ (f_X12_readWed n  σ)
  have hJ39 : ∀ (σ : MS), VV m_X12_readWed w g 0 0 (QM m_X12_readWed w g x) (fun b : Int32 × MS => b = x) 39 [none, none, none] [] σ (J_X12_readWed_39 n  σ) := by
    intro σ
    refine V_iconst (pc := 39) dX12_readWed_39 ic_0 ?_
    exact V_iretz (pc := 40) dX12_readWed_40 rfl rfl (hk := fun h => h)
  have hJ18 : ∀ (σ : MS), VV m_X12_readWed w g 0 0 (QM m_X12_readWed w g x) (fun b : Int32 × MS => b = x) 18 [none, none, none] [] σ (J_X12_readWed_18 n  σ) := by
    intro σ
    refine V_iconst (pc := 18) dX12_readWed_18 ic_0 ?_
    exact V_iretz (pc := 19) dX12_readWed_19 rfl rfl (hk := fun h => h)
  refine V_aload_n (pc := 0) dX12_readWed_0 rfl rfl ?_
  refine V_callVi (pc := 1) (As := []) (rest := []) (c_X12_personTold w n  σ) cw_X12_121 rfl rfl dX12_readWed_1 kc_171 ci_12 ⟨Nat.le_of_ble_eq_true rfl, Nat.le_of_ble_eq_true rfl⟩ rfl rfl (Nat.le_of_ble_eq_true rfl) (Nat.le_of_ble_eq_true rfl) (Nat.le_of_ble_eq_true rfl) rfl (fun q1 => ?_)
  refine V_istore_n (pc := 4) (vs' := [some (.ref (wB w + 171)), some (.int q1.1), none]) dX12_readWed_4 rfl (Nat.le_of_ble_eq_true rfl) (Nat.le_of_ble_eq_true rfl) rfl ?_
  refine V_iload_n (pc := 5) dX12_readWed_5 rfl rfl ?_
  refine V_if_lt (pc := 6) (tgt := 18) dX12_readWed_6 (by decide +kernel) ?_ ?_
  · refine V_sub (vs' := [none, none, none]) (show vless _ _ from trivial) rfl ?_
    exact hJ18 q1.2
  · refine V_aload_n (pc := 9) dX12_readWed_9 rfl rfl ?_
    refine V_iload_n (pc := 10) dX12_readWed_10 rfl rfl ?_
    refine V_iconst (pc := 11) dX12_readWed_11 ic_1 ?_
    refine V_callVpi (pc := 12) (As := [.int q1.1, .int (1 : Int32)]) (rest := []) (c_X12_of w q1.1 (1 : Int32) q1.2) cw_X12_73 rfl rfl dX12_readWed_12 kc_171 ci_12 ⟨Nat.le_of_ble_eq_true rfl, Nat.le_of_ble_eq_true rfl⟩ rfl rfl (Nat.le_of_ble_eq_true rfl) (Nat.le_of_ble_eq_true rfl) (Nat.le_of_ble_eq_true rfl) rfl (fun q12 => ?_)
    refine V_if_lt (pc := 15) (tgt := 20) dX12_readWed_15 (by decide +kernel) ?_ ?_
    · refine V_aload_n (pc := 20) dX12_readWed_20 rfl rfl ?_
      refine V_iload_n (pc := 21) dX12_readWed_21 rfl rfl ?_
      refine V_callVi (pc := 22) (As := [.int q1.1]) (rest := []) (c_X12_otherTold w n q1.1 q1.2) cw_X12_125 rfl rfl dX12_readWed_22 kc_171 ci_12 ⟨Nat.le_of_ble_eq_true rfl, Nat.le_of_ble_eq_true rfl⟩ rfl rfl (Nat.le_of_ble_eq_true rfl) (Nat.le_of_ble_eq_true rfl) (Nat.le_of_ble_eq_true rfl) rfl (fun q22 => ?_)
      refine V_istore_n (pc := 25) (vs' := [some (.ref (wB w + 171)), some (.int q1.1), some (.int q22.1)]) dX12_readWed_25 rfl (Nat.le_of_ble_eq_true rfl) (Nat.le_of_ble_eq_true rfl) rfl ?_
      refine V_iload_n (pc := 26) dX12_readWed_26 rfl rfl ?_
      refine V_if_lt (pc := 27) (tgt := 39) dX12_readWed_27 (by decide +kernel) ?_ ?_
      · refine V_sub (vs' := [none, none, none]) (show vless _ _ from trivial) rfl ?_
        exact hJ39 q22.2
      · refine V_aload_n (pc := 30) dX12_readWed_30 rfl rfl ?_
        refine V_iload_n (pc := 31) dX12_readWed_31 rfl rfl ?_
        refine V_iconst (pc := 32) dX12_readWed_32 ic_1 ?_
        refine V_callVpi (pc := 33) (As := [.int q22.1, .int (1 : Int32)]) (rest := []) (c_X12_of w q22.1 (1 : Int32) q22.2) cw_X12_73 rfl rfl dX12_readWed_33 kc_171 ci_12 ⟨Nat.le_of_ble_eq_true rfl, Nat.le_of_ble_eq_true rfl⟩ rfl rfl (Nat.le_of_ble_eq_true rfl) (Nat.le_of_ble_eq_true rfl) (Nat.le_of_ble_eq_true rfl) rfl (fun q33 => ?_)
        refine V_if_lt (pc := 36) (tgt := 41) dX12_readWed_36 (by decide +kernel) ?_ ?_
        · refine V_aload_n (pc := 41) dX12_readWed_41 rfl rfl ?_
          refine V_iload_n (pc := 42) dX12_readWed_42 rfl rfl ?_
          refine V_iload_n (pc := 43) dX12_readWed_43 rfl rfl ?_
          refine V_callVv (pc := 44) (As := [.int q1.1, .int q22.1]) (rest := []) (c_X12_weds w q1.1 q22.1 q22.2) cw_X12_129 rfl rfl dX12_readWed_44 kc_171 ci_12 ⟨Nat.le_of_ble_eq_true rfl, Nat.le_of_ble_eq_true rfl⟩ rfl rfl (Nat.le_of_ble_eq_true rfl) (Nat.le_of_ble_eq_true rfl) (Nat.le_of_ble_eq_true rfl) rfl (fun q44 => ?_)
          refine V_iconst (pc := 47) dX12_readWed_47 ic_1 ?_
          exact V_iretz (pc := 48) dX12_readWed_48 rfl rfl (hk := fun h => h)
        · refine V_sub (vs' := [none, none, none]) (show vless _ _ from trivial) rfl ?_
          exact hJ39 q22.2
    · refine V_sub (vs' := [none, none, none]) (show vless _ _ from trivial) rfl ?_
      exact hJ18 q1.2
def J_X12_readFlour_106 (n : Nat) (v2 : Int32) (σ : MS) : Option (Int32 × MS) := (if v2 = 0 ∨ v2 = 1 then some (v2, σ) else none)
def J_X12_readFlour_95 (n : Nat) (v1 : Int32) (v2 : Int32) (σ : MS) : Option (Int32 × MS) := (if v2 = 0 then J_X12_readFlour_106 n v2 σ else (ltM (mu σ 172 4 v1) (fun s105 => J_X12_readFlour_106 n v2 s105)))
def J_X12_readFlour_87 (n : Nat) (v2 : Int32) (v3 : Int32) (t0 : Int32) (t1 : Int32) (σ : MS) : Option ((Int32 × Int32 × Int32) ⊕ (Int32 × MS)) := some (.inl ((t1 ||| t0), v2, (v3 + (1 : Int32))))
def J_X12_readFlour_73 (n : Nat) (v1 : Int32) (v3 : Int32) (v4 : Int32) (t0 : Int32) (σ : MS) : Option ((Int32 × Int32 × Int32) ⊕ (Int32 × MS)) := (if t0 = 0 then J_X12_readFlour_87 n t0 v3 (0 : Int32) v1 σ else J_X12_readFlour_87 n t0 v3 (shlI (1 : Int32) v4) v1 σ)
def J_X12_readFlour_72 (n : Nat) (v1 : Int32) (v3 : Int32) (v4 : Int32) (σ : MS) : Option ((Int32 × Int32 × Int32) ⊕ (Int32 × MS)) := J_X12_readFlour_73 n v1 v3 v4 (0 : Int32) σ
def L_X12_readFlour_28 (n : Nat)  (σ : MS) (a28 : Int32 × Int32 × Int32) : Option ((Int32 × Int32 × Int32) ⊕ (Int32 × MS)) := (if (σ 171 10) ≤ a28.2.2 then (J_X12_readFlour_95 n a28.1 a28.2.1 σ).map Sum.inr else (if a28.2.1 = 0 then (J_X12_readFlour_95 n a28.1 a28.2.1 σ).map Sum.inr else (if inb a28.2.2 400 then ((f_X12_noRoom ((σ 177 (ix a28.2.2)) - (97 : Int32)) σ).bind (fun q53 => (if q53 = 0 then ((f_X12_has a28.1 ((σ 177 (ix a28.2.2)) - (97 : Int32)) σ).bind (fun q62 => (if q62 = 0 then J_X12_readFlour_73 n a28.1 a28.2.2 ((σ 177 (ix a28.2.2)) - (97 : Int32)) (1 : Int32) σ else J_X12_readFlour_72 n a28.1 a28.2.2 ((σ 177 (ix a28.2.2)) - (97 : Int32)) σ))) else J_X12_readFlour_72 n a28.1 a28.2.2 ((σ 177 (ix a28.2.2)) - (97 : Int32)) σ))) else none)))
def J_X12_readFlour_22 (n : Nat) (v1 : Int32) (t0 : Int32) (σ : MS) : Option (Int32 × MS) := itr (L_X12_readFlour_28 n  σ) n (v1, t0, (σ 171 12))
def f_X12_readFlour (n : Nat)  (σ : MS) : Option (Int32 × MS) := ((f_X12_letters n  σ).bind (fun q1 => (if (q1.2 171 10) ≤ (q1.2 171 12) then J_X12_readFlour_22 n (0 : Int32) (0 : Int32) q1.2 else J_X12_readFlour_22 n (0 : Int32) (1 : Int32) q1.2)))
set_option maxRecDepth 20000 in
set_option maxHeartbeats 2000000 in
theorem c_X12_readFlour (w : TG) (n : Nat)  (σ : MS) : MC m_X12_readFlour w [.ref (wB w + 171)] σ (f_X12_readFlour n  σ) := by
  refine V_meth (by decide +kernel) (Nat.le_of_ble_eq_true rfl) (by intro v hv; simp only [List.mem_cons, List.not_mem_nil, or_false] at hv; subst hv; rfl) (fun g x => ?_)
  show VV m_X12_readFlour w g 0 0 (QM m_X12_readFlour w g x) (fun b : Int32 × MS => b = x) 0 [some (.ref (wB w + 171)), none, none, none, none] [] σ (f_X12_readFlour n  σ)
  have hJ106 : ∀ (v2 : Int32) (σ : MS), VV m_X12_readFlour w g 0 0 (QM m_X12_readFlour w g x) (fun b : Int32 × MS => b = x) 106 [none, none, some (.int v2), none, none] [] σ (J_X12_readFlour_106 n v2 σ) := by
    intro v2 σ
    refine V_iload_n (pc := 106) dX12_readFlour_106 rfl rfl ?_
    exact V_iretZ (pc := 107) dX12_readFlour_107 rfl (hk := fun h => h)
  have hJ95 : ∀ (v1 : Int32) (v2 : Int32) (σ : MS), VV m_X12_readFlour w g 0 0 (QM m_X12_readFlour w g x) (fun b : Int32 × MS => b = x) 95 [some (.ref (wB w + 171)), some (.int v1), some (.int v2), none, none] [] σ (J_X12_readFlour_95 n v1 v2 σ) := by
    intro v1 v2 σ
    refine V_iload_n (pc := 95) dX12_readFlour_95 rfl rfl ?_
    refine V_if_eq (pc := 96) (tgt := 106) dX12_readFlour_96 (by decide +kernel) ?_ ?_
    · refine V_sub (vs' := [none, none, some (.int v2), none, none]) (show vless _ _ from ⟨rfl, trivial⟩) rfl ?_
      exact hJ106 v2 σ
    · refine V_aload_n (pc := 99) dX12_readFlour_99 rfl rfl ?_
      refine V_getr (pc := 100) (t := 172) fk_X12_13 rfl dX12_readFlour_100 kc_171 rf_12_1_171 ?_
      refine V_iconst (pc := 103) dX12_readFlour_103 ic_4 ?_
      refine V_iload_n (pc := 104) dX12_readFlour_104 rfl rfl ?_
      refine V_iastC (pc := 105) (n := 2172) dX12_readFlour_105 kc_172 lc_172 inb_4_2172 (fun s105 => ?_)
      refine V_sub (vs' := [none, none, some (.int v2), none, none]) (show vless _ _ from ⟨rfl, trivial⟩) rfl ?_
      exact hJ106 v2 s105
  have hL28 : ∀ (σ : MS) (n0 : Nat) (a : Int32 × Int32 × Int32), VV m_X12_readFlour w g 0 0 (QM m_X12_readFlour w g x) (fun b : Int32 × MS => b = x) 28 [some (.ref (wB w + 171)), some (.int a.1), some (.int a.2.1), some (.int a.2.2), none] [] σ (itr (L_X12_readFlour_28 n  σ) n0 a) := by
    intro σ
    refine V_itr (vf := fun a : Int32 × Int32 × Int32 => [some (.ref (wB w + 171)), some (.int a.1), some (.int a.2.1), some (.int a.2.2), none]) (sf := fun a : Int32 × Int32 × Int32 => σ) (fun κ28 b28 r28 a28 => ?_)
    obtain ⟨a28_1, a28_2, a28_3⟩ := a28
    show VV m_X12_readFlour w g 0 0 (QM m_X12_readFlour w g x) κ28 28 [some (.ref (wB w + 171)), some (.int a28_1), some (.int a28_2), some (.int a28_3), none] [] σ (L_X12_readFlour_28 n  σ (a28_1, a28_2, a28_3))
    have hJ87 : ∀ (v2 : Int32) (v3 : Int32) (t0 : Int32) (t1 : Int32), VV m_X12_readFlour w g 0 0 (QM m_X12_readFlour w g x) κ28 87 [some (.ref (wB w + 171)), none, some (.int v2), some (.int v3), none] [.int t0, .int t1] σ (J_X12_readFlour_87 n v2 v3 t0 t1 σ) := by
      intro v2 v3 t0 t1
      refine V_ior (pc := 87) dX12_readFlour_87 ?_
      refine V_istore_n (pc := 88) (vs' := [some (.ref (wB w + 171)), some (.int (t1 ||| t0)), some (.int v2), some (.int v3), none]) dX12_readFlour_88 rfl (Nat.le_of_ble_eq_true rfl) (Nat.le_of_ble_eq_true rfl) rfl ?_
      refine V_iincC (pc := 89) (vs' := [some (.ref (wB w + 171)), some (.int (t1 ||| t0)), some (.int v2), some (.int (v3 + (1 : Int32))), none]) dX12_readFlour_89 (Nat.le_of_ble_eq_true rfl) rfl ic_1 rfl ?_
      refine V_goto (pc := 92) (tgt := 28) dX12_readFlour_92 (by decide +kernel) ?_
      exact V_back (b28 ((t1 ||| t0), v2, (v3 + (1 : Int32))))
    have hJ73 : ∀ (v1 : Int32) (v3 : Int32) (v4 : Int32) (t0 : Int32), VV m_X12_readFlour w g 0 0 (QM m_X12_readFlour w g x) κ28 73 [some (.ref (wB w + 171)), some (.int v1), none, some (.int v3), some (.int v4)] [.int t0] σ (J_X12_readFlour_73 n v1 v3 v4 t0 σ) := by
      intro v1 v3 v4 t0
      refine V_istore_n (pc := 73) (vs' := [some (.ref (wB w + 171)), some (.int v1), some (.int t0), some (.int v3), some (.int v4)]) dX12_readFlour_73 rfl (Nat.le_of_ble_eq_true rfl) (Nat.le_of_ble_eq_true rfl) rfl ?_
      refine V_iload_n (pc := 74) dX12_readFlour_74 rfl rfl ?_
      refine V_iload_n (pc := 75) dX12_readFlour_75 rfl rfl ?_
      refine V_if_eq (pc := 76) (tgt := 86) dX12_readFlour_76 (by decide +kernel) ?_ ?_
      · refine V_iconst (pc := 86) dX12_readFlour_86 ic_0 ?_
        refine V_sub (vs' := [some (.ref (wB w + 171)), none, some (.int t0), some (.int v3), none]) (show vless _ _ from ⟨rfl, ⟨rfl, ⟨rfl, trivial⟩⟩⟩) rfl ?_
        exact hJ87 t0 v3 (0 : Int32) v1
      · refine V_iconst (pc := 79) dX12_readFlour_79 ic_1 ?_
        refine V_iload (pc := 80) dX12_readFlour_80 rfl ?_
        refine V_ishl (pc := 82) dX12_readFlour_82 ?_
        refine V_goto (pc := 83) (tgt := 87) dX12_readFlour_83 (by decide +kernel) ?_
        refine V_sub (vs' := [some (.ref (wB w + 171)), none, some (.int t0), some (.int v3), none]) (show vless _ _ from ⟨rfl, ⟨rfl, ⟨rfl, trivial⟩⟩⟩) rfl ?_
        exact hJ87 t0 v3 (shlI (1 : Int32) v4) v1
    have hJ72 : ∀ (v1 : Int32) (v3 : Int32) (v4 : Int32), VV m_X12_readFlour w g 0 0 (QM m_X12_readFlour w g x) κ28 72 [some (.ref (wB w + 171)), some (.int v1), none, some (.int v3), some (.int v4)] [] σ (J_X12_readFlour_72 n v1 v3 v4 σ) := by
      intro v1 v3 v4
      refine V_iconst (pc := 72) dX12_readFlour_72 ic_0 ?_
      exact hJ73 v1 v3 v4 (0 : Int32)
    refine V_iload_n (pc := 28) dX12_readFlour_28 rfl rfl ?_
    refine V_aload_n (pc := 29) dX12_readFlour_29 rfl rfl ?_
    refine V_geti (pc := 30) fk_X12_87 rfl dX12_readFlour_30 kc_171 rf_12_10_171 ?_
    refine V_icmp_ge (pc := 33) (tgt := 95) dX12_readFlour_33 (by decide +kernel) ?_ ?_
    · refine V_exit r28 ?_
      refine V_sub (vs' := [some (.ref (wB w + 171)), some (.int a28_1), some (.int a28_2), none, none]) (show vless _ _ from ⟨rfl, ⟨rfl, ⟨rfl, trivial⟩⟩⟩) rfl ?_
      exact hJ95 a28_1 a28_2 σ
    · refine V_iload_n (pc := 36) dX12_readFlour_36 rfl rfl ?_
      refine V_if_eq (pc := 37) (tgt := 95) dX12_readFlour_37 (by decide +kernel) ?_ ?_
      · refine V_exit r28 ?_
        refine V_sub (vs' := [some (.ref (wB w + 171)), some (.int a28_1), some (.int a28_2), none, none]) (show vless _ _ from ⟨rfl, ⟨rfl, ⟨rfl, trivial⟩⟩⟩) rfl ?_
        exact hJ95 a28_1 a28_2 σ
      · refine V_aload_n (pc := 40) dX12_readFlour_40 rfl rfl ?_
        refine V_getr (pc := 41) (t := 177) fk_X12_29 rfl dX12_readFlour_41 kc_171 rf_12_8_171 ?_
        refine V_iload_n (pc := 44) dX12_readFlour_44 rfl rfl ?_
        refine V_bald (pc := 45) (n := 400) dX12_readFlour_45 kc_177 lc_177 ?_
        refine V_bipush (pc := 46) dX12_readFlour_46 bp_97 ?_
        refine V_isub (pc := 48) dX12_readFlour_48 ?_
        refine V_istore (pc := 49) (vs' := [some (.ref (wB w + 171)), some (.int a28_1), some (.int a28_2), some (.int a28_3), some (.int ((σ 177 (ix a28_3)) - (97 : Int32)))]) dX12_readFlour_49 (Nat.le_of_ble_eq_true rfl) (Nat.le_of_ble_eq_true rfl) rfl ?_
        refine V_iload (pc := 51) dX12_readFlour_51 rfl ?_
        refine V_callSpi (pc := 53) (As := [.int ((σ 177 (ix a28_3)) - (97 : Int32))]) (rest := []) (c_X12_noRoom w ((σ 177 (ix a28_3)) - (97 : Int32)) σ) cs_X12_133 rfl rfl dX12_readFlour_53 ⟨Nat.le_of_ble_eq_true rfl, Nat.le_of_ble_eq_true rfl⟩ rfl rfl (Nat.le_of_ble_eq_true rfl) (Nat.le_of_ble_eq_true rfl) (Nat.le_of_ble_eq_true rfl) rfl (fun q53 => ?_)
        refine V_if_ne (pc := 56) (tgt := 72) dX12_readFlour_56 (by decide +kernel) ?_ ?_
        · refine V_sub (vs' := [some (.ref (wB w + 171)), some (.int a28_1), none, some (.int a28_3), some (.int ((σ 177 (ix a28_3)) - (97 : Int32)))]) (show vless _ _ from ⟨rfl, ⟨rfl, ⟨rfl, ⟨rfl, trivial⟩⟩⟩⟩) rfl ?_
          exact hJ72 a28_1 a28_3 ((σ 177 (ix a28_3)) - (97 : Int32))
        · refine V_iload_n (pc := 59) dX12_readFlour_59 rfl rfl ?_
          refine V_iload (pc := 60) dX12_readFlour_60 rfl ?_
          refine V_callSpi (pc := 62) (As := [.int a28_1, .int ((σ 177 (ix a28_3)) - (97 : Int32))]) (rest := []) (c_X12_has w a28_1 ((σ 177 (ix a28_3)) - (97 : Int32)) σ) cs_X12_76 rfl rfl dX12_readFlour_62 ⟨Nat.le_of_ble_eq_true rfl, Nat.le_of_ble_eq_true rfl⟩ rfl rfl (Nat.le_of_ble_eq_true rfl) (Nat.le_of_ble_eq_true rfl) (Nat.le_of_ble_eq_true rfl) rfl (fun q62 => ?_)
          refine V_if_ne (pc := 65) (tgt := 72) dX12_readFlour_65 (by decide +kernel) ?_ ?_
          · refine V_sub (vs' := [some (.ref (wB w + 171)), some (.int a28_1), none, some (.int a28_3), some (.int ((σ 177 (ix a28_3)) - (97 : Int32)))]) (show vless _ _ from ⟨rfl, ⟨rfl, ⟨rfl, ⟨rfl, trivial⟩⟩⟩⟩) rfl ?_
            exact hJ72 a28_1 a28_3 ((σ 177 (ix a28_3)) - (97 : Int32))
          · refine V_iconst (pc := 68) dX12_readFlour_68 ic_1 ?_
            refine V_goto (pc := 69) (tgt := 73) dX12_readFlour_69 (by decide +kernel) ?_
            refine V_sub (vs' := [some (.ref (wB w + 171)), some (.int a28_1), none, some (.int a28_3), some (.int ((σ 177 (ix a28_3)) - (97 : Int32)))]) (show vless _ _ from ⟨rfl, ⟨rfl, ⟨rfl, ⟨rfl, trivial⟩⟩⟩⟩) rfl ?_
            exact hJ73 a28_1 a28_3 ((σ 177 (ix a28_3)) - (97 : Int32)) (1 : Int32)
  have hJ22 : ∀ (v1 : Int32) (t0 : Int32) (σ : MS), VV m_X12_readFlour w g 0 0 (QM m_X12_readFlour w g x) (fun b : Int32 × MS => b = x) 22 [some (.ref (wB w + 171)), some (.int v1), none, none, none] [.int t0] σ (J_X12_readFlour_22 n v1 t0 σ) := by
    intro v1 t0 σ
    refine V_istore_n (pc := 22) (vs' := [some (.ref (wB w + 171)), some (.int v1), some (.int t0), none, none]) dX12_readFlour_22 rfl (Nat.le_of_ble_eq_true rfl) (Nat.le_of_ble_eq_true rfl) rfl ?_
    refine V_aload_n (pc := 23) dX12_readFlour_23 rfl rfl ?_
    refine V_geti (pc := 24) fk_X12_96 rfl dX12_readFlour_24 kc_171 rf_12_12_171 ?_
    refine V_istore_n (pc := 27) (vs' := [some (.ref (wB w + 171)), some (.int v1), some (.int t0), some (.int (σ 171 12)), none]) dX12_readFlour_27 rfl (Nat.le_of_ble_eq_true rfl) (Nat.le_of_ble_eq_true rfl) rfl ?_
    exact hL28 σ n (v1, t0, (σ 171 12))
  refine V_aload_n (pc := 0) dX12_readFlour_0 rfl rfl ?_
  refine V_callVv (pc := 1) (As := []) (rest := []) (c_X12_letters w n  σ) cw_X12_111 rfl rfl dX12_readFlour_1 kc_171 ci_12 ⟨Nat.le_of_ble_eq_true rfl, Nat.le_of_ble_eq_true rfl⟩ rfl rfl (Nat.le_of_ble_eq_true rfl) (Nat.le_of_ble_eq_true rfl) (Nat.le_of_ble_eq_true rfl) rfl (fun q1 => ?_)
  refine V_iconst (pc := 4) dX12_readFlour_4 ic_0 ?_
  refine V_istore_n (pc := 5) (vs' := [some (.ref (wB w + 171)), some (.int (0 : Int32)), none, none, none]) dX12_readFlour_5 rfl (Nat.le_of_ble_eq_true rfl) (Nat.le_of_ble_eq_true rfl) rfl ?_
  refine V_aload_n (pc := 6) dX12_readFlour_6 rfl rfl ?_
  refine V_geti (pc := 7) fk_X12_87 rfl dX12_readFlour_7 kc_171 rf_12_10_171 ?_
  refine V_aload_n (pc := 10) dX12_readFlour_10 rfl rfl ?_
  refine V_geti (pc := 11) fk_X12_96 rfl dX12_readFlour_11 kc_171 rf_12_12_171 ?_
  refine V_icmp_le (pc := 14) (tgt := 21) dX12_readFlour_14 (by decide +kernel) ?_ ?_
  · refine V_iconst (pc := 21) dX12_readFlour_21 ic_0 ?_
    exact hJ22 (0 : Int32) (0 : Int32) q1.2
  · refine V_iconst (pc := 17) dX12_readFlour_17 ic_1 ?_
    refine V_goto (pc := 18) (tgt := 22) dX12_readFlour_18 (by decide +kernel) ?_
    exact hJ22 (0 : Int32) (1 : Int32) q1.2
def J_X12_readBond_45 (n : Nat) (v1 : Int32) (v2 : Int32) (v3 : Int32) (t0 : Int32) (σ : MS) : Option (Int32 × MS) := (if 0 ≤ t0 then ((f_X12_binds v1 v2 v3 t0 σ).bind (fun q60 => some ((1 : Int32), q60.2))) else some ((0 : Int32), σ))
def J_X12_readBond_26 (n : Nat) (v1 : Int32) (v2 : Int32) (t0 : Int32) (σ : MS) : Option (Int32 × MS) := (if 0 ≤ t0 then ((f_X12_after n 1 (1 : Int32) (999 : Int32) σ).bind (fun q42 => J_X12_readBond_45 n v1 v2 t0 q42.1 q42.2)) else J_X12_readBond_45 n v1 v2 t0 (-1 : Int32) σ)
def f_X12_readBond (n : Nat)  (σ : MS) : Option (Int32 × MS) := ((f_X12_personTold n  σ).bind (fun q1 => ((f_X12_otherTold n q1.1 q1.2).bind (fun q7 => (if 0 ≤ q7.1 then ((f_X12_number n (1 : Int32) (9 : Int32) q7.2).bind (fun q23 => J_X12_readBond_26 n q1.1 q7.1 q23.1 q23.2)) else J_X12_readBond_26 n q1.1 q7.1 (-1 : Int32) q7.2)))))
set_option maxRecDepth 20000 in
set_option maxHeartbeats 2000000 in
theorem c_X12_readBond (w : TG) (n : Nat)  (σ : MS) : MC m_X12_readBond w [.ref (wB w + 171)] σ (f_X12_readBond n  σ) := by
  refine V_meth (by decide +kernel) (Nat.le_of_ble_eq_true rfl) (by intro v hv; simp only [List.mem_cons, List.not_mem_nil, or_false] at hv; subst hv; rfl) (fun g x => ?_)
  show VV m_X12_readBond w g 0 0 (QM m_X12_readBond w g x) (fun b : Int32 × MS => b = x) 0 [some (.ref (wB w + 171)), none, none, none, none] [] σ (f_X12_readBond n  σ)
  have hJ45 : ∀ (v1 : Int32) (v2 : Int32) (v3 : Int32) (t0 : Int32) (σ : MS), VV m_X12_readBond w g 0 0 (QM m_X12_readBond w g x) (fun b : Int32 × MS => b = x) 45 [some (.ref (wB w + 171)), some (.int v1), some (.int v2), some (.int v3), none] [.int t0] σ (J_X12_readBond_45 n v1 v2 v3 t0 σ) := by
    intro v1 v2 v3 t0 σ
    refine V_istore (pc := 45) (vs' := [some (.ref (wB w + 171)), some (.int v1), some (.int v2), some (.int v3), some (.int t0)]) dX12_readBond_45 (Nat.le_of_ble_eq_true rfl) (Nat.le_of_ble_eq_true rfl) rfl ?_
    refine V_iload (pc := 47) dX12_readBond_47 rfl ?_
    refine V_if_ge (pc := 49) (tgt := 54) dX12_readBond_49 (by decide +kernel) ?_ ?_
    · refine V_aload_n (pc := 54) dX12_readBond_54 rfl rfl ?_
      refine V_iload_n (pc := 55) dX12_readBond_55 rfl rfl ?_
      refine V_iload_n (pc := 56) dX12_readBond_56 rfl rfl ?_
      refine V_iload_n (pc := 57) dX12_readBond_57 rfl rfl ?_
      refine V_iload (pc := 58) dX12_readBond_58 rfl ?_
      refine V_callVv (pc := 60) (As := [.int v1, .int v2, .int v3, .int t0]) (rest := []) (c_X12_binds w v1 v2 v3 t0 σ) cw_X12_143 rfl rfl dX12_readBond_60 kc_171 ci_12 ⟨Nat.le_of_ble_eq_true rfl, Nat.le_of_ble_eq_true rfl⟩ rfl rfl (Nat.le_of_ble_eq_true rfl) (Nat.le_of_ble_eq_true rfl) (Nat.le_of_ble_eq_true rfl) rfl (fun q60 => ?_)
      refine V_iconst (pc := 63) dX12_readBond_63 ic_1 ?_
      exact V_iretz (pc := 64) dX12_readBond_64 rfl rfl (hk := fun h => h)
    · refine V_iconst (pc := 52) dX12_readBond_52 ic_0 ?_
      exact V_iretz (pc := 53) dX12_readBond_53 rfl rfl (hk := fun h => h)
  have hJ26 : ∀ (v1 : Int32) (v2 : Int32) (t0 : Int32) (σ : MS), VV m_X12_readBond w g 0 0 (QM m_X12_readBond w g x) (fun b : Int32 × MS => b = x) 26 [some (.ref (wB w + 171)), some (.int v1), some (.int v2), none, none] [.int t0] σ (J_X12_readBond_26 n v1 v2 t0 σ) := by
    intro v1 v2 t0 σ
    refine V_istore_n (pc := 26) (vs' := [some (.ref (wB w + 171)), some (.int v1), some (.int v2), some (.int t0), none]) dX12_readBond_26 rfl (Nat.le_of_ble_eq_true rfl) (Nat.le_of_ble_eq_true rfl) rfl ?_
    refine V_iload_n (pc := 27) dX12_readBond_27 rfl rfl ?_
    refine V_if_ge (pc := 28) (tgt := 35) dX12_readBond_28 (by decide +kernel) ?_ ?_
    · refine V_aload_n (pc := 35) dX12_readBond_35 rfl rfl ?_
      refine V_ldcS (pc := 36) (i := 1) (tx := "till") dX12_readBond_36 rfl (show (RX12, 137, "till", 1) ∈ strT from by decide +kernel) ?_
      refine V_iconst (pc := 38) dX12_readBond_38 ic_1 ?_
      refine V_sipush (pc := 39) dX12_readBond_39 sp_999 ?_
      refine V_callVi (pc := 42) (As := [.ref (wS w 1), .int (1 : Int32), .int (999 : Int32)]) (rest := []) (c_X12_after w n 1 (1 : Int32) (999 : Int32) (by decide) σ) cw_X12_139 rfl rfl dX12_readBond_42 kc_171 ci_12 ⟨Nat.le_of_ble_eq_true rfl, Nat.le_of_ble_eq_true rfl⟩ rfl rfl (Nat.le_of_ble_eq_true rfl) (Nat.le_of_ble_eq_true rfl) (Nat.le_of_ble_eq_true rfl) rfl (fun q42 => ?_)
      exact hJ45 v1 v2 t0 q42.1 q42.2
    · refine V_iconst (pc := 31) dX12_readBond_31 ic_m1 ?_
      refine V_goto (pc := 32) (tgt := 45) dX12_readBond_32 (by decide +kernel) ?_
      exact hJ45 v1 v2 t0 (-1 : Int32) σ
  refine V_aload_n (pc := 0) dX12_readBond_0 rfl rfl ?_
  refine V_callVi (pc := 1) (As := []) (rest := []) (c_X12_personTold w n  σ) cw_X12_121 rfl rfl dX12_readBond_1 kc_171 ci_12 ⟨Nat.le_of_ble_eq_true rfl, Nat.le_of_ble_eq_true rfl⟩ rfl rfl (Nat.le_of_ble_eq_true rfl) (Nat.le_of_ble_eq_true rfl) (Nat.le_of_ble_eq_true rfl) rfl (fun q1 => ?_)
  refine V_istore_n (pc := 4) (vs' := [some (.ref (wB w + 171)), some (.int q1.1), none, none, none]) dX12_readBond_4 rfl (Nat.le_of_ble_eq_true rfl) (Nat.le_of_ble_eq_true rfl) rfl ?_
  refine V_aload_n (pc := 5) dX12_readBond_5 rfl rfl ?_
  refine V_iload_n (pc := 6) dX12_readBond_6 rfl rfl ?_
  refine V_callVi (pc := 7) (As := [.int q1.1]) (rest := []) (c_X12_otherTold w n q1.1 q1.2) cw_X12_125 rfl rfl dX12_readBond_7 kc_171 ci_12 ⟨Nat.le_of_ble_eq_true rfl, Nat.le_of_ble_eq_true rfl⟩ rfl rfl (Nat.le_of_ble_eq_true rfl) (Nat.le_of_ble_eq_true rfl) (Nat.le_of_ble_eq_true rfl) rfl (fun q7 => ?_)
  refine V_istore_n (pc := 10) (vs' := [some (.ref (wB w + 171)), some (.int q1.1), some (.int q7.1), none, none]) dX12_readBond_10 rfl (Nat.le_of_ble_eq_true rfl) (Nat.le_of_ble_eq_true rfl) rfl ?_
  refine V_iload_n (pc := 11) dX12_readBond_11 rfl rfl ?_
  refine V_if_ge (pc := 12) (tgt := 19) dX12_readBond_12 (by decide +kernel) ?_ ?_
  · refine V_aload_n (pc := 19) dX12_readBond_19 rfl rfl ?_
    refine V_iconst (pc := 20) dX12_readBond_20 ic_1 ?_
    refine V_bipush (pc := 21) dX12_readBond_21 bp_9 ?_
    refine V_callVi (pc := 23) (As := [.int (1 : Int32), .int (9 : Int32)]) (rest := []) (c_X12_number w n (1 : Int32) (9 : Int32) q7.2) cw_X12_118 rfl rfl dX12_readBond_23 kc_171 ci_12 ⟨Nat.le_of_ble_eq_true rfl, Nat.le_of_ble_eq_true rfl⟩ rfl rfl (Nat.le_of_ble_eq_true rfl) (Nat.le_of_ble_eq_true rfl) (Nat.le_of_ble_eq_true rfl) rfl (fun q23 => ?_)
    exact hJ26 q1.1 q7.1 q23.1 q23.2
  · refine V_iconst (pc := 15) dX12_readBond_15 ic_m1 ?_
    refine V_goto (pc := 16) (tgt := 26) dX12_readBond_16 (by decide +kernel) ?_
    exact hJ26 q1.1 q7.1 (-1 : Int32) q7.2
def J_X12_readNumber_40 (n : Nat) (t0 : Int32) (σ : MS) : Option (Int32 × MS) := (if t0 = 0 ∨ t0 = 1 then some (t0, σ) else none)
def J_X12_readNumber_29 (n : Nat) (v4 : Int32) (t0 : Int32) (t1 : Int32) (σ : MS) : Option (Int32 × MS) := (if inb t1 2172 then ltM (mu σ 172 (ix t1) t0) (fun s29 => (if v4 < 0 then J_X12_readNumber_40 n (0 : Int32) s29 else J_X12_readNumber_40 n (1 : Int32) s29)) else none)
def f_X12_readNumber (n : Nat) (p1 : Int32) (p2 : Int32) (p3 : Int32) (σ : MS) : Option (Int32 × MS) := ((f_X12_number n p2 p3 σ).bind (fun q3 => (if 0 ≤ q3.1 then J_X12_readNumber_29 n q3.1 q3.1 p1 q3.2 else (if inb p1 2172 then J_X12_readNumber_29 n q3.1 (q3.2 172 (ix p1)) p1 q3.2 else none))))
set_option maxRecDepth 20000 in
set_option maxHeartbeats 2000000 in
theorem c_X12_readNumber (w : TG) (n : Nat) (p1 : Int32) (p2 : Int32) (p3 : Int32) (σ : MS) : MC m_X12_readNumber w [.ref (wB w + 171), .int p1, .int p2, .int p3] σ (f_X12_readNumber n p1 p2 p3 σ) := by
  refine V_meth (by decide +kernel) (Nat.le_of_ble_eq_true rfl) (by intro v hv; simp only [List.mem_cons, List.not_mem_nil, or_false] at hv; rcases hv with rfl | rfl | rfl | rfl <;> rfl) (fun g x => ?_)
  show VV m_X12_readNumber w g 0 0 (QM m_X12_readNumber w g x) (fun b : Int32 × MS => b = x) 0 [some (.ref (wB w + 171)), some (.int p1), some (.int p2), some (.int p3), none] [] σ (f_X12_readNumber n p1 p2 p3 σ)
  have hJ40 : ∀ (t0 : Int32) (σ : MS), VV m_X12_readNumber w g 0 0 (QM m_X12_readNumber w g x) (fun b : Int32 × MS => b = x) 40 [none, none, none, none, none] [.int t0] σ (J_X12_readNumber_40 n t0 σ) := by
    intro t0 σ
    exact V_iretZ (pc := 40) dX12_readNumber_40 rfl (hk := fun h => h)
  have hJ29 : ∀ (v4 : Int32) (t0 : Int32) (t1 : Int32) (σ : MS), VV m_X12_readNumber w g 0 0 (QM m_X12_readNumber w g x) (fun b : Int32 × MS => b = x) 29 [none, none, none, none, some (.int v4)] [.int t0, .int t1, .ref (wB w + 172)] σ (J_X12_readNumber_29 n v4 t0 t1 σ) := by
    intro v4 t0 t1 σ
    refine V_iast (pc := 29) (n := 2172) dX12_readNumber_29 kc_172 lc_172 (fun s29 => ?_)
    refine V_iload (pc := 30) dX12_readNumber_30 rfl ?_
    refine V_if_lt (pc := 32) (tgt := 39) dX12_readNumber_32 (by decide +kernel) ?_ ?_
    · refine V_iconst (pc := 39) dX12_readNumber_39 ic_0 ?_
      refine V_sub (vs' := [none, none, none, none, none]) (show vless _ _ from trivial) rfl ?_
      exact hJ40 (0 : Int32) s29
    · refine V_iconst (pc := 35) dX12_readNumber_35 ic_1 ?_
      refine V_goto (pc := 36) (tgt := 40) dX12_readNumber_36 (by decide +kernel) ?_
      refine V_sub (vs' := [none, none, none, none, none]) (show vless _ _ from trivial) rfl ?_
      exact hJ40 (1 : Int32) s29
  refine V_aload_n (pc := 0) dX12_readNumber_0 rfl rfl ?_
  refine V_iload_n (pc := 1) dX12_readNumber_1 rfl rfl ?_
  refine V_iload_n (pc := 2) dX12_readNumber_2 rfl rfl ?_
  refine V_callVi (pc := 3) (As := [.int p2, .int p3]) (rest := []) (c_X12_number w n p2 p3 σ) cw_X12_118 rfl rfl dX12_readNumber_3 kc_171 ci_12 ⟨Nat.le_of_ble_eq_true rfl, Nat.le_of_ble_eq_true rfl⟩ rfl rfl (Nat.le_of_ble_eq_true rfl) (Nat.le_of_ble_eq_true rfl) (Nat.le_of_ble_eq_true rfl) rfl (fun q3 => ?_)
  refine V_istore (pc := 6) (vs' := [some (.ref (wB w + 171)), some (.int p1), some (.int p2), some (.int p3), some (.int q3.1)]) dX12_readNumber_6 (Nat.le_of_ble_eq_true rfl) (Nat.le_of_ble_eq_true rfl) rfl ?_
  refine V_aload_n (pc := 8) dX12_readNumber_8 rfl rfl ?_
  refine V_getr (pc := 9) (t := 172) fk_X12_13 rfl dX12_readNumber_9 kc_171 rf_12_1_171 ?_
  refine V_iload_n (pc := 12) dX12_readNumber_12 rfl rfl ?_
  refine V_iload (pc := 13) dX12_readNumber_13 rfl ?_
  refine V_if_ge (pc := 15) (tgt := 27) dX12_readNumber_15 (by decide +kernel) ?_ ?_
  · refine V_iload (pc := 27) dX12_readNumber_27 rfl ?_
    refine V_sub (vs' := [none, none, none, none, some (.int q3.1)]) (show vless _ _ from ⟨rfl, trivial⟩) rfl ?_
    exact hJ29 q3.1 q3.1 p1 q3.2
  · refine V_aload_n (pc := 18) dX12_readNumber_18 rfl rfl ?_
    refine V_getr (pc := 19) (t := 172) fk_X12_13 rfl dX12_readNumber_19 kc_171 rf_12_1_171 ?_
    refine V_iload_n (pc := 22) dX12_readNumber_22 rfl rfl ?_
    refine V_iald (pc := 23) (n := 2172) dX12_readNumber_23 kc_172 lc_172 ?_
    refine V_goto (pc := 24) (tgt := 29) dX12_readNumber_24 (by decide +kernel) ?_
    refine V_sub (vs' := [none, none, none, none, some (.int q3.1)]) (show vless _ _ from ⟨rfl, trivial⟩) rfl ?_
    exact hJ29 q3.1 (q3.2 172 (ix p1)) p1 q3.2
def J_X12_readHouseLine_134 (n : Nat) (t0 : Int32) (σ : MS) : Option (Int32 × MS) := (if t0 = 0 ∨ t0 = 1 then some (t0, σ) else none)
def J_X12_readHouseLine_133 (n : Nat)  (σ : MS) : Option (Int32 × MS) := J_X12_readHouseLine_134 n (0 : Int32) σ
def f_X12_readHouseLine (n : Nat)  (σ : MS) : Option (Int32 × MS) := ((f_X12_isWord n 2 σ).bind (fun q3 => (if q3 = 0 then ((f_X12_isWord n 3 σ).bind (fun q17 => (if q17 = 0 then ((f_X12_isWord n 4 σ).bind (fun q31 => (if q31 = 0 then ((f_X12_isWord n 5 σ).bind (fun q45 => (if q45 = 0 then ((f_X12_isWord n 6 σ).bind (fun q59 => (if q59 = 0 then ((f_X12_isWord n 7 σ).bind (fun q77 => (if q77 = 0 then ((f_X12_isWord n 8 σ).bind (fun q97 => (if q97 = 0 then ((f_X12_isWord n 9 σ).bind (fun q111 => (if q111 = 0 then J_X12_readHouseLine_133 n  σ else ((f_X12_readNumber n (3 : Int32) (0 : Int32) (999 : Int32) σ).bind (fun q123 => (if q123.1 = 0 then J_X12_readHouseLine_133 n  q123.2 else J_X12_readHouseLine_134 n (1 : Int32) q123.2)))))) else ((f_X12_readBond n  σ).bind (fun q104 => (if q104.1 = 0 ∨ q104.1 = 1 then some (q104.1, q104.2) else none)))))) else ((f_X12_readNumber n (6 : Int32) (1 : Int32) (400 : Int32) σ).bind (fun q90 => (if q90.1 = 0 ∨ q90.1 = 1 then some (q90.1, q90.2) else none)))))) else ((f_X12_readNumber n (5 : Int32) (1 : Int32) (9 : Int32) σ).bind (fun q70 => (if q70.1 = 0 ∨ q70.1 = 1 then some (q70.1, q70.2) else none)))))) else ((f_X12_readFlour n  σ).bind (fun q52 => (if q52.1 = 0 ∨ q52.1 = 1 then some (q52.1, q52.2) else none)))))) else ((f_X12_readWed n  σ).bind (fun q38 => (if q38.1 = 0 ∨ q38.1 = 1 then some (q38.1, q38.2) else none)))))) else ((f_X12_readLikes n  σ).bind (fun q24 => (if q24.1 = 0 ∨ q24.1 = 1 then some (q24.1, q24.2) else none)))))) else ((f_X12_readPerson n  σ).bind (fun q10 => (if q10.1 = 0 ∨ q10.1 = 1 then some (q10.1, q10.2) else none))))))
set_option maxRecDepth 20000 in
set_option maxHeartbeats 2000000 in
theorem c_X12_readHouseLine (w : TG) (n : Nat)  (σ : MS) : MC m_X12_readHouseLine w [.ref (wB w + 171)] σ (f_X12_readHouseLine n  σ) := by
  refine V_meth (by decide +kernel) (Nat.le_of_ble_eq_true rfl) (by intro v hv; simp only [List.mem_cons, List.not_mem_nil, or_false] at hv; subst hv; rfl) (fun g x => ?_)
  show VV m_X12_readHouseLine w g 0 0 (QM m_X12_readHouseLine w g x) (fun b : Int32 × MS => b = x) 0 [some (.ref (wB w + 171))] [] σ (f_X12_readHouseLine n  σ)
  have hJ134 : ∀ (t0 : Int32) (σ : MS), VV m_X12_readHouseLine w g 0 0 (QM m_X12_readHouseLine w g x) (fun b : Int32 × MS => b = x) 134 [none] [.int t0] σ (J_X12_readHouseLine_134 n t0 σ) := by
    intro t0 σ
    exact V_iretZ (pc := 134) dX12_readHouseLine_134 rfl (hk := fun h => h)
  have hJ133 : ∀ (σ : MS), VV m_X12_readHouseLine w g 0 0 (QM m_X12_readHouseLine w g x) (fun b : Int32 × MS => b = x) 133 [none] [] σ (J_X12_readHouseLine_133 n  σ) := by
    intro σ
    refine V_iconst (pc := 133) dX12_readHouseLine_133 ic_0 ?_
    exact hJ134 (0 : Int32) σ
  refine V_aload_n (pc := 0) dX12_readHouseLine_0 rfl rfl ?_
  refine V_ldcS (pc := 1) (i := 2) (tx := "person") dX12_readHouseLine_1 rfl (show (RX12, 147, "person", 2) ∈ strT from by decide +kernel) ?_
  refine V_callVpi (pc := 3) (As := [.ref (wS w 2)]) (rest := []) (c_X12_isWord w n 2 (by decide) σ) cw_X12_114 rfl rfl dX12_readHouseLine_3 kc_171 ci_12 ⟨Nat.le_of_ble_eq_true rfl, Nat.le_of_ble_eq_true rfl⟩ rfl rfl (Nat.le_of_ble_eq_true rfl) (Nat.le_of_ble_eq_true rfl) (Nat.le_of_ble_eq_true rfl) rfl (fun q3 => ?_)
  refine V_if_eq (pc := 6) (tgt := 14) dX12_readHouseLine_6 (by decide +kernel) ?_ ?_
  · refine V_aload_n (pc := 14) dX12_readHouseLine_14 rfl rfl ?_
    refine V_ldcS (pc := 15) (i := 3) (tx := "likes") dX12_readHouseLine_15 rfl (show (RX12, 153, "likes", 3) ∈ strT from by decide +kernel) ?_
    refine V_callVpi (pc := 17) (As := [.ref (wS w 3)]) (rest := []) (c_X12_isWord w n 3 (by decide) σ) cw_X12_114 rfl rfl dX12_readHouseLine_17 kc_171 ci_12 ⟨Nat.le_of_ble_eq_true rfl, Nat.le_of_ble_eq_true rfl⟩ rfl rfl (Nat.le_of_ble_eq_true rfl) (Nat.le_of_ble_eq_true rfl) (Nat.le_of_ble_eq_true rfl) rfl (fun q17 => ?_)
    refine V_if_eq (pc := 20) (tgt := 28) dX12_readHouseLine_20 (by decide +kernel) ?_ ?_
    · refine V_aload_n (pc := 28) dX12_readHouseLine_28 rfl rfl ?_
      refine V_ldcS (pc := 29) (i := 4) (tx := "wed") dX12_readHouseLine_29 rfl (show (RX12, 158, "wed", 4) ∈ strT from by decide +kernel) ?_
      refine V_callVpi (pc := 31) (As := [.ref (wS w 4)]) (rest := []) (c_X12_isWord w n 4 (by decide) σ) cw_X12_114 rfl rfl dX12_readHouseLine_31 kc_171 ci_12 ⟨Nat.le_of_ble_eq_true rfl, Nat.le_of_ble_eq_true rfl⟩ rfl rfl (Nat.le_of_ble_eq_true rfl) (Nat.le_of_ble_eq_true rfl) (Nat.le_of_ble_eq_true rfl) rfl (fun q31 => ?_)
      refine V_if_eq (pc := 34) (tgt := 42) dX12_readHouseLine_34 (by decide +kernel) ?_ ?_
      · refine V_aload_n (pc := 42) dX12_readHouseLine_42 rfl rfl ?_
        refine V_ldcS (pc := 43) (i := 5) (tx := "flour") dX12_readHouseLine_43 rfl (show (RX12, 163, "flour", 5) ∈ strT from by decide +kernel) ?_
        refine V_callVpi (pc := 45) (As := [.ref (wS w 5)]) (rest := []) (c_X12_isWord w n 5 (by decide) σ) cw_X12_114 rfl rfl dX12_readHouseLine_45 kc_171 ci_12 ⟨Nat.le_of_ble_eq_true rfl, Nat.le_of_ble_eq_true rfl⟩ rfl rfl (Nat.le_of_ble_eq_true rfl) (Nat.le_of_ble_eq_true rfl) (Nat.le_of_ble_eq_true rfl) rfl (fun q45 => ?_)
        refine V_if_eq (pc := 48) (tgt := 56) dX12_readHouseLine_48 (by decide +kernel) ?_ ?_
        · refine V_aload_n (pc := 56) dX12_readHouseLine_56 rfl rfl ?_
          refine V_ldcS (pc := 57) (i := 6) (tx := "binds") dX12_readHouseLine_57 rfl (show (RX12, 168, "binds", 6) ∈ strT from by decide +kernel) ?_
          refine V_callVpi (pc := 59) (As := [.ref (wS w 6)]) (rest := []) (c_X12_isWord w n 6 (by decide) σ) cw_X12_114 rfl rfl dX12_readHouseLine_59 kc_171 ci_12 ⟨Nat.le_of_ble_eq_true rfl, Nat.le_of_ble_eq_true rfl⟩ rfl rfl (Nat.le_of_ble_eq_true rfl) (Nat.le_of_ble_eq_true rfl) (Nat.le_of_ble_eq_true rfl) rfl (fun q59 => ?_)
          refine V_if_eq (pc := 62) (tgt := 74) dX12_readHouseLine_62 (by decide +kernel) ?_ ?_
          · refine V_aload_n (pc := 74) dX12_readHouseLine_74 rfl rfl ?_
            refine V_ldcS (pc := 75) (i := 7) (tx := "lasts") dX12_readHouseLine_75 rfl (show (RX12, 172, "lasts", 7) ∈ strT from by decide +kernel) ?_
            refine V_callVpi (pc := 77) (As := [.ref (wS w 7)]) (rest := []) (c_X12_isWord w n 7 (by decide) σ) cw_X12_114 rfl rfl dX12_readHouseLine_77 kc_171 ci_12 ⟨Nat.le_of_ble_eq_true rfl, Nat.le_of_ble_eq_true rfl⟩ rfl rfl (Nat.le_of_ble_eq_true rfl) (Nat.le_of_ble_eq_true rfl) (Nat.le_of_ble_eq_true rfl) rfl (fun q77 => ?_)
            refine V_if_eq (pc := 80) (tgt := 94) dX12_readHouseLine_80 (by decide +kernel) ?_ ?_
            · refine V_aload_n (pc := 94) dX12_readHouseLine_94 rfl rfl ?_
              refine V_ldcS (pc := 95) (i := 8) (tx := "bond") dX12_readHouseLine_95 rfl (show (RX12, 174, "bond", 8) ∈ strT from by decide +kernel) ?_
              refine V_callVpi (pc := 97) (As := [.ref (wS w 8)]) (rest := []) (c_X12_isWord w n 8 (by decide) σ) cw_X12_114 rfl rfl dX12_readHouseLine_97 kc_171 ci_12 ⟨Nat.le_of_ble_eq_true rfl, Nat.le_of_ble_eq_true rfl⟩ rfl rfl (Nat.le_of_ble_eq_true rfl) (Nat.le_of_ble_eq_true rfl) (Nat.le_of_ble_eq_true rfl) rfl (fun q97 => ?_)
              refine V_if_eq (pc := 100) (tgt := 108) dX12_readHouseLine_100 (by decide +kernel) ?_ ?_
              · refine V_aload_n (pc := 108) dX12_readHouseLine_108 rfl rfl ?_
                refine V_ldcS (pc := 109) (i := 9) (tx := "day") dX12_readHouseLine_109 rfl (show (RX12, 179, "day", 9) ∈ strT from by decide +kernel) ?_
                refine V_callVpi (pc := 111) (As := [.ref (wS w 9)]) (rest := []) (c_X12_isWord w n 9 (by decide) σ) cw_X12_114 rfl rfl dX12_readHouseLine_111 kc_171 ci_12 ⟨Nat.le_of_ble_eq_true rfl, Nat.le_of_ble_eq_true rfl⟩ rfl rfl (Nat.le_of_ble_eq_true rfl) (Nat.le_of_ble_eq_true rfl) (Nat.le_of_ble_eq_true rfl) rfl (fun q111 => ?_)
                refine V_if_eq (pc := 114) (tgt := 133) dX12_readHouseLine_114 (by decide +kernel) ?_ ?_
                · refine V_sub (vs' := [none]) (show vless _ _ from trivial) rfl ?_
                  exact hJ133 σ
                · refine V_aload_n (pc := 117) dX12_readHouseLine_117 rfl rfl ?_
                  refine V_iconst (pc := 118) dX12_readHouseLine_118 ic_3 ?_
                  refine V_iconst (pc := 119) dX12_readHouseLine_119 ic_0 ?_
                  refine V_sipush (pc := 120) dX12_readHouseLine_120 sp_999 ?_
                  refine V_callVi (pc := 123) (As := [.int (3 : Int32), .int (0 : Int32), .int (999 : Int32)]) (rest := []) (c_X12_readNumber w n (3 : Int32) (0 : Int32) (999 : Int32) σ) cw_X12_169 rfl rfl dX12_readHouseLine_123 kc_171 ci_12 ⟨Nat.le_of_ble_eq_true rfl, Nat.le_of_ble_eq_true rfl⟩ rfl rfl (Nat.le_of_ble_eq_true rfl) (Nat.le_of_ble_eq_true rfl) (Nat.le_of_ble_eq_true rfl) rfl (fun q123 => ?_)
                  refine V_if_eq (pc := 126) (tgt := 133) dX12_readHouseLine_126 (by decide +kernel) ?_ ?_
                  · refine V_sub (vs' := [none]) (show vless _ _ from trivial) rfl ?_
                    exact hJ133 q123.2
                  · refine V_iconst (pc := 129) dX12_readHouseLine_129 ic_1 ?_
                    refine V_goto (pc := 130) (tgt := 134) dX12_readHouseLine_130 (by decide +kernel) ?_
                    refine V_sub (vs' := [none]) (show vless _ _ from trivial) rfl ?_
                    exact hJ134 (1 : Int32) q123.2
              · refine V_aload_n (pc := 103) dX12_readHouseLine_103 rfl rfl ?_
                refine V_callVi (pc := 104) (As := []) (rest := []) (c_X12_readBond w n  σ) cw_X12_176 rfl rfl dX12_readHouseLine_104 kc_171 ci_12 ⟨Nat.le_of_ble_eq_true rfl, Nat.le_of_ble_eq_true rfl⟩ rfl rfl (Nat.le_of_ble_eq_true rfl) (Nat.le_of_ble_eq_true rfl) (Nat.le_of_ble_eq_true rfl) rfl (fun q104 => ?_)
                exact V_iretZ (pc := 107) dX12_readHouseLine_107 rfl (hk := fun h => h)
            · refine V_aload_n (pc := 83) dX12_readHouseLine_83 rfl rfl ?_
              refine V_bipush (pc := 84) dX12_readHouseLine_84 bp_6 ?_
              refine V_iconst (pc := 86) dX12_readHouseLine_86 ic_1 ?_
              refine V_sipush (pc := 87) dX12_readHouseLine_87 sp_400 ?_
              refine V_callVi (pc := 90) (As := [.int (6 : Int32), .int (1 : Int32), .int (400 : Int32)]) (rest := []) (c_X12_readNumber w n (6 : Int32) (1 : Int32) (400 : Int32) σ) cw_X12_169 rfl rfl dX12_readHouseLine_90 kc_171 ci_12 ⟨Nat.le_of_ble_eq_true rfl, Nat.le_of_ble_eq_true rfl⟩ rfl rfl (Nat.le_of_ble_eq_true rfl) (Nat.le_of_ble_eq_true rfl) (Nat.le_of_ble_eq_true rfl) rfl (fun q90 => ?_)
              exact V_iretZ (pc := 93) dX12_readHouseLine_93 rfl (hk := fun h => h)
          · refine V_aload_n (pc := 65) dX12_readHouseLine_65 rfl rfl ?_
            refine V_iconst (pc := 66) dX12_readHouseLine_66 ic_5 ?_
            refine V_iconst (pc := 67) dX12_readHouseLine_67 ic_1 ?_
            refine V_bipush (pc := 68) dX12_readHouseLine_68 bp_9 ?_
            refine V_callVi (pc := 70) (As := [.int (5 : Int32), .int (1 : Int32), .int (9 : Int32)]) (rest := []) (c_X12_readNumber w n (5 : Int32) (1 : Int32) (9 : Int32) σ) cw_X12_169 rfl rfl dX12_readHouseLine_70 kc_171 ci_12 ⟨Nat.le_of_ble_eq_true rfl, Nat.le_of_ble_eq_true rfl⟩ rfl rfl (Nat.le_of_ble_eq_true rfl) (Nat.le_of_ble_eq_true rfl) (Nat.le_of_ble_eq_true rfl) rfl (fun q70 => ?_)
            exact V_iretZ (pc := 73) dX12_readHouseLine_73 rfl (hk := fun h => h)
        · refine V_aload_n (pc := 51) dX12_readHouseLine_51 rfl rfl ?_
          refine V_callVi (pc := 52) (As := []) (rest := []) (c_X12_readFlour w n  σ) cw_X12_165 rfl rfl dX12_readHouseLine_52 kc_171 ci_12 ⟨Nat.le_of_ble_eq_true rfl, Nat.le_of_ble_eq_true rfl⟩ rfl rfl (Nat.le_of_ble_eq_true rfl) (Nat.le_of_ble_eq_true rfl) (Nat.le_of_ble_eq_true rfl) rfl (fun q52 => ?_)
          exact V_iretZ (pc := 55) dX12_readHouseLine_55 rfl (hk := fun h => h)
      · refine V_aload_n (pc := 37) dX12_readHouseLine_37 rfl rfl ?_
        refine V_callVi (pc := 38) (As := []) (rest := []) (c_X12_readWed w n  σ) cw_X12_160 rfl rfl dX12_readHouseLine_38 kc_171 ci_12 ⟨Nat.le_of_ble_eq_true rfl, Nat.le_of_ble_eq_true rfl⟩ rfl rfl (Nat.le_of_ble_eq_true rfl) (Nat.le_of_ble_eq_true rfl) (Nat.le_of_ble_eq_true rfl) rfl (fun q38 => ?_)
        exact V_iretZ (pc := 41) dX12_readHouseLine_41 rfl (hk := fun h => h)
    · refine V_aload_n (pc := 23) dX12_readHouseLine_23 rfl rfl ?_
      refine V_callVi (pc := 24) (As := []) (rest := []) (c_X12_readLikes w n  σ) cw_X12_155 rfl rfl dX12_readHouseLine_24 kc_171 ci_12 ⟨Nat.le_of_ble_eq_true rfl, Nat.le_of_ble_eq_true rfl⟩ rfl rfl (Nat.le_of_ble_eq_true rfl) (Nat.le_of_ble_eq_true rfl) (Nat.le_of_ble_eq_true rfl) rfl (fun q24 => ?_)
      exact V_iretZ (pc := 27) dX12_readHouseLine_27 rfl (hk := fun h => h)
  · refine V_aload_n (pc := 9) dX12_readHouseLine_9 rfl rfl ?_
    refine V_callVi (pc := 10) (As := []) (rest := []) (c_X12_readPerson w n  σ) cw_X12_149 rfl rfl dX12_readHouseLine_10 kc_171 ci_12 ⟨Nat.le_of_ble_eq_true rfl, Nat.le_of_ble_eq_true rfl⟩ rfl rfl (Nat.le_of_ble_eq_true rfl) (Nat.le_of_ble_eq_true rfl) (Nat.le_of_ble_eq_true rfl) rfl (fun q10 => ?_)
    exact V_iretZ (pc := 13) dX12_readHouseLine_13 rfl (hk := fun h => h)
def f_X12_emits (p1 : Int32) (p2 : Int32) (σ : MS) : Option (Int32 × MS) := (if inb ((1372 : Int32) + ((2 : Int32) * (σ 171 16))) 2172 then ltM (mu σ 172 (ix ((1372 : Int32) + ((2 : Int32) * (σ 171 16)))) p1) (fun s15 => (if inb (((1372 : Int32) + ((2 : Int32) * (s15 171 16))) + (1 : Int32)) 2172 then ltM (mu s15 172 (ix (((1372 : Int32) + ((2 : Int32) * (s15 171 16))) + (1 : Int32))) p2) (fun s33 => (ltM (mu s33 171 16 ((s33 171 16) + (1 : Int32))) (fun s41 => some (0, s41)))) else none)) else none)
set_option maxRecDepth 20000 in
set_option maxHeartbeats 2000000 in
theorem c_X12_emits (w : TG) (p1 : Int32) (p2 : Int32) (σ : MS) : MC m_X12_emits w [.ref (wB w + 171), .int p1, .int p2] σ (f_X12_emits p1 p2 σ) := by
  refine V_meth (by decide +kernel) (Nat.le_of_ble_eq_true rfl) (by intro v hv; simp only [List.mem_cons, List.not_mem_nil, or_false] at hv; rcases hv with rfl | rfl | rfl <;> rfl) (fun g x => ?_)
  show VV m_X12_emits w g 0 0 (QM m_X12_emits w g x) (fun b : Int32 × MS => b = x) 0 [some (.ref (wB w + 171)), some (.int p1), some (.int p2)] [] σ (f_X12_emits p1 p2 σ)
  refine V_aload_n (pc := 0) dX12_emits_0 rfl rfl ?_
  refine V_getr (pc := 1) (t := 172) fk_X12_13 rfl dX12_emits_1 kc_171 rf_12_1_171 ?_
  refine V_sipush (pc := 4) dX12_emits_4 sp_1372 ?_
  refine V_iconst (pc := 7) dX12_emits_7 ic_2 ?_
  refine V_aload_n (pc := 8) dX12_emits_8 rfl rfl ?_
  refine V_geti (pc := 9) fk_X12_181 rfl dX12_emits_9 kc_171 rf_12_16_171 ?_
  refine V_imul (pc := 12) dX12_emits_12 ?_
  refine V_iadd (pc := 13) dX12_emits_13 ?_
  refine V_iload_n (pc := 14) dX12_emits_14 rfl rfl ?_
  refine V_iast (pc := 15) (n := 2172) dX12_emits_15 kc_172 lc_172 (fun s15 => ?_)
  refine V_aload_n (pc := 16) dX12_emits_16 rfl rfl ?_
  refine V_getr (pc := 17) (t := 172) fk_X12_13 rfl dX12_emits_17 kc_171 rf_12_1_171 ?_
  refine V_sipush (pc := 20) dX12_emits_20 sp_1372 ?_
  refine V_iconst (pc := 23) dX12_emits_23 ic_2 ?_
  refine V_aload_n (pc := 24) dX12_emits_24 rfl rfl ?_
  refine V_geti (pc := 25) fk_X12_181 rfl dX12_emits_25 kc_171 rf_12_16_171 ?_
  refine V_imul (pc := 28) dX12_emits_28 ?_
  refine V_iadd (pc := 29) dX12_emits_29 ?_
  refine V_iconst (pc := 30) dX12_emits_30 ic_1 ?_
  refine V_iadd (pc := 31) dX12_emits_31 ?_
  refine V_iload_n (pc := 32) dX12_emits_32 rfl rfl ?_
  refine V_iast (pc := 33) (n := 2172) dX12_emits_33 kc_172 lc_172 (fun s33 => ?_)
  refine V_aload_n (pc := 34) dX12_emits_34 rfl rfl ?_
  refine V_dup (pc := 35) dX12_emits_35 rfl ?_
  refine V_geti (pc := 36) fk_X12_181 rfl dX12_emits_36 kc_171 rf_12_16_171 ?_
  refine V_iconst (pc := 39) dX12_emits_39 ic_1 ?_
  refine V_iadd (pc := 40) dX12_emits_40 ?_
  refine V_puti (pc := 41) fp_X12_181 rfl dX12_emits_41 kc_171 rf_12_16_171 (fun s41 => ?_)
  exact V_ret (pc := 44) dX12_emits_44 rfl (hk := fun h => h)
def J_X12_readPart_129 (n : Nat) (t0 : Int32) (σ : MS) : Option (Int32 × MS) := (if t0 = 0 ∨ t0 = 1 then some (t0, σ) else none)
def J_X12_readPart_120 (n : Nat) (v1 : Int32) (σ : MS) : Option (Int32 × MS) := (if v1 < 0 then J_X12_readPart_129 n (0 : Int32) σ else J_X12_readPart_129 n (1 : Int32) σ)
def J_X12_readPart_113 (n : Nat) (t0 : Int32) (σ : MS) : Option (Int32 × MS) := ((f_X12_emits t0 (0 : Int32) σ).bind (fun q117 => J_X12_readPart_120 n t0 q117.2))
def f_X12_readPart (n : Nat)  (σ : MS) : Option (Int32 × MS) := ((f_X12_letters n  σ).bind (fun q1 => (if (q1.2 171 10) = (q1.2 171 12) then ((f_X12_number n (0 : Int32) (999 : Int32) q1.2).bind (fun q20 => ((f_X12_emits (8 : Int32) q20.1 q20.2).bind (fun q28 => J_X12_readPart_120 n q20.1 q28.2)))) else ((f_X12_isWord n 10 q1.2).bind (fun q37 => (if q37 = 0 then ((f_X12_isWord n 11 q1.2).bind (fun q50 => (if q50 = 0 then ((f_X12_isWord n 12 q1.2).bind (fun q63 => (if q63 = 0 then ((f_X12_isWord n 13 q1.2).bind (fun q76 => (if q76 = 0 then ((f_X12_isWord n 14 q1.2).bind (fun q89 => (if q89 = 0 then ((f_X12_isWord n 9 q1.2).bind (fun q102 => (if q102 = 0 then J_X12_readPart_113 n (-1 : Int32) q1.2 else J_X12_readPart_113 n (5 : Int32) q1.2))) else J_X12_readPart_113 n (4 : Int32) q1.2))) else J_X12_readPart_113 n (3 : Int32) q1.2))) else J_X12_readPart_113 n (2 : Int32) q1.2))) else J_X12_readPart_113 n (1 : Int32) q1.2))) else J_X12_readPart_113 n (0 : Int32) q1.2))))))
set_option maxRecDepth 20000 in
set_option maxHeartbeats 2000000 in
theorem c_X12_readPart (w : TG) (n : Nat)  (σ : MS) : MC m_X12_readPart w [.ref (wB w + 171)] σ (f_X12_readPart n  σ) := by
  refine V_meth (by decide +kernel) (Nat.le_of_ble_eq_true rfl) (by intro v hv; simp only [List.mem_cons, List.not_mem_nil, or_false] at hv; subst hv; rfl) (fun g x => ?_)
  show VV m_X12_readPart w g 0 0 (QM m_X12_readPart w g x) (fun b : Int32 × MS => b = x) 0 [some (.ref (wB w + 171)), none] [] σ (f_X12_readPart n  σ)
  have hJ129 : ∀ (t0 : Int32) (σ : MS), VV m_X12_readPart w g 0 0 (QM m_X12_readPart w g x) (fun b : Int32 × MS => b = x) 129 [none, none] [.int t0] σ (J_X12_readPart_129 n t0 σ) := by
    intro t0 σ
    exact V_iretZ (pc := 129) dX12_readPart_129 rfl (hk := fun h => h)
  have hJ120 : ∀ (v1 : Int32) (σ : MS), VV m_X12_readPart w g 0 0 (QM m_X12_readPart w g x) (fun b : Int32 × MS => b = x) 120 [none, some (.int v1)] [] σ (J_X12_readPart_120 n v1 σ) := by
    intro v1 σ
    refine V_iload_n (pc := 120) dX12_readPart_120 rfl rfl ?_
    refine V_if_lt (pc := 121) (tgt := 128) dX12_readPart_121 (by decide +kernel) ?_ ?_
    · refine V_iconst (pc := 128) dX12_readPart_128 ic_0 ?_
      refine V_sub (vs' := [none, none]) (show vless _ _ from trivial) rfl ?_
      exact hJ129 (0 : Int32) σ
    · refine V_iconst (pc := 124) dX12_readPart_124 ic_1 ?_
      refine V_goto (pc := 125) (tgt := 129) dX12_readPart_125 (by decide +kernel) ?_
      refine V_sub (vs' := [none, none]) (show vless _ _ from trivial) rfl ?_
      exact hJ129 (1 : Int32) σ
  have hJ113 : ∀ (t0 : Int32) (σ : MS), VV m_X12_readPart w g 0 0 (QM m_X12_readPart w g x) (fun b : Int32 × MS => b = x) 113 [some (.ref (wB w + 171)), none] [.int t0] σ (J_X12_readPart_113 n t0 σ) := by
    intro t0 σ
    refine V_istore_n (pc := 113) (vs' := [some (.ref (wB w + 171)), some (.int t0)]) dX12_readPart_113 rfl (Nat.le_of_ble_eq_true rfl) (Nat.le_of_ble_eq_true rfl) rfl ?_
    refine V_aload_n (pc := 114) dX12_readPart_114 rfl rfl ?_
    refine V_iload_n (pc := 115) dX12_readPart_115 rfl rfl ?_
    refine V_iconst (pc := 116) dX12_readPart_116 ic_0 ?_
    refine V_callVv (pc := 117) (As := [.int t0, .int (0 : Int32)]) (rest := []) (c_X12_emits w t0 (0 : Int32) σ) cw_X12_184 rfl rfl dX12_readPart_117 kc_171 ci_12 ⟨Nat.le_of_ble_eq_true rfl, Nat.le_of_ble_eq_true rfl⟩ rfl rfl (Nat.le_of_ble_eq_true rfl) (Nat.le_of_ble_eq_true rfl) (Nat.le_of_ble_eq_true rfl) rfl (fun q117 => ?_)
    refine V_sub (vs' := [none, some (.int t0)]) (show vless _ _ from ⟨rfl, trivial⟩) rfl ?_
    exact hJ120 t0 q117.2
  refine V_aload_n (pc := 0) dX12_readPart_0 rfl rfl ?_
  refine V_callVv (pc := 1) (As := []) (rest := []) (c_X12_letters w n  σ) cw_X12_111 rfl rfl dX12_readPart_1 kc_171 ci_12 ⟨Nat.le_of_ble_eq_true rfl, Nat.le_of_ble_eq_true rfl⟩ rfl rfl (Nat.le_of_ble_eq_true rfl) (Nat.le_of_ble_eq_true rfl) (Nat.le_of_ble_eq_true rfl) rfl (fun q1 => ?_)
  refine V_aload_n (pc := 4) dX12_readPart_4 rfl rfl ?_
  refine V_geti (pc := 5) fk_X12_87 rfl dX12_readPart_5 kc_171 rf_12_10_171 ?_
  refine V_aload_n (pc := 8) dX12_readPart_8 rfl rfl ?_
  refine V_geti (pc := 9) fk_X12_96 rfl dX12_readPart_9 kc_171 rf_12_12_171 ?_
  refine V_icmp_ne (pc := 12) (tgt := 34) dX12_readPart_12 (by decide +kernel) ?_ ?_
  · refine V_aload_n (pc := 34) dX12_readPart_34 rfl rfl ?_
    refine V_ldcS (pc := 35) (i := 10) (tx := "one") dX12_readPart_35 rfl (show (RX12, 187, "one", 10) ∈ strT from by decide +kernel) ?_
    refine V_callVpi (pc := 37) (As := [.ref (wS w 10)]) (rest := []) (c_X12_isWord w n 10 (by decide) q1.2) cw_X12_114 rfl rfl dX12_readPart_37 kc_171 ci_12 ⟨Nat.le_of_ble_eq_true rfl, Nat.le_of_ble_eq_true rfl⟩ rfl rfl (Nat.le_of_ble_eq_true rfl) (Nat.le_of_ble_eq_true rfl) (Nat.le_of_ble_eq_true rfl) rfl (fun q37 => ?_)
    refine V_if_eq (pc := 40) (tgt := 47) dX12_readPart_40 (by decide +kernel) ?_ ?_
    · refine V_aload_n (pc := 47) dX12_readPart_47 rfl rfl ?_
      refine V_ldcS (pc := 48) (i := 11) (tx := "other") dX12_readPart_48 rfl (show (RX12, 189, "other", 11) ∈ strT from by decide +kernel) ?_
      refine V_callVpi (pc := 50) (As := [.ref (wS w 11)]) (rest := []) (c_X12_isWord w n 11 (by decide) q1.2) cw_X12_114 rfl rfl dX12_readPart_50 kc_171 ci_12 ⟨Nat.le_of_ble_eq_true rfl, Nat.le_of_ble_eq_true rfl⟩ rfl rfl (Nat.le_of_ble_eq_true rfl) (Nat.le_of_ble_eq_true rfl) (Nat.le_of_ble_eq_true rfl) rfl (fun q50 => ?_)
      refine V_if_eq (pc := 53) (tgt := 60) dX12_readPart_53 (by decide +kernel) ?_ ?_
      · refine V_aload_n (pc := 60) dX12_readPart_60 rfl rfl ?_
        refine V_ldcS (pc := 61) (i := 12) (tx := "sip") dX12_readPart_61 rfl (show (RX12, 191, "sip", 12) ∈ strT from by decide +kernel) ?_
        refine V_callVpi (pc := 63) (As := [.ref (wS w 12)]) (rest := []) (c_X12_isWord w n 12 (by decide) q1.2) cw_X12_114 rfl rfl dX12_readPart_63 kc_171 ci_12 ⟨Nat.le_of_ble_eq_true rfl, Nat.le_of_ble_eq_true rfl⟩ rfl rfl (Nat.le_of_ble_eq_true rfl) (Nat.le_of_ble_eq_true rfl) (Nat.le_of_ble_eq_true rfl) rfl (fun q63 => ?_)
        refine V_if_eq (pc := 66) (tgt := 73) dX12_readPart_66 (by decide +kernel) ?_ ?_
        · refine V_aload_n (pc := 73) dX12_readPart_73 rfl rfl ?_
          refine V_ldcS (pc := 74) (i := 13) (tx := "many") dX12_readPart_74 rfl (show (RX12, 193, "many", 13) ∈ strT from by decide +kernel) ?_
          refine V_callVpi (pc := 76) (As := [.ref (wS w 13)]) (rest := []) (c_X12_isWord w n 13 (by decide) q1.2) cw_X12_114 rfl rfl dX12_readPart_76 kc_171 ci_12 ⟨Nat.le_of_ble_eq_true rfl, Nat.le_of_ble_eq_true rfl⟩ rfl rfl (Nat.le_of_ble_eq_true rfl) (Nat.le_of_ble_eq_true rfl) (Nat.le_of_ble_eq_true rfl) rfl (fun q76 => ?_)
          refine V_if_eq (pc := 79) (tgt := 86) dX12_readPart_79 (by decide +kernel) ?_ ?_
          · refine V_aload_n (pc := 86) dX12_readPart_86 rfl rfl ?_
            refine V_ldcS (pc := 87) (i := 14) (tx := "liking") dX12_readPart_87 rfl (show (RX12, 195, "liking", 14) ∈ strT from by decide +kernel) ?_
            refine V_callVpi (pc := 89) (As := [.ref (wS w 14)]) (rest := []) (c_X12_isWord w n 14 (by decide) q1.2) cw_X12_114 rfl rfl dX12_readPart_89 kc_171 ci_12 ⟨Nat.le_of_ble_eq_true rfl, Nat.le_of_ble_eq_true rfl⟩ rfl rfl (Nat.le_of_ble_eq_true rfl) (Nat.le_of_ble_eq_true rfl) (Nat.le_of_ble_eq_true rfl) rfl (fun q89 => ?_)
            refine V_if_eq (pc := 92) (tgt := 99) dX12_readPart_92 (by decide +kernel) ?_ ?_
            · refine V_aload_n (pc := 99) dX12_readPart_99 rfl rfl ?_
              refine V_ldcS (pc := 100) (i := 9) (tx := "day") dX12_readPart_100 rfl (show (RX12, 179, "day", 9) ∈ strT from by decide +kernel) ?_
              refine V_callVpi (pc := 102) (As := [.ref (wS w 9)]) (rest := []) (c_X12_isWord w n 9 (by decide) q1.2) cw_X12_114 rfl rfl dX12_readPart_102 kc_171 ci_12 ⟨Nat.le_of_ble_eq_true rfl, Nat.le_of_ble_eq_true rfl⟩ rfl rfl (Nat.le_of_ble_eq_true rfl) (Nat.le_of_ble_eq_true rfl) (Nat.le_of_ble_eq_true rfl) rfl (fun q102 => ?_)
              refine V_if_eq (pc := 105) (tgt := 112) dX12_readPart_105 (by decide +kernel) ?_ ?_
              · refine V_iconst (pc := 112) dX12_readPart_112 ic_m1 ?_
                exact hJ113 (-1 : Int32) q1.2
              · refine V_iconst (pc := 108) dX12_readPart_108 ic_5 ?_
                refine V_goto (pc := 109) (tgt := 113) dX12_readPart_109 (by decide +kernel) ?_
                exact hJ113 (5 : Int32) q1.2
            · refine V_iconst (pc := 95) dX12_readPart_95 ic_4 ?_
              refine V_goto (pc := 96) (tgt := 113) dX12_readPart_96 (by decide +kernel) ?_
              exact hJ113 (4 : Int32) q1.2
          · refine V_iconst (pc := 82) dX12_readPart_82 ic_3 ?_
            refine V_goto (pc := 83) (tgt := 113) dX12_readPart_83 (by decide +kernel) ?_
            exact hJ113 (3 : Int32) q1.2
        · refine V_iconst (pc := 69) dX12_readPart_69 ic_2 ?_
          refine V_goto (pc := 70) (tgt := 113) dX12_readPart_70 (by decide +kernel) ?_
          exact hJ113 (2 : Int32) q1.2
      · refine V_iconst (pc := 56) dX12_readPart_56 ic_1 ?_
        refine V_goto (pc := 57) (tgt := 113) dX12_readPart_57 (by decide +kernel) ?_
        exact hJ113 (1 : Int32) q1.2
    · refine V_iconst (pc := 43) dX12_readPart_43 ic_0 ?_
      refine V_goto (pc := 44) (tgt := 113) dX12_readPart_44 (by decide +kernel) ?_
      exact hJ113 (0 : Int32) q1.2
  · refine V_aload_n (pc := 15) dX12_readPart_15 rfl rfl ?_
    refine V_iconst (pc := 16) dX12_readPart_16 ic_0 ?_
    refine V_sipush (pc := 17) dX12_readPart_17 sp_999 ?_
    refine V_callVi (pc := 20) (As := [.int (0 : Int32), .int (999 : Int32)]) (rest := []) (c_X12_number w n (0 : Int32) (999 : Int32) q1.2) cw_X12_118 rfl rfl dX12_readPart_20 kc_171 ci_12 ⟨Nat.le_of_ble_eq_true rfl, Nat.le_of_ble_eq_true rfl⟩ rfl rfl (Nat.le_of_ble_eq_true rfl) (Nat.le_of_ble_eq_true rfl) (Nat.le_of_ble_eq_true rfl) rfl (fun q20 => ?_)
    refine V_istore_n (pc := 23) (vs' := [some (.ref (wB w + 171)), some (.int q20.1)]) dX12_readPart_23 rfl (Nat.le_of_ble_eq_true rfl) (Nat.le_of_ble_eq_true rfl) rfl ?_
    refine V_aload_n (pc := 24) dX12_readPart_24 rfl rfl ?_
    refine V_bipush (pc := 25) dX12_readPart_25 bp_8 ?_
    refine V_iload_n (pc := 27) dX12_readPart_27 rfl rfl ?_
    refine V_callVv (pc := 28) (As := [.int (8 : Int32), .int q20.1]) (rest := []) (c_X12_emits w (8 : Int32) q20.1 q20.2) cw_X12_184 rfl rfl dX12_readPart_28 kc_171 ci_12 ⟨Nat.le_of_ble_eq_true rfl, Nat.le_of_ble_eq_true rfl⟩ rfl rfl (Nat.le_of_ble_eq_true rfl) (Nat.le_of_ble_eq_true rfl) (Nat.le_of_ble_eq_true rfl) rfl (fun q28 => ?_)
    refine V_goto (pc := 31) (tgt := 120) dX12_readPart_31 (by decide +kernel) ?_
    refine V_sub (vs' := [none, some (.int q20.1)]) (show vless _ _ from ⟨rfl, trivial⟩) rfl ?_
    exact hJ120 q20.1 q28.2
def L_X12_readSum_9 (n : Nat)  (σ : MS) (a9 : MS) : Option ((MS) ⊕ (Int32 × MS)) := ((f_X12_sign n (43 : Int32) a9).bind (fun q12 => (if q12.1 = 0 then (some ((1 : Int32), q12.2)).map Sum.inr else ((f_X12_readPart n  q12.2).bind (fun q19 => (if q19.1 = 0 then (some ((0 : Int32), q19.2)).map Sum.inr else ((f_X12_emits (9 : Int32) (0 : Int32) q19.2).bind (fun q31 => some (.inl (q31.2))))))))))
def f_X12_readSum (n : Nat)  (σ : MS) : Option (Int32 × MS) := ((f_X12_readPart n  σ).bind (fun q1 => (if q1.1 = 0 then some ((0 : Int32), q1.2) else itr (L_X12_readSum_9 n  σ) n (q1.2))))
set_option maxRecDepth 20000 in
set_option maxHeartbeats 2000000 in
theorem c_X12_readSum (w : TG) (n : Nat)  (σ : MS) : MC m_X12_readSum w [.ref (wB w + 171)] σ (f_X12_readSum n  σ) := by
  refine V_meth (by decide +kernel) (Nat.le_of_ble_eq_true rfl) (by intro v hv; simp only [List.mem_cons, List.not_mem_nil, or_false] at hv; subst hv; rfl) (fun g x => ?_)
  show VV m_X12_readSum w g 0 0 (QM m_X12_readSum w g x) (fun b : Int32 × MS => b = x) 0 [some (.ref (wB w + 171))] [] σ (f_X12_readSum n  σ)
  have hL9 : ∀  (n0 : Nat) (a : MS), VV m_X12_readSum w g 0 0 (QM m_X12_readSum w g x) (fun b : Int32 × MS => b = x) 9 [some (.ref (wB w + 171))] [] a (itr (L_X12_readSum_9 n  σ) n0 a) := by
    refine V_itr (vf := fun a : MS => [some (.ref (wB w + 171))]) (sf := fun a : MS => a) (fun κ9 b9 r9 a9 => ?_)
    show VV m_X12_readSum w g 0 0 (QM m_X12_readSum w g x) κ9 9 [some (.ref (wB w + 171))] [] a9 (L_X12_readSum_9 n  σ a9)
    refine V_aload_n (pc := 9) dX12_readSum_9 rfl rfl ?_
    refine V_bipush (pc := 10) dX12_readSum_10 bp_43 ?_
    refine V_callVi (pc := 12) (As := [.int (43 : Int32)]) (rest := []) (c_X12_sign w n (43 : Int32) a9) cw_X12_200 rfl rfl dX12_readSum_12 kc_171 ci_12 ⟨Nat.le_of_ble_eq_true rfl, Nat.le_of_ble_eq_true rfl⟩ rfl rfl (Nat.le_of_ble_eq_true rfl) (Nat.le_of_ble_eq_true rfl) (Nat.le_of_ble_eq_true rfl) rfl (fun q12 => ?_)
    refine V_if_eq (pc := 15) (tgt := 37) dX12_readSum_15 (by decide +kernel) ?_ ?_
    · refine V_exit r9 ?_
      refine V_iconst (pc := 37) dX12_readSum_37 ic_1 ?_
      exact V_iretz (pc := 38) dX12_readSum_38 rfl rfl (hk := fun h => h)
    · refine V_aload_n (pc := 18) dX12_readSum_18 rfl rfl ?_
      refine V_callVi (pc := 19) (As := []) (rest := []) (c_X12_readPart w n  q12.2) cw_X12_197 rfl rfl dX12_readSum_19 kc_171 ci_12 ⟨Nat.le_of_ble_eq_true rfl, Nat.le_of_ble_eq_true rfl⟩ rfl rfl (Nat.le_of_ble_eq_true rfl) (Nat.le_of_ble_eq_true rfl) (Nat.le_of_ble_eq_true rfl) rfl (fun q19 => ?_)
      refine V_if_ne (pc := 22) (tgt := 27) dX12_readSum_22 (by decide +kernel) ?_ ?_
      · refine V_aload_n (pc := 27) dX12_readSum_27 rfl rfl ?_
        refine V_bipush (pc := 28) dX12_readSum_28 bp_9 ?_
        refine V_iconst (pc := 30) dX12_readSum_30 ic_0 ?_
        refine V_callVv (pc := 31) (As := [.int (9 : Int32), .int (0 : Int32)]) (rest := []) (c_X12_emits w (9 : Int32) (0 : Int32) q19.2) cw_X12_184 rfl rfl dX12_readSum_31 kc_171 ci_12 ⟨Nat.le_of_ble_eq_true rfl, Nat.le_of_ble_eq_true rfl⟩ rfl rfl (Nat.le_of_ble_eq_true rfl) (Nat.le_of_ble_eq_true rfl) (Nat.le_of_ble_eq_true rfl) rfl (fun q31 => ?_)
        refine V_goto (pc := 34) (tgt := 9) dX12_readSum_34 (by decide +kernel) ?_
        exact V_back (b9 (q31.2))
      · refine V_exit r9 ?_
        refine V_iconst (pc := 25) dX12_readSum_25 ic_0 ?_
        exact V_iretz (pc := 26) dX12_readSum_26 rfl rfl (hk := fun h => h)
  refine V_aload_n (pc := 0) dX12_readSum_0 rfl rfl ?_
  refine V_callVi (pc := 1) (As := []) (rest := []) (c_X12_readPart w n  σ) cw_X12_197 rfl rfl dX12_readSum_1 kc_171 ci_12 ⟨Nat.le_of_ble_eq_true rfl, Nat.le_of_ble_eq_true rfl⟩ rfl rfl (Nat.le_of_ble_eq_true rfl) (Nat.le_of_ble_eq_true rfl) (Nat.le_of_ble_eq_true rfl) rfl (fun q1 => ?_)
  refine V_if_ne (pc := 4) (tgt := 9) dX12_readSum_4 (by decide +kernel) ?_ ?_
  · exact hL9 n (q1.2)
  · refine V_iconst (pc := 7) dX12_readSum_7 ic_0 ?_
    exact V_iretz (pc := 8) dX12_readSum_8 rfl rfl (hk := fun h => h)
def J_X12_readTag_64 (n : Nat) (t0 : Int32) (σ : MS) : Option (Int32 × MS) := (if t0 = 0 ∨ t0 = 1 then some (t0, σ) else none)
def J_X12_readTag_55 (n : Nat) (v1 : Int32) (σ : MS) : Option (Int32 × MS) := (if v1 < 0 then J_X12_readTag_64 n (0 : Int32) σ else J_X12_readTag_64 n (1 : Int32) σ)
def J_X12_readTag_33 (n : Nat) (t0 : Int32) (σ : MS) : Option (Int32 × MS) := (if t0 < 0 then (ltM (mu σ 171 10 (σ 171 12)) (fun s52 => J_X12_readTag_55 n t0 s52)) else ((f_X12_emits t0 (0 : Int32) σ).bind (fun q41 => J_X12_readTag_55 n t0 q41.2)))
def f_X12_readTag (n : Nat)  (σ : MS) : Option (Int32 × MS) := ((f_X12_letters n  σ).bind (fun q1 => ((f_X12_isWord n 4 q1.2).bind (fun q7 => (if q7 = 0 then ((f_X12_isWord n 15 q1.2).bind (fun q21 => (if q21 = 0 then J_X12_readTag_33 n (-1 : Int32) q1.2 else J_X12_readTag_33 n (7 : Int32) q1.2))) else J_X12_readTag_33 n (6 : Int32) q1.2)))))
set_option maxRecDepth 20000 in
set_option maxHeartbeats 2000000 in
theorem c_X12_readTag (w : TG) (n : Nat)  (σ : MS) : MC m_X12_readTag w [.ref (wB w + 171)] σ (f_X12_readTag n  σ) := by
  refine V_meth (by decide +kernel) (Nat.le_of_ble_eq_true rfl) (by intro v hv; simp only [List.mem_cons, List.not_mem_nil, or_false] at hv; subst hv; rfl) (fun g x => ?_)
  show VV m_X12_readTag w g 0 0 (QM m_X12_readTag w g x) (fun b : Int32 × MS => b = x) 0 [some (.ref (wB w + 171)), none] [] σ (f_X12_readTag n  σ)
  have hJ64 : ∀ (t0 : Int32) (σ : MS), VV m_X12_readTag w g 0 0 (QM m_X12_readTag w g x) (fun b : Int32 × MS => b = x) 64 [none, none] [.int t0] σ (J_X12_readTag_64 n t0 σ) := by
    intro t0 σ
    exact V_iretZ (pc := 64) dX12_readTag_64 rfl (hk := fun h => h)
  have hJ55 : ∀ (v1 : Int32) (σ : MS), VV m_X12_readTag w g 0 0 (QM m_X12_readTag w g x) (fun b : Int32 × MS => b = x) 55 [none, some (.int v1)] [] σ (J_X12_readTag_55 n v1 σ) := by
    intro v1 σ
    refine V_iload_n (pc := 55) dX12_readTag_55 rfl rfl ?_
    refine V_if_lt (pc := 56) (tgt := 63) dX12_readTag_56 (by decide +kernel) ?_ ?_
    · refine V_iconst (pc := 63) dX12_readTag_63 ic_0 ?_
      refine V_sub (vs' := [none, none]) (show vless _ _ from trivial) rfl ?_
      exact hJ64 (0 : Int32) σ
    · refine V_iconst (pc := 59) dX12_readTag_59 ic_1 ?_
      refine V_goto (pc := 60) (tgt := 64) dX12_readTag_60 (by decide +kernel) ?_
      refine V_sub (vs' := [none, none]) (show vless _ _ from trivial) rfl ?_
      exact hJ64 (1 : Int32) σ
  have hJ33 : ∀ (t0 : Int32) (σ : MS), VV m_X12_readTag w g 0 0 (QM m_X12_readTag w g x) (fun b : Int32 × MS => b = x) 33 [some (.ref (wB w + 171)), none] [.int t0] σ (J_X12_readTag_33 n t0 σ) := by
    intro t0 σ
    refine V_istore_n (pc := 33) (vs' := [some (.ref (wB w + 171)), some (.int t0)]) dX12_readTag_33 rfl (Nat.le_of_ble_eq_true rfl) (Nat.le_of_ble_eq_true rfl) rfl ?_
    refine V_iload_n (pc := 34) dX12_readTag_34 rfl rfl ?_
    refine V_if_lt (pc := 35) (tgt := 47) dX12_readTag_35 (by decide +kernel) ?_ ?_
    · refine V_aload_n (pc := 47) dX12_readTag_47 rfl rfl ?_
      refine V_aload_n (pc := 48) dX12_readTag_48 rfl rfl ?_
      refine V_geti (pc := 49) fk_X12_96 rfl dX12_readTag_49 kc_171 rf_12_12_171 ?_
      refine V_puti (pc := 52) fp_X12_87 rfl dX12_readTag_52 kc_171 rf_12_10_171 (fun s52 => ?_)
      refine V_sub (vs' := [none, some (.int t0)]) (show vless _ _ from ⟨rfl, trivial⟩) rfl ?_
      exact hJ55 t0 s52
    · refine V_aload_n (pc := 38) dX12_readTag_38 rfl rfl ?_
      refine V_iload_n (pc := 39) dX12_readTag_39 rfl rfl ?_
      refine V_iconst (pc := 40) dX12_readTag_40 ic_0 ?_
      refine V_callVv (pc := 41) (As := [.int t0, .int (0 : Int32)]) (rest := []) (c_X12_emits w t0 (0 : Int32) σ) cw_X12_184 rfl rfl dX12_readTag_41 kc_171 ci_12 ⟨Nat.le_of_ble_eq_true rfl, Nat.le_of_ble_eq_true rfl⟩ rfl rfl (Nat.le_of_ble_eq_true rfl) (Nat.le_of_ble_eq_true rfl) (Nat.le_of_ble_eq_true rfl) rfl (fun q41 => ?_)
      refine V_goto (pc := 44) (tgt := 55) dX12_readTag_44 (by decide +kernel) ?_
      refine V_sub (vs' := [none, some (.int t0)]) (show vless _ _ from ⟨rfl, trivial⟩) rfl ?_
      exact hJ55 t0 q41.2
  refine V_aload_n (pc := 0) dX12_readTag_0 rfl rfl ?_
  refine V_callVv (pc := 1) (As := []) (rest := []) (c_X12_letters w n  σ) cw_X12_111 rfl rfl dX12_readTag_1 kc_171 ci_12 ⟨Nat.le_of_ble_eq_true rfl, Nat.le_of_ble_eq_true rfl⟩ rfl rfl (Nat.le_of_ble_eq_true rfl) (Nat.le_of_ble_eq_true rfl) (Nat.le_of_ble_eq_true rfl) rfl (fun q1 => ?_)
  refine V_aload_n (pc := 4) dX12_readTag_4 rfl rfl ?_
  refine V_ldcS (pc := 5) (i := 4) (tx := "wed") dX12_readTag_5 rfl (show (RX12, 158, "wed", 4) ∈ strT from by decide +kernel) ?_
  refine V_callVpi (pc := 7) (As := [.ref (wS w 4)]) (rest := []) (c_X12_isWord w n 4 (by decide) q1.2) cw_X12_114 rfl rfl dX12_readTag_7 kc_171 ci_12 ⟨Nat.le_of_ble_eq_true rfl, Nat.le_of_ble_eq_true rfl⟩ rfl rfl (Nat.le_of_ble_eq_true rfl) (Nat.le_of_ble_eq_true rfl) (Nat.le_of_ble_eq_true rfl) rfl (fun q7 => ?_)
  refine V_if_eq (pc := 10) (tgt := 18) dX12_readTag_10 (by decide +kernel) ?_ ?_
  · refine V_aload_n (pc := 18) dX12_readTag_18 rfl rfl ?_
    refine V_ldcS (pc := 19) (i := 15) (tx := "bound") dX12_readTag_19 rfl (show (RX12, 203, "bound", 15) ∈ strT from by decide +kernel) ?_
    refine V_callVpi (pc := 21) (As := [.ref (wS w 15)]) (rest := []) (c_X12_isWord w n 15 (by decide) q1.2) cw_X12_114 rfl rfl dX12_readTag_21 kc_171 ci_12 ⟨Nat.le_of_ble_eq_true rfl, Nat.le_of_ble_eq_true rfl⟩ rfl rfl (Nat.le_of_ble_eq_true rfl) (Nat.le_of_ble_eq_true rfl) (Nat.le_of_ble_eq_true rfl) rfl (fun q21 => ?_)
    refine V_if_eq (pc := 24) (tgt := 32) dX12_readTag_24 (by decide +kernel) ?_ ?_
    · refine V_iconst (pc := 32) dX12_readTag_32 ic_m1 ?_
      exact hJ33 (-1 : Int32) q1.2
    · refine V_bipush (pc := 27) dX12_readTag_27 bp_7 ?_
      refine V_goto (pc := 29) (tgt := 33) dX12_readTag_29 (by decide +kernel) ?_
      exact hJ33 (7 : Int32) q1.2
  · refine V_bipush (pc := 13) dX12_readTag_13 bp_6 ?_
    refine V_goto (pc := 15) (tgt := 33) dX12_readTag_15 (by decide +kernel) ?_
    exact hJ33 (6 : Int32) q1.2
def IH_gr (d : Nat) (r : RT_gr) : Prop := (∀ (w : TG)  (σ : MS), MC (mr_X12_readAtom d) w [.ref (wB w + 171)] σ (r.1  σ)) ∧ (∀ (w : TG)  (σ : MS), MC (mr_X12_readAllOf d) w [.ref (wB w + 171)] σ (r.2.1  σ)) ∧ (∀ (w : TG)  (σ : MS), MC (mr_X12_readCond d) w [.ref (wB w + 171)] σ (r.2.2  σ))
def J_X12_readAtom_173 (r : RT_gr) (n : Nat) (t0 : Int32) (σ : MS) : Option (Int32 × MS) := ((f_X12_emits t0 (0 : Int32) σ).bind (fun q174 => some ((1 : Int32), q174.2)))
def J_X12_readAtom_159 (r : RT_gr) (n : Nat)  (σ : MS) : Option (Int32 × MS) := some ((0 : Int32), σ)
def J_X12_readAtom_152 (r : RT_gr) (n : Nat) (v1 : Int32) (σ : MS) : Option (Int32 × MS) := ((f_X12_readSum n  σ).bind (fun q153 => (if q153.1 = 0 then J_X12_readAtom_159 r n  q153.2 else (if v1 = 0 then J_X12_readAtom_173 r n (11 : Int32) q153.2 else J_X12_readAtom_173 r n (10 : Int32) q153.2))))
def F_X12_readAtom (r : RT_gr) (n : Nat)  (σ : MS) : Option (Int32 × MS) := ((f_X12_sign n (40 : Int32) σ).bind (fun q3 => (if q3.1 = 0 then ((f_X12_passes n 16 q3.2).bind (fun q59 => (if q59.1 = 0 then ((f_X12_readTag n  q59.2).bind (fun q115 => (if q115.1 = 0 then ((f_X12_readSum n  q115.2).bind (fun q124 => (if q124.1 = 0 then some ((0 : Int32), q124.2) else ((f_X12_sign n (60 : Int32) q124.2).bind (fun q135 => (if q135.1 = 0 then ((f_X12_sign n (62 : Int32) q135.2).bind (fun q146 => (if q146.1 = 0 then J_X12_readAtom_159 r n  q146.2 else J_X12_readAtom_152 r n q135.1 q146.2))) else J_X12_readAtom_152 r n q135.1 q135.2)))))) else some ((1 : Int32), q115.2)))) else (if (q59.2 171 13) = (6 : Int32) then some ((0 : Int32), q59.2) else (ltM (mu q59.2 171 13 ((q59.2 171 13) + (1 : Int32))) (fun s83 => ((r.1  s83).bind (fun q87 => (if q87.1 = 0 then some ((0 : Int32), q87.2) else (ltM (mu q87.2 171 13 ((q87.2 171 13) - (1 : Int32))) (fun s102 => ((f_X12_emits (12 : Int32) (0 : Int32) s102).bind (fun q109 => some ((1 : Int32), q109.2)))))))))))))) else (if (q3.2 171 13) = (6 : Int32) then some ((0 : Int32), q3.2) else (ltM (mu q3.2 171 13 ((q3.2 171 13) + (1 : Int32))) (fun s27 => ((r.2.2  s27).bind (fun q31 => (if q31.1 = 0 then some ((0 : Int32), q31.2) else (ltM (mu q31.2 171 13 ((q31.2 171 13) - (1 : Int32))) (fun s46 => ((f_X12_sign n (41 : Int32) s46).bind (fun q52 => (if q52.1 = 0 ∨ q52.1 = 1 then some (q52.1, q52.2) else none))))))))))))))
def L_X12_readAllOf_9 (r : RT_gr) (n : Nat)  (σ : MS) (a9 : MS) : Option ((MS) ⊕ (Int32 × MS)) := ((f_X12_passes n 17 a9).bind (fun q12 => (if q12.1 = 0 then (some ((1 : Int32), q12.2)).map Sum.inr else ((r.1  q12.2).bind (fun q19 => (if q19.1 = 0 then (some ((0 : Int32), q19.2)).map Sum.inr else ((f_X12_emits (13 : Int32) (0 : Int32) q19.2).bind (fun q31 => some (.inl (q31.2))))))))))
def F_X12_readAllOf (r : RT_gr) (n : Nat)  (σ : MS) : Option (Int32 × MS) := ((r.1  σ).bind (fun q1 => (if q1.1 = 0 then some ((0 : Int32), q1.2) else itr (L_X12_readAllOf_9 r n  σ) n (q1.2))))
def L_X12_readCond_9 (r : RT_gr) (n : Nat)  (σ : MS) (a9 : MS) : Option ((MS) ⊕ (Int32 × MS)) := ((f_X12_passes n 18 a9).bind (fun q12 => (if q12.1 = 0 then (some ((1 : Int32), q12.2)).map Sum.inr else ((r.2.1  q12.2).bind (fun q19 => (if q19.1 = 0 then (some ((0 : Int32), q19.2)).map Sum.inr else ((f_X12_emits (14 : Int32) (0 : Int32) q19.2).bind (fun q31 => some (.inl (q31.2))))))))))
def F_X12_readCond (r : RT_gr) (n : Nat)  (σ : MS) : Option (Int32 × MS) := ((r.2.1  σ).bind (fun q1 => (if q1.1 = 0 then some ((0 : Int32), q1.2) else itr (L_X12_readCond_9 r n  σ) n (q1.2))))
set_option maxRecDepth 20000 in
set_option maxHeartbeats 2000000 in
theorem cst_X12_readAtom (n d : Nat) (r : RT_gr) (ih : IH_gr d r) (w : TG)  (σ : MS) : MC (mr_X12_readAtom (d + 1)) w [.ref (wB w + 171)] σ (F_X12_readAtom r n  σ) := by
  refine V_meth (show plainName RX12 = true from by decide +kernel) (Nat.le_of_ble_eq_true rfl) (by intro v hv; simp only [List.mem_cons, List.not_mem_nil, or_false] at hv; subst hv; rfl) (fun g x => ?_)
  show VV (mr_X12_readAtom (d + 1)) w g 0 0 (QM (mr_X12_readAtom (d + 1)) w g x) (fun b : Int32 × MS => b = x) 0 [some (.ref (wB w + 171)), none] [] σ (F_X12_readAtom r n  σ)
  have hJ173 : ∀ (t0 : Int32) (σ : MS), VV (mr_X12_readAtom (d + 1)) w g 0 0 (QM (mr_X12_readAtom (d + 1)) w g x) (fun b : Int32 × MS => b = x) 173 [none, none] [.int t0, .ref (wB w + 171)] σ (J_X12_readAtom_173 r n t0 σ) := by
    intro t0 σ
    refine V_iconst (pc := 173) dX12_readAtom_173 ic_0 ?_
    refine V_callVv (pc := 174) (As := [.int t0, .int (0 : Int32)]) (rest := []) (c_X12_emits w t0 (0 : Int32) σ) cw_X12_184 rfl rfl dX12_readAtom_174 kc_171 ci_12 ⟨by simp only [mr_X12_readAtom, m_X12_emits]; omega, by simp only [mr_X12_readAtom, m_X12_emits]; omega⟩ rfl rfl (Nat.le_of_ble_eq_true rfl) (Nat.le_of_ble_eq_true rfl) (Nat.le_of_ble_eq_true rfl) rfl (fun q174 => ?_)
    refine V_iconst (pc := 177) dX12_readAtom_177 ic_1 ?_
    exact V_iretz (pc := 178) dX12_readAtom_178 rfl rfl (hk := fun h => h)
  have hJ159 : ∀ (σ : MS), VV (mr_X12_readAtom (d + 1)) w g 0 0 (QM (mr_X12_readAtom (d + 1)) w g x) (fun b : Int32 × MS => b = x) 159 [none, none] [] σ (J_X12_readAtom_159 r n  σ) := by
    intro σ
    refine V_iconst (pc := 159) dX12_readAtom_159 ic_0 ?_
    exact V_iretz (pc := 160) dX12_readAtom_160 rfl rfl (hk := fun h => h)
  have hJ152 : ∀ (v1 : Int32) (σ : MS), VV (mr_X12_readAtom (d + 1)) w g 0 0 (QM (mr_X12_readAtom (d + 1)) w g x) (fun b : Int32 × MS => b = x) 152 [some (.ref (wB w + 171)), some (.int v1)] [] σ (J_X12_readAtom_152 r n v1 σ) := by
    intro v1 σ
    refine V_aload_n (pc := 152) dX12_readAtom_152 rfl rfl ?_
    refine V_callVi (pc := 153) (As := []) (rest := []) (c_X12_readSum w n  σ) cw_X12_222 rfl rfl dX12_readAtom_153 kc_171 ci_12 ⟨by simp only [mr_X12_readAtom, m_X12_readSum]; omega, by simp only [mr_X12_readAtom, m_X12_readSum]; omega⟩ rfl rfl (Nat.le_of_ble_eq_true rfl) (Nat.le_of_ble_eq_true rfl) (Nat.le_of_ble_eq_true rfl) rfl (fun q153 => ?_)
    refine V_if_ne (pc := 156) (tgt := 161) dX12_readAtom_156 (by decide +kernel) ?_ ?_
    · refine V_aload_n (pc := 161) dX12_readAtom_161 rfl rfl ?_
      refine V_iload_n (pc := 162) dX12_readAtom_162 rfl rfl ?_
      refine V_if_eq (pc := 163) (tgt := 171) dX12_readAtom_163 (by decide +kernel) ?_ ?_
      · refine V_bipush (pc := 171) dX12_readAtom_171 bp_11 ?_
        refine V_sub (vs' := [none, none]) (show vless _ _ from trivial) rfl ?_
        exact hJ173 (11 : Int32) q153.2
      · refine V_bipush (pc := 166) dX12_readAtom_166 bp_10 ?_
        refine V_goto (pc := 168) (tgt := 173) dX12_readAtom_168 (by decide +kernel) ?_
        refine V_sub (vs' := [none, none]) (show vless _ _ from trivial) rfl ?_
        exact hJ173 (10 : Int32) q153.2
    · refine V_sub (vs' := [none, none]) (show vless _ _ from trivial) rfl ?_
      exact hJ159 q153.2
  refine V_aload_n (pc := 0) dX12_readAtom_0 rfl rfl ?_
  refine V_bipush (pc := 1) dX12_readAtom_1 bp_40 ?_
  refine V_callVi (pc := 3) (As := [.int (40 : Int32)]) (rest := []) (c_X12_sign w n (40 : Int32) σ) cw_X12_200 rfl rfl dX12_readAtom_3 kc_171 ci_12 ⟨by simp only [mr_X12_readAtom, m_X12_sign]; omega, by simp only [mr_X12_readAtom, m_X12_sign]; omega⟩ rfl rfl (Nat.le_of_ble_eq_true rfl) (Nat.le_of_ble_eq_true rfl) (Nat.le_of_ble_eq_true rfl) rfl (fun q3 => ?_)
  refine V_if_eq (pc := 6) (tgt := 56) dX12_readAtom_6 (by decide +kernel) ?_ ?_
  · refine V_aload_n (pc := 56) dX12_readAtom_56 rfl rfl ?_
    refine V_ldcS (pc := 57) (i := 16) (tx := "not") dX12_readAtom_57 rfl (show (RX12, 211, "not", 16) ∈ strT from by decide +kernel) ?_
    refine V_callVi (pc := 59) (As := [.ref (wS w 16)]) (rest := []) (c_X12_passes w n 16 (by decide) q3.2) cw_X12_213 rfl rfl dX12_readAtom_59 kc_171 ci_12 ⟨by simp only [mr_X12_readAtom, m_X12_passes]; omega, by simp only [mr_X12_readAtom, m_X12_passes]; omega⟩ rfl rfl (Nat.le_of_ble_eq_true rfl) (Nat.le_of_ble_eq_true rfl) (Nat.le_of_ble_eq_true rfl) rfl (fun q59 => ?_)
    refine V_if_eq (pc := 62) (tgt := 114) dX12_readAtom_62 (by decide +kernel) ?_ ?_
    · refine V_aload_n (pc := 114) dX12_readAtom_114 rfl rfl ?_
      refine V_callVi (pc := 115) (As := []) (rest := []) (c_X12_readTag w n  q59.2) cw_X12_219 rfl rfl dX12_readAtom_115 kc_171 ci_12 ⟨by simp only [mr_X12_readAtom, m_X12_readTag]; omega, by simp only [mr_X12_readAtom, m_X12_readTag]; omega⟩ rfl rfl (Nat.le_of_ble_eq_true rfl) (Nat.le_of_ble_eq_true rfl) (Nat.le_of_ble_eq_true rfl) rfl (fun q115 => ?_)
      refine V_if_eq (pc := 118) (tgt := 123) dX12_readAtom_118 (by decide +kernel) ?_ ?_
      · refine V_aload_n (pc := 123) dX12_readAtom_123 rfl rfl ?_
        refine V_callVi (pc := 124) (As := []) (rest := []) (c_X12_readSum w n  q115.2) cw_X12_222 rfl rfl dX12_readAtom_124 kc_171 ci_12 ⟨by simp only [mr_X12_readAtom, m_X12_readSum]; omega, by simp only [mr_X12_readAtom, m_X12_readSum]; omega⟩ rfl rfl (Nat.le_of_ble_eq_true rfl) (Nat.le_of_ble_eq_true rfl) (Nat.le_of_ble_eq_true rfl) rfl (fun q124 => ?_)
        refine V_if_ne (pc := 127) (tgt := 132) dX12_readAtom_127 (by decide +kernel) ?_ ?_
        · refine V_aload_n (pc := 132) dX12_readAtom_132 rfl rfl ?_
          refine V_bipush (pc := 133) dX12_readAtom_133 bp_60 ?_
          refine V_callVi (pc := 135) (As := [.int (60 : Int32)]) (rest := []) (c_X12_sign w n (60 : Int32) q124.2) cw_X12_200 rfl rfl dX12_readAtom_135 kc_171 ci_12 ⟨by simp only [mr_X12_readAtom, m_X12_sign]; omega, by simp only [mr_X12_readAtom, m_X12_sign]; omega⟩ rfl rfl (Nat.le_of_ble_eq_true rfl) (Nat.le_of_ble_eq_true rfl) (Nat.le_of_ble_eq_true rfl) rfl (fun q135 => ?_)
          refine V_istore_n (pc := 138) (vs' := [some (.ref (wB w + 171)), some (.int q135.1)]) dX12_readAtom_138 rfl (Nat.le_of_ble_eq_true rfl) (Nat.le_of_ble_eq_true rfl) rfl ?_
          refine V_iload_n (pc := 139) dX12_readAtom_139 rfl rfl ?_
          refine V_if_ne (pc := 140) (tgt := 152) dX12_readAtom_140 (by decide +kernel) ?_ ?_
          · exact hJ152 q135.1 q135.2
          · refine V_aload_n (pc := 143) dX12_readAtom_143 rfl rfl ?_
            refine V_bipush (pc := 144) dX12_readAtom_144 bp_62 ?_
            refine V_callVi (pc := 146) (As := [.int (62 : Int32)]) (rest := []) (c_X12_sign w n (62 : Int32) q135.2) cw_X12_200 rfl rfl dX12_readAtom_146 kc_171 ci_12 ⟨by simp only [mr_X12_readAtom, m_X12_sign]; omega, by simp only [mr_X12_readAtom, m_X12_sign]; omega⟩ rfl rfl (Nat.le_of_ble_eq_true rfl) (Nat.le_of_ble_eq_true rfl) (Nat.le_of_ble_eq_true rfl) rfl (fun q146 => ?_)
            refine V_if_eq (pc := 149) (tgt := 159) dX12_readAtom_149 (by decide +kernel) ?_ ?_
            · refine V_sub (vs' := [none, none]) (show vless _ _ from trivial) rfl ?_
              exact hJ159 q146.2
            · exact hJ152 q135.1 q146.2
        · refine V_iconst (pc := 130) dX12_readAtom_130 ic_0 ?_
          exact V_iretz (pc := 131) dX12_readAtom_131 rfl rfl (hk := fun h => h)
      · refine V_iconst (pc := 121) dX12_readAtom_121 ic_1 ?_
        exact V_iretz (pc := 122) dX12_readAtom_122 rfl rfl (hk := fun h => h)
    · refine V_aload_n (pc := 65) dX12_readAtom_65 rfl rfl ?_
      refine V_geti (pc := 66) fk_X12_205 rfl dX12_readAtom_66 kc_171 rf_12_13_171 ?_
      refine V_bipush (pc := 69) dX12_readAtom_69 bp_6 ?_
      refine V_icmp_ne (pc := 71) (tgt := 76) dX12_readAtom_71 (by decide +kernel) ?_ ?_
      · refine V_aload_n (pc := 76) dX12_readAtom_76 rfl rfl ?_
        refine V_dup (pc := 77) dX12_readAtom_77 rfl ?_
        refine V_geti (pc := 78) fk_X12_205 rfl dX12_readAtom_78 kc_171 rf_12_13_171 ?_
        refine V_iconst (pc := 81) dX12_readAtom_81 ic_1 ?_
        refine V_iadd (pc := 82) dX12_readAtom_82 ?_
        refine V_puti (pc := 83) fp_X12_205 rfl dX12_readAtom_83 kc_171 rf_12_13_171 (fun s83 => ?_)
        refine V_aload_n (pc := 86) dX12_readAtom_86 rfl rfl ?_
        refine V_callVi (pc := 87) (As := []) (rest := []) (ih.1 w s83) cw_X12_216 rfl rfl dX12_readAtom_87 kc_171 ci_12 ⟨by simp only [mr_X12_readAtom, mr_X12_readAtom]; omega, by simp only [mr_X12_readAtom, mr_X12_readAtom]; omega⟩ rfl rfl (Nat.le_of_ble_eq_true rfl) (Nat.le_of_ble_eq_true rfl) (Nat.le_of_ble_eq_true rfl) rfl (fun q87 => ?_)
        refine V_if_ne (pc := 90) (tgt := 95) dX12_readAtom_90 (by decide +kernel) ?_ ?_
        · refine V_aload_n (pc := 95) dX12_readAtom_95 rfl rfl ?_
          refine V_dup (pc := 96) dX12_readAtom_96 rfl ?_
          refine V_geti (pc := 97) fk_X12_205 rfl dX12_readAtom_97 kc_171 rf_12_13_171 ?_
          refine V_iconst (pc := 100) dX12_readAtom_100 ic_1 ?_
          refine V_isub (pc := 101) dX12_readAtom_101 ?_
          refine V_puti (pc := 102) fp_X12_205 rfl dX12_readAtom_102 kc_171 rf_12_13_171 (fun s102 => ?_)
          refine V_aload_n (pc := 105) dX12_readAtom_105 rfl rfl ?_
          refine V_bipush (pc := 106) dX12_readAtom_106 bp_12 ?_
          refine V_iconst (pc := 108) dX12_readAtom_108 ic_0 ?_
          refine V_callVv (pc := 109) (As := [.int (12 : Int32), .int (0 : Int32)]) (rest := []) (c_X12_emits w (12 : Int32) (0 : Int32) s102) cw_X12_184 rfl rfl dX12_readAtom_109 kc_171 ci_12 ⟨by simp only [mr_X12_readAtom, m_X12_emits]; omega, by simp only [mr_X12_readAtom, m_X12_emits]; omega⟩ rfl rfl (Nat.le_of_ble_eq_true rfl) (Nat.le_of_ble_eq_true rfl) (Nat.le_of_ble_eq_true rfl) rfl (fun q109 => ?_)
          refine V_iconst (pc := 112) dX12_readAtom_112 ic_1 ?_
          exact V_iretz (pc := 113) dX12_readAtom_113 rfl rfl (hk := fun h => h)
        · refine V_iconst (pc := 93) dX12_readAtom_93 ic_0 ?_
          exact V_iretz (pc := 94) dX12_readAtom_94 rfl rfl (hk := fun h => h)
      · refine V_iconst (pc := 74) dX12_readAtom_74 ic_0 ?_
        exact V_iretz (pc := 75) dX12_readAtom_75 rfl rfl (hk := fun h => h)
  · refine V_aload_n (pc := 9) dX12_readAtom_9 rfl rfl ?_
    refine V_geti (pc := 10) fk_X12_205 rfl dX12_readAtom_10 kc_171 rf_12_13_171 ?_
    refine V_bipush (pc := 13) dX12_readAtom_13 bp_6 ?_
    refine V_icmp_ne (pc := 15) (tgt := 20) dX12_readAtom_15 (by decide +kernel) ?_ ?_
    · refine V_aload_n (pc := 20) dX12_readAtom_20 rfl rfl ?_
      refine V_dup (pc := 21) dX12_readAtom_21 rfl ?_
      refine V_geti (pc := 22) fk_X12_205 rfl dX12_readAtom_22 kc_171 rf_12_13_171 ?_
      refine V_iconst (pc := 25) dX12_readAtom_25 ic_1 ?_
      refine V_iadd (pc := 26) dX12_readAtom_26 ?_
      refine V_puti (pc := 27) fp_X12_205 rfl dX12_readAtom_27 kc_171 rf_12_13_171 (fun s27 => ?_)
      refine V_aload_n (pc := 30) dX12_readAtom_30 rfl rfl ?_
      refine V_callVi (pc := 31) (As := []) (rest := []) (ih.2.2 w s27) cw_X12_208 rfl rfl dX12_readAtom_31 kc_171 ci_12 ⟨by simp only [mr_X12_readAtom, mr_X12_readCond]; omega, by simp only [mr_X12_readAtom, mr_X12_readCond]; omega⟩ rfl rfl (Nat.le_of_ble_eq_true rfl) (Nat.le_of_ble_eq_true rfl) (Nat.le_of_ble_eq_true rfl) rfl (fun q31 => ?_)
      refine V_if_ne (pc := 34) (tgt := 39) dX12_readAtom_34 (by decide +kernel) ?_ ?_
      · refine V_aload_n (pc := 39) dX12_readAtom_39 rfl rfl ?_
        refine V_dup (pc := 40) dX12_readAtom_40 rfl ?_
        refine V_geti (pc := 41) fk_X12_205 rfl dX12_readAtom_41 kc_171 rf_12_13_171 ?_
        refine V_iconst (pc := 44) dX12_readAtom_44 ic_1 ?_
        refine V_isub (pc := 45) dX12_readAtom_45 ?_
        refine V_puti (pc := 46) fp_X12_205 rfl dX12_readAtom_46 kc_171 rf_12_13_171 (fun s46 => ?_)
        refine V_aload_n (pc := 49) dX12_readAtom_49 rfl rfl ?_
        refine V_bipush (pc := 50) dX12_readAtom_50 bp_41 ?_
        refine V_callVi (pc := 52) (As := [.int (41 : Int32)]) (rest := []) (c_X12_sign w n (41 : Int32) s46) cw_X12_200 rfl rfl dX12_readAtom_52 kc_171 ci_12 ⟨by simp only [mr_X12_readAtom, m_X12_sign]; omega, by simp only [mr_X12_readAtom, m_X12_sign]; omega⟩ rfl rfl (Nat.le_of_ble_eq_true rfl) (Nat.le_of_ble_eq_true rfl) (Nat.le_of_ble_eq_true rfl) rfl (fun q52 => ?_)
        exact V_iretZ (pc := 55) dX12_readAtom_55 rfl (hk := fun h => h)
      · refine V_iconst (pc := 37) dX12_readAtom_37 ic_0 ?_
        exact V_iretz (pc := 38) dX12_readAtom_38 rfl rfl (hk := fun h => h)
    · refine V_iconst (pc := 18) dX12_readAtom_18 ic_0 ?_
      exact V_iretz (pc := 19) dX12_readAtom_19 rfl rfl (hk := fun h => h)
set_option maxRecDepth 20000 in
set_option maxHeartbeats 2000000 in
theorem cst_X12_readAllOf (n d : Nat) (r : RT_gr) (ih : IH_gr d r) (w : TG)  (σ : MS) : MC (mr_X12_readAllOf (d + 1)) w [.ref (wB w + 171)] σ (F_X12_readAllOf r n  σ) := by
  refine V_meth (show plainName RX12 = true from by decide +kernel) (Nat.le_of_ble_eq_true rfl) (by intro v hv; simp only [List.mem_cons, List.not_mem_nil, or_false] at hv; subst hv; rfl) (fun g x => ?_)
  show VV (mr_X12_readAllOf (d + 1)) w g 0 0 (QM (mr_X12_readAllOf (d + 1)) w g x) (fun b : Int32 × MS => b = x) 0 [some (.ref (wB w + 171))] [] σ (F_X12_readAllOf r n  σ)
  have hL9 : ∀  (n0 : Nat) (a : MS), VV (mr_X12_readAllOf (d + 1)) w g 0 0 (QM (mr_X12_readAllOf (d + 1)) w g x) (fun b : Int32 × MS => b = x) 9 [some (.ref (wB w + 171))] [] a (itr (L_X12_readAllOf_9 r n  σ) n0 a) := by
    refine V_itr (vf := fun a : MS => [some (.ref (wB w + 171))]) (sf := fun a : MS => a) (fun κ9 b9 r9 a9 => ?_)
    show VV (mr_X12_readAllOf (d + 1)) w g 0 0 (QM (mr_X12_readAllOf (d + 1)) w g x) κ9 9 [some (.ref (wB w + 171))] [] a9 (L_X12_readAllOf_9 r n  σ a9)
    refine V_aload_n (pc := 9) dX12_readAllOf_9 rfl rfl ?_
    refine V_ldcS (pc := 10) (i := 17) (tx := "and") dX12_readAllOf_10 rfl (show (RX12, 225, "and", 17) ∈ strT from by decide +kernel) ?_
    refine V_callVi (pc := 12) (As := [.ref (wS w 17)]) (rest := []) (c_X12_passes w n 17 (by decide) a9) cw_X12_213 rfl rfl dX12_readAllOf_12 kc_171 ci_12 ⟨by simp only [mr_X12_readAllOf, m_X12_passes]; omega, by simp only [mr_X12_readAllOf, m_X12_passes]; omega⟩ rfl rfl (Nat.le_of_ble_eq_true rfl) (Nat.le_of_ble_eq_true rfl) (Nat.le_of_ble_eq_true rfl) rfl (fun q12 => ?_)
    refine V_if_eq (pc := 15) (tgt := 37) dX12_readAllOf_15 (by decide +kernel) ?_ ?_
    · refine V_exit r9 ?_
      refine V_iconst (pc := 37) dX12_readAllOf_37 ic_1 ?_
      exact V_iretz (pc := 38) dX12_readAllOf_38 rfl rfl (hk := fun h => h)
    · refine V_aload_n (pc := 18) dX12_readAllOf_18 rfl rfl ?_
      refine V_callVi (pc := 19) (As := []) (rest := []) (ih.1 w q12.2) cw_X12_216 rfl rfl dX12_readAllOf_19 kc_171 ci_12 ⟨by simp only [mr_X12_readAllOf, mr_X12_readAtom]; omega, by simp only [mr_X12_readAllOf, mr_X12_readAtom]; omega⟩ rfl rfl (Nat.le_of_ble_eq_true rfl) (Nat.le_of_ble_eq_true rfl) (Nat.le_of_ble_eq_true rfl) rfl (fun q19 => ?_)
      refine V_if_ne (pc := 22) (tgt := 27) dX12_readAllOf_22 (by decide +kernel) ?_ ?_
      · refine V_aload_n (pc := 27) dX12_readAllOf_27 rfl rfl ?_
        refine V_bipush (pc := 28) dX12_readAllOf_28 bp_13 ?_
        refine V_iconst (pc := 30) dX12_readAllOf_30 ic_0 ?_
        refine V_callVv (pc := 31) (As := [.int (13 : Int32), .int (0 : Int32)]) (rest := []) (c_X12_emits w (13 : Int32) (0 : Int32) q19.2) cw_X12_184 rfl rfl dX12_readAllOf_31 kc_171 ci_12 ⟨by simp only [mr_X12_readAllOf, m_X12_emits]; omega, by simp only [mr_X12_readAllOf, m_X12_emits]; omega⟩ rfl rfl (Nat.le_of_ble_eq_true rfl) (Nat.le_of_ble_eq_true rfl) (Nat.le_of_ble_eq_true rfl) rfl (fun q31 => ?_)
        refine V_goto (pc := 34) (tgt := 9) dX12_readAllOf_34 (by decide +kernel) ?_
        exact V_back (b9 (q31.2))
      · refine V_exit r9 ?_
        refine V_iconst (pc := 25) dX12_readAllOf_25 ic_0 ?_
        exact V_iretz (pc := 26) dX12_readAllOf_26 rfl rfl (hk := fun h => h)
  refine V_aload_n (pc := 0) dX12_readAllOf_0 rfl rfl ?_
  refine V_callVi (pc := 1) (As := []) (rest := []) (ih.1 w σ) cw_X12_216 rfl rfl dX12_readAllOf_1 kc_171 ci_12 ⟨by simp only [mr_X12_readAllOf, mr_X12_readAtom]; omega, by simp only [mr_X12_readAllOf, mr_X12_readAtom]; omega⟩ rfl rfl (Nat.le_of_ble_eq_true rfl) (Nat.le_of_ble_eq_true rfl) (Nat.le_of_ble_eq_true rfl) rfl (fun q1 => ?_)
  refine V_if_ne (pc := 4) (tgt := 9) dX12_readAllOf_4 (by decide +kernel) ?_ ?_
  · exact hL9 n (q1.2)
  · refine V_iconst (pc := 7) dX12_readAllOf_7 ic_0 ?_
    exact V_iretz (pc := 8) dX12_readAllOf_8 rfl rfl (hk := fun h => h)
set_option maxRecDepth 20000 in
set_option maxHeartbeats 2000000 in
theorem cst_X12_readCond (n d : Nat) (r : RT_gr) (ih : IH_gr d r) (w : TG)  (σ : MS) : MC (mr_X12_readCond (d + 1)) w [.ref (wB w + 171)] σ (F_X12_readCond r n  σ) := by
  refine V_meth (show plainName RX12 = true from by decide +kernel) (Nat.le_of_ble_eq_true rfl) (by intro v hv; simp only [List.mem_cons, List.not_mem_nil, or_false] at hv; subst hv; rfl) (fun g x => ?_)
  show VV (mr_X12_readCond (d + 1)) w g 0 0 (QM (mr_X12_readCond (d + 1)) w g x) (fun b : Int32 × MS => b = x) 0 [some (.ref (wB w + 171))] [] σ (F_X12_readCond r n  σ)
  have hL9 : ∀  (n0 : Nat) (a : MS), VV (mr_X12_readCond (d + 1)) w g 0 0 (QM (mr_X12_readCond (d + 1)) w g x) (fun b : Int32 × MS => b = x) 9 [some (.ref (wB w + 171))] [] a (itr (L_X12_readCond_9 r n  σ) n0 a) := by
    refine V_itr (vf := fun a : MS => [some (.ref (wB w + 171))]) (sf := fun a : MS => a) (fun κ9 b9 r9 a9 => ?_)
    show VV (mr_X12_readCond (d + 1)) w g 0 0 (QM (mr_X12_readCond (d + 1)) w g x) κ9 9 [some (.ref (wB w + 171))] [] a9 (L_X12_readCond_9 r n  σ a9)
    refine V_aload_n (pc := 9) dX12_readCond_9 rfl rfl ?_
    refine V_ldcS (pc := 10) (i := 18) (tx := "or") dX12_readCond_10 rfl (show (RX12, 230, "or", 18) ∈ strT from by decide +kernel) ?_
    refine V_callVi (pc := 12) (As := [.ref (wS w 18)]) (rest := []) (c_X12_passes w n 18 (by decide) a9) cw_X12_213 rfl rfl dX12_readCond_12 kc_171 ci_12 ⟨by simp only [mr_X12_readCond, m_X12_passes]; omega, by simp only [mr_X12_readCond, m_X12_passes]; omega⟩ rfl rfl (Nat.le_of_ble_eq_true rfl) (Nat.le_of_ble_eq_true rfl) (Nat.le_of_ble_eq_true rfl) rfl (fun q12 => ?_)
    refine V_if_eq (pc := 15) (tgt := 37) dX12_readCond_15 (by decide +kernel) ?_ ?_
    · refine V_exit r9 ?_
      refine V_iconst (pc := 37) dX12_readCond_37 ic_1 ?_
      exact V_iretz (pc := 38) dX12_readCond_38 rfl rfl (hk := fun h => h)
    · refine V_aload_n (pc := 18) dX12_readCond_18 rfl rfl ?_
      refine V_callVi (pc := 19) (As := []) (rest := []) (ih.2.1 w q12.2) cw_X12_227 rfl rfl dX12_readCond_19 kc_171 ci_12 ⟨by simp only [mr_X12_readCond, mr_X12_readAllOf]; omega, by simp only [mr_X12_readCond, mr_X12_readAllOf]; omega⟩ rfl rfl (Nat.le_of_ble_eq_true rfl) (Nat.le_of_ble_eq_true rfl) (Nat.le_of_ble_eq_true rfl) rfl (fun q19 => ?_)
      refine V_if_ne (pc := 22) (tgt := 27) dX12_readCond_22 (by decide +kernel) ?_ ?_
      · refine V_aload_n (pc := 27) dX12_readCond_27 rfl rfl ?_
        refine V_bipush (pc := 28) dX12_readCond_28 bp_14 ?_
        refine V_iconst (pc := 30) dX12_readCond_30 ic_0 ?_
        refine V_callVv (pc := 31) (As := [.int (14 : Int32), .int (0 : Int32)]) (rest := []) (c_X12_emits w (14 : Int32) (0 : Int32) q19.2) cw_X12_184 rfl rfl dX12_readCond_31 kc_171 ci_12 ⟨by simp only [mr_X12_readCond, m_X12_emits]; omega, by simp only [mr_X12_readCond, m_X12_emits]; omega⟩ rfl rfl (Nat.le_of_ble_eq_true rfl) (Nat.le_of_ble_eq_true rfl) (Nat.le_of_ble_eq_true rfl) rfl (fun q31 => ?_)
        refine V_goto (pc := 34) (tgt := 9) dX12_readCond_34 (by decide +kernel) ?_
        exact V_back (b9 (q31.2))
      · refine V_exit r9 ?_
        refine V_iconst (pc := 25) dX12_readCond_25 ic_0 ?_
        exact V_iretz (pc := 26) dX12_readCond_26 rfl rfl (hk := fun h => h)
  refine V_aload_n (pc := 0) dX12_readCond_0 rfl rfl ?_
  refine V_callVi (pc := 1) (As := []) (rest := []) (ih.2.1 w σ) cw_X12_227 rfl rfl dX12_readCond_1 kc_171 ci_12 ⟨by simp only [mr_X12_readCond, mr_X12_readAllOf]; omega, by simp only [mr_X12_readCond, mr_X12_readAllOf]; omega⟩ rfl rfl (Nat.le_of_ble_eq_true rfl) (Nat.le_of_ble_eq_true rfl) (Nat.le_of_ble_eq_true rfl) rfl (fun q1 => ?_)
  refine V_if_ne (pc := 4) (tgt := 9) dX12_readCond_4 (by decide +kernel) ?_ ?_
  · exact hL9 n (q1.2)
  · refine V_iconst (pc := 7) dX12_readCond_7 ic_0 ?_
    exact V_iretz (pc := 8) dX12_readCond_8 rfl rfl (hk := fun h => h)
def G_gr (n : Nat) : Nat → RT_gr
  | 0 => ((fun  _ => none), (fun  _ => none), (fun  _ => none))
  | d + 1 => (F_X12_readAtom (G_gr n d) n, F_X12_readAllOf (G_gr n d) n, F_X12_readCond (G_gr n d) n)
theorem cg_gr (n : Nat) : ∀ d, IH_gr d (G_gr n d) := by
  intro d
  induction d with
  | zero =>
    unfold IH_gr
    exact ⟨(fun _  _ _ _ _ h => by cases h), (fun _  _ _ _ _ h => by cases h), (fun _  _ _ _ _ h => by cases h)⟩
  | succ d ih =>
    unfold IH_gr
    exact ⟨cst_X12_readAtom n d _ ih, cst_X12_readAllOf n d _ ih, cst_X12_readCond n d _ ih⟩
def f_X12_readAtom (n : Nat)  (σ : MS) : Option (Int32 × MS) := (G_gr n 30).1  σ
theorem c_X12_readAtom (w : TG) (n : Nat)  (σ : MS) : MC m_X12_readAtom w [.ref (wB w + 171)] σ (f_X12_readAtom n  σ) := (cg_gr n 30).1 w  σ
def f_X12_readAllOf (n : Nat)  (σ : MS) : Option (Int32 × MS) := (G_gr n 30).2.1  σ
theorem c_X12_readAllOf (w : TG) (n : Nat)  (σ : MS) : MC m_X12_readAllOf w [.ref (wB w + 171)] σ (f_X12_readAllOf n  σ) := (cg_gr n 30).2.1 w  σ
def f_X12_readCond (n : Nat)  (σ : MS) : Option (Int32 × MS) := (G_gr n 30).2.2  σ
theorem c_X12_readCond (w : TG) (n : Nat)  (σ : MS) : MC m_X12_readCond w [.ref (wB w + 171)] σ (f_X12_readCond n  σ) := (cg_gr n 30).2.2 w  σ
def J_X12_readLawLine_128 (n : Nat) (v2 : Int32) (σ : MS) : Option (Int32 × MS) := (if inb (v2 + (3 : Int32)) 2172 then ltM (mu σ 172 (ix (v2 + (3 : Int32))) (σ 171 16)) (fun s139 => some ((1 : Int32), s139)) else none)
def J_X12_readLawLine_53 (n : Nat) (v2 : Int32) (t0 : Int32) (t1 : Int32) (σ : MS) : Option (Int32 × MS) := (if inb t1 2172 then ltM (mu σ 172 (ix t1) t0) (fun s53 => (if inb v2 2172 then (if 0 ≤ (s53 172 (ix v2)) then ((f_X12_number n (0 : Int32) (99 : Int32) s53).bind (fun q76 => (if inb (v2 + (1 : Int32)) 2172 then ltM (mu q76.2 172 (ix (v2 + (1 : Int32))) q76.1) (fun s79 => (if inb (v2 + (1 : Int32)) 2172 then (if 0 ≤ (s79 172 (ix (v2 + (1 : Int32)))) then (if inb (v2 + (2 : Int32)) 2172 then ltM (mu s79 172 (ix (v2 + (2 : Int32))) (s79 171 16)) (fun s104 => (ltM (mu s104 171 13 (0 : Int32)) (fun s107 => ((f_X12_passes n 22 s107).bind (fun q113 => (if q113.1 = 0 then J_X12_readLawLine_128 n v2 q113.2 else ((f_X12_readCond n  q113.2).bind (fun q120 => (if q120.1 = 0 then some ((0 : Int32), q120.2) else J_X12_readLawLine_128 n v2 q120.2))))))))) else none) else some ((0 : Int32), s79)) else none)) else none))) else some ((0 : Int32), s53)) else none)) else none)
def f_X12_readLawLine (n : Nat) (p1 : Int32) (σ : MS) : Option (Int32 × MS) := ((f_X12_isWord n 19 σ).bind (fun q16 => (if q16 = 0 then ((f_X12_isWord n 20 σ).bind (fun q29 => (if q29 = 0 then ((f_X12_isWord n 21 σ).bind (fun q42 => (if q42 = 0 then J_X12_readLawLine_53 n ((1324 : Int32) + ((4 : Int32) * p1)) (-1 : Int32) ((1324 : Int32) + ((4 : Int32) * p1)) σ else J_X12_readLawLine_53 n ((1324 : Int32) + ((4 : Int32) * p1)) (2 : Int32) ((1324 : Int32) + ((4 : Int32) * p1)) σ))) else J_X12_readLawLine_53 n ((1324 : Int32) + ((4 : Int32) * p1)) (1 : Int32) ((1324 : Int32) + ((4 : Int32) * p1)) σ))) else J_X12_readLawLine_53 n ((1324 : Int32) + ((4 : Int32) * p1)) (0 : Int32) ((1324 : Int32) + ((4 : Int32) * p1)) σ)))
set_option maxRecDepth 20000 in
set_option maxHeartbeats 2000000 in
theorem c_X12_readLawLine (w : TG) (n : Nat) (p1 : Int32) (σ : MS) : MC m_X12_readLawLine w [.ref (wB w + 171), .int p1] σ (f_X12_readLawLine n p1 σ) := by
  refine V_meth (by decide +kernel) (Nat.le_of_ble_eq_true rfl) (by intro v hv; simp only [List.mem_cons, List.not_mem_nil, or_false] at hv; rcases hv with rfl | rfl <;> rfl) (fun g x => ?_)
  show VV m_X12_readLawLine w g 0 0 (QM m_X12_readLawLine w g x) (fun b : Int32 × MS => b = x) 0 [some (.ref (wB w + 171)), some (.int p1), none] [] σ (f_X12_readLawLine n p1 σ)
  have hJ128 : ∀ (v2 : Int32) (σ : MS), VV m_X12_readLawLine w g 0 0 (QM m_X12_readLawLine w g x) (fun b : Int32 × MS => b = x) 128 [some (.ref (wB w + 171)), none, some (.int v2)] [] σ (J_X12_readLawLine_128 n v2 σ) := by
    intro v2 σ
    refine V_aload_n (pc := 128) dX12_readLawLine_128 rfl rfl ?_
    refine V_getr (pc := 129) (t := 172) fk_X12_13 rfl dX12_readLawLine_129 kc_171 rf_12_1_171 ?_
    refine V_iload_n (pc := 132) dX12_readLawLine_132 rfl rfl ?_
    refine V_iconst (pc := 133) dX12_readLawLine_133 ic_3 ?_
    refine V_iadd (pc := 134) dX12_readLawLine_134 ?_
    refine V_aload_n (pc := 135) dX12_readLawLine_135 rfl rfl ?_
    refine V_geti (pc := 136) fk_X12_181 rfl dX12_readLawLine_136 kc_171 rf_12_16_171 ?_
    refine V_iast (pc := 139) (n := 2172) dX12_readLawLine_139 kc_172 lc_172 (fun s139 => ?_)
    refine V_iconst (pc := 140) dX12_readLawLine_140 ic_1 ?_
    exact V_iretz (pc := 141) dX12_readLawLine_141 rfl rfl (hk := fun h => h)
  have hJ53 : ∀ (v2 : Int32) (t0 : Int32) (t1 : Int32) (σ : MS), VV m_X12_readLawLine w g 0 0 (QM m_X12_readLawLine w g x) (fun b : Int32 × MS => b = x) 53 [some (.ref (wB w + 171)), none, some (.int v2)] [.int t0, .int t1, .ref (wB w + 172)] σ (J_X12_readLawLine_53 n v2 t0 t1 σ) := by
    intro v2 t0 t1 σ
    refine V_iast (pc := 53) (n := 2172) dX12_readLawLine_53 kc_172 lc_172 (fun s53 => ?_)
    refine V_aload_n (pc := 54) dX12_readLawLine_54 rfl rfl ?_
    refine V_getr (pc := 55) (t := 172) fk_X12_13 rfl dX12_readLawLine_55 kc_171 rf_12_1_171 ?_
    refine V_iload_n (pc := 58) dX12_readLawLine_58 rfl rfl ?_
    refine V_iald (pc := 59) (n := 2172) dX12_readLawLine_59 kc_172 lc_172 ?_
    refine V_if_ge (pc := 60) (tgt := 65) dX12_readLawLine_60 (by decide +kernel) ?_ ?_
    · refine V_aload_n (pc := 65) dX12_readLawLine_65 rfl rfl ?_
      refine V_getr (pc := 66) (t := 172) fk_X12_13 rfl dX12_readLawLine_66 kc_171 rf_12_1_171 ?_
      refine V_iload_n (pc := 69) dX12_readLawLine_69 rfl rfl ?_
      refine V_iconst (pc := 70) dX12_readLawLine_70 ic_1 ?_
      refine V_iadd (pc := 71) dX12_readLawLine_71 ?_
      refine V_aload_n (pc := 72) dX12_readLawLine_72 rfl rfl ?_
      refine V_iconst (pc := 73) dX12_readLawLine_73 ic_0 ?_
      refine V_bipush (pc := 74) dX12_readLawLine_74 bp_99 ?_
      refine V_callVi (pc := 76) (As := [.int (0 : Int32), .int (99 : Int32)]) (rest := [.int (v2 + (1 : Int32)), .ref (wB w + 172)]) (c_X12_number w n (0 : Int32) (99 : Int32) s53) cw_X12_118 rfl rfl dX12_readLawLine_76 kc_171 ci_12 ⟨Nat.le_of_ble_eq_true rfl, Nat.le_of_ble_eq_true rfl⟩ rfl rfl (Nat.le_of_ble_eq_true rfl) (Nat.le_of_ble_eq_true rfl) (Nat.le_of_ble_eq_true rfl) rfl (fun q76 => ?_)
      refine V_iast (pc := 79) (n := 2172) dX12_readLawLine_79 kc_172 lc_172 (fun s79 => ?_)
      refine V_aload_n (pc := 80) dX12_readLawLine_80 rfl rfl ?_
      refine V_getr (pc := 81) (t := 172) fk_X12_13 rfl dX12_readLawLine_81 kc_171 rf_12_1_171 ?_
      refine V_iload_n (pc := 84) dX12_readLawLine_84 rfl rfl ?_
      refine V_iconst (pc := 85) dX12_readLawLine_85 ic_1 ?_
      refine V_iadd (pc := 86) dX12_readLawLine_86 ?_
      refine V_iald (pc := 87) (n := 2172) dX12_readLawLine_87 kc_172 lc_172 ?_
      refine V_if_ge (pc := 88) (tgt := 93) dX12_readLawLine_88 (by decide +kernel) ?_ ?_
      · refine V_aload_n (pc := 93) dX12_readLawLine_93 rfl rfl ?_
        refine V_getr (pc := 94) (t := 172) fk_X12_13 rfl dX12_readLawLine_94 kc_171 rf_12_1_171 ?_
        refine V_iload_n (pc := 97) dX12_readLawLine_97 rfl rfl ?_
        refine V_iconst (pc := 98) dX12_readLawLine_98 ic_2 ?_
        refine V_iadd (pc := 99) dX12_readLawLine_99 ?_
        refine V_aload_n (pc := 100) dX12_readLawLine_100 rfl rfl ?_
        refine V_geti (pc := 101) fk_X12_181 rfl dX12_readLawLine_101 kc_171 rf_12_16_171 ?_
        refine V_iast (pc := 104) (n := 2172) dX12_readLawLine_104 kc_172 lc_172 (fun s104 => ?_)
        refine V_aload_n (pc := 105) dX12_readLawLine_105 rfl rfl ?_
        refine V_iconst (pc := 106) dX12_readLawLine_106 ic_0 ?_
        refine V_puti (pc := 107) fp_X12_205 rfl dX12_readLawLine_107 kc_171 rf_12_13_171 (fun s107 => ?_)
        refine V_aload_n (pc := 110) dX12_readLawLine_110 rfl rfl ?_
        refine V_ldcS (pc := 111) (i := 22) (tx := "if") dX12_readLawLine_111 rfl (show (RX12, 238, "if", 22) ∈ strT from by decide +kernel) ?_
        refine V_callVi (pc := 113) (As := [.ref (wS w 22)]) (rest := []) (c_X12_passes w n 22 (by decide) s107) cw_X12_213 rfl rfl dX12_readLawLine_113 kc_171 ci_12 ⟨Nat.le_of_ble_eq_true rfl, Nat.le_of_ble_eq_true rfl⟩ rfl rfl (Nat.le_of_ble_eq_true rfl) (Nat.le_of_ble_eq_true rfl) (Nat.le_of_ble_eq_true rfl) rfl (fun q113 => ?_)
        refine V_if_eq (pc := 116) (tgt := 128) dX12_readLawLine_116 (by decide +kernel) ?_ ?_
        · exact hJ128 v2 q113.2
        · refine V_aload_n (pc := 119) dX12_readLawLine_119 rfl rfl ?_
          refine V_callVi (pc := 120) (As := []) (rest := []) (c_X12_readCond w n  q113.2) cw_X12_208 rfl rfl dX12_readLawLine_120 kc_171 ci_12 ⟨Nat.le_of_ble_eq_true rfl, Nat.le_of_ble_eq_true rfl⟩ rfl rfl (Nat.le_of_ble_eq_true rfl) (Nat.le_of_ble_eq_true rfl) (Nat.le_of_ble_eq_true rfl) rfl (fun q120 => ?_)
          refine V_if_ne (pc := 123) (tgt := 128) dX12_readLawLine_123 (by decide +kernel) ?_ ?_
          · exact hJ128 v2 q120.2
          · refine V_iconst (pc := 126) dX12_readLawLine_126 ic_0 ?_
            exact V_iretz (pc := 127) dX12_readLawLine_127 rfl rfl (hk := fun h => h)
      · refine V_iconst (pc := 91) dX12_readLawLine_91 ic_0 ?_
        exact V_iretz (pc := 92) dX12_readLawLine_92 rfl rfl (hk := fun h => h)
    · refine V_iconst (pc := 63) dX12_readLawLine_63 ic_0 ?_
      exact V_iretz (pc := 64) dX12_readLawLine_64 rfl rfl (hk := fun h => h)
  refine V_sipush (pc := 0) dX12_readLawLine_0 sp_1324 ?_
  refine V_iconst (pc := 3) dX12_readLawLine_3 ic_4 ?_
  refine V_iload_n (pc := 4) dX12_readLawLine_4 rfl rfl ?_
  refine V_imul (pc := 5) dX12_readLawLine_5 ?_
  refine V_iadd (pc := 6) dX12_readLawLine_6 ?_
  refine V_istore_n (pc := 7) (vs' := [some (.ref (wB w + 171)), some (.int p1), some (.int ((1324 : Int32) + ((4 : Int32) * p1)))]) dX12_readLawLine_7 rfl (Nat.le_of_ble_eq_true rfl) (Nat.le_of_ble_eq_true rfl) rfl ?_
  refine V_aload_n (pc := 8) dX12_readLawLine_8 rfl rfl ?_
  refine V_getr (pc := 9) (t := 172) fk_X12_13 rfl dX12_readLawLine_9 kc_171 rf_12_1_171 ?_
  refine V_iload_n (pc := 12) dX12_readLawLine_12 rfl rfl ?_
  refine V_aload_n (pc := 13) dX12_readLawLine_13 rfl rfl ?_
  refine V_ldcS (pc := 14) (i := 19) (tx := "bind") dX12_readLawLine_14 rfl (show (RX12, 232, "bind", 19) ∈ strT from by decide +kernel) ?_
  refine V_callVpi (pc := 16) (As := [.ref (wS w 19)]) (rest := [.int ((1324 : Int32) + ((4 : Int32) * p1)), .ref (wB w + 172)]) (c_X12_isWord w n 19 (by decide) σ) cw_X12_114 rfl rfl dX12_readLawLine_16 kc_171 ci_12 ⟨Nat.le_of_ble_eq_true rfl, Nat.le_of_ble_eq_true rfl⟩ rfl rfl (Nat.le_of_ble_eq_true rfl) (Nat.le_of_ble_eq_true rfl) (Nat.le_of_ble_eq_true rfl) rfl (fun q16 => ?_)
  refine V_if_eq (pc := 19) (tgt := 26) dX12_readLawLine_19 (by decide +kernel) ?_ ?_
  · refine V_aload_n (pc := 26) dX12_readLawLine_26 rfl rfl ?_
    refine V_ldcS (pc := 27) (i := 20) (tx := "last") dX12_readLawLine_27 rfl (show (RX12, 234, "last", 20) ∈ strT from by decide +kernel) ?_
    refine V_callVpi (pc := 29) (As := [.ref (wS w 20)]) (rest := [.int ((1324 : Int32) + ((4 : Int32) * p1)), .ref (wB w + 172)]) (c_X12_isWord w n 20 (by decide) σ) cw_X12_114 rfl rfl dX12_readLawLine_29 kc_171 ci_12 ⟨Nat.le_of_ble_eq_true rfl, Nat.le_of_ble_eq_true rfl⟩ rfl rfl (Nat.le_of_ble_eq_true rfl) (Nat.le_of_ble_eq_true rfl) (Nat.le_of_ble_eq_true rfl) rfl (fun q29 => ?_)
    refine V_if_eq (pc := 32) (tgt := 39) dX12_readLawLine_32 (by decide +kernel) ?_ ?_
    · refine V_aload_n (pc := 39) dX12_readLawLine_39 rfl rfl ?_
      refine V_ldcS (pc := 40) (i := 21) (tx := "suspect") dX12_readLawLine_40 rfl (show (RX12, 236, "suspect", 21) ∈ strT from by decide +kernel) ?_
      refine V_callVpi (pc := 42) (As := [.ref (wS w 21)]) (rest := [.int ((1324 : Int32) + ((4 : Int32) * p1)), .ref (wB w + 172)]) (c_X12_isWord w n 21 (by decide) σ) cw_X12_114 rfl rfl dX12_readLawLine_42 kc_171 ci_12 ⟨Nat.le_of_ble_eq_true rfl, Nat.le_of_ble_eq_true rfl⟩ rfl rfl (Nat.le_of_ble_eq_true rfl) (Nat.le_of_ble_eq_true rfl) (Nat.le_of_ble_eq_true rfl) rfl (fun q42 => ?_)
      refine V_if_eq (pc := 45) (tgt := 52) dX12_readLawLine_45 (by decide +kernel) ?_ ?_
      · refine V_iconst (pc := 52) dX12_readLawLine_52 ic_m1 ?_
        refine V_sub (vs' := [some (.ref (wB w + 171)), none, some (.int ((1324 : Int32) + ((4 : Int32) * p1)))]) (show vless _ _ from ⟨rfl, ⟨rfl, trivial⟩⟩) rfl ?_
        exact hJ53 ((1324 : Int32) + ((4 : Int32) * p1)) (-1 : Int32) ((1324 : Int32) + ((4 : Int32) * p1)) σ
      · refine V_iconst (pc := 48) dX12_readLawLine_48 ic_2 ?_
        refine V_goto (pc := 49) (tgt := 53) dX12_readLawLine_49 (by decide +kernel) ?_
        refine V_sub (vs' := [some (.ref (wB w + 171)), none, some (.int ((1324 : Int32) + ((4 : Int32) * p1)))]) (show vless _ _ from ⟨rfl, ⟨rfl, trivial⟩⟩) rfl ?_
        exact hJ53 ((1324 : Int32) + ((4 : Int32) * p1)) (2 : Int32) ((1324 : Int32) + ((4 : Int32) * p1)) σ
    · refine V_iconst (pc := 35) dX12_readLawLine_35 ic_1 ?_
      refine V_goto (pc := 36) (tgt := 53) dX12_readLawLine_36 (by decide +kernel) ?_
      refine V_sub (vs' := [some (.ref (wB w + 171)), none, some (.int ((1324 : Int32) + ((4 : Int32) * p1)))]) (show vless _ _ from ⟨rfl, ⟨rfl, trivial⟩⟩) rfl ?_
      exact hJ53 ((1324 : Int32) + ((4 : Int32) * p1)) (1 : Int32) ((1324 : Int32) + ((4 : Int32) * p1)) σ
  · refine V_iconst (pc := 22) dX12_readLawLine_22 ic_0 ?_
    refine V_goto (pc := 23) (tgt := 53) dX12_readLawLine_23 (by decide +kernel) ?_
    refine V_sub (vs' := [some (.ref (wB w + 171)), none, some (.int ((1324 : Int32) + ((4 : Int32) * p1)))]) (show vless _ _ from ⟨rfl, ⟨rfl, trivial⟩⟩) rfl ?_
    exact hJ53 ((1324 : Int32) + ((4 : Int32) * p1)) (0 : Int32) ((1324 : Int32) + ((4 : Int32) * p1)) σ
