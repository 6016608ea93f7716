def m_X12_shares : MD := (yX12_shares, cX12_shares, 6, (some .int), 9, 270, 0, 0)
def m_X12_noCup : MD := (yX12_noCup, cX12_noCup, 3, (some .boolean), 2, 40, 0, 0)
def m_X12_keepsAll : MD := (yX12_keepsAll, cX12_keepsAll, 2, none, 0, 0, 0, 0)
def m_X12_bringsBack : MD := (yX12_bringsBack, cX12_bringsBack, 2, none, 0, 0, 0, 0)
def m_X12_share : MD := (yX12_share, cX12_share, 3, (some .int), 10, 295, 0, 0)
def m_X12_would : MD := (yX12_would, cX12_would, 4, (some .int), 10, 295, 0, 0)
def m_X12_bondsThatHold : MD := (yX12_bondsThatHold, cX12_bondsThatHold, 4, (some .int), 2, 43, 0, 0)
def m_X12_widest : MD := (yX12_widest, cX12_widest, 7, (some .int), 10, 295, 0, 0)
def m_X12_boundTo : MD := (yX12_boundTo, cX12_boundTo, 4, (some .int), 2, 43, 0, 0)
def m_X12_mostOf : MD := (yX12_mostOf, cX12_mostOf, 6, (some .int), 4, 200, 0, 0)
def m_X12_widened : MD := (yX12_widened, cX12_widened, 4, (some .int), 3, 66, 0, 0)
def m_X12_circleOf : MD := (yX12_circleOf, cX12_circleOf, 4, (some .int), 4, 89, 0, 0)
def m_X12_likesMost : MD := (yX12_likesMost, cX12_likesMost, 3, (some .int), 5, 225, 0, 0)
def m_X12_isGladder : MD := (yX12_isGladder, cX12_isGladder, 3, (some .boolean), 6, 247, 0, 0)
def m_X12_gladderBy : MD := (yX12_gladderBy, cX12_gladderBy, 4, (some .int), 7, 269, 0, 0)
def m_X12_person : MD := (yX12_person, cX12_person, 3, (some .int), 8, 292, 0, 0)
def m_X12_liking : MD := (yX12_liking, cX12_liking, 3, (some .int), 3, 65, 0, 0)
def m_X12_bond : MD := (yX12_bond, cX12_bond, 4, (some .int), 3, 65, 0, 0)
def m_X12_circles : MD := (yX12_circles, cX12_circles, 4, (some .int), 5, 112, 0, 0)
def m_X12_ends : MD := (yX12_ends, cX12_ends, 4, (some .int), 4, 200, 0, 0)
def m_X12_free : MD := (yX12_free, cX12_free, 5, (some .int), 2, 40, 0, 0)
def m_X12_isSecret : MD := (yX12_isSecret, cX12_isSecret, 3, (some .boolean), 3, 65, 0, 0)
theorem cs_X12_318 : csp RX12 318 m_J6_bitCount_0f7a4 1 := csp_of wm_J6_bitCount_0f7a4 (gx 1841 (by decide +kernel) (by decide +kernel))
theorem wm_X12_sips : wmp m_X12_sips 4 := ⟨gx 1852 (by decide +kernel) (by decide +kernel), gx 92 (by decide +kernel) (by decide +kernel), gx 138 (by decide +kernel) (by decide +kernel), gx 1853 (by decide +kernel) (by decide +kernel), by decide +kernel, by decide +kernel, by decide +kernel⟩
theorem cw_X12_323 : cwp RX12 323 m_X12_sips 4 := cwp_of wm_X12_sips (gx 1850 (by decide +kernel) (by decide +kernel))
theorem wm_X12_everybody : wmp m_X12_everybody 0 := ⟨gx 1839 (by decide +kernel) (by decide +kernel), gx 89 (by decide +kernel) (by decide +kernel), gx 138 (by decide +kernel) (by decide +kernel), gx 1840 (by decide +kernel) (by decide +kernel), by decide +kernel, by decide +kernel, by decide +kernel⟩
theorem cw_X12_327 : cwp RX12 327 m_X12_everybody 0 := cwp_of wm_X12_everybody (gx 1837 (by decide +kernel) (by decide +kernel))
theorem fk_X12_23 : fk RX12 23 12 4 := ⟨_, _, _, rfl, in_12, by decide, rfl, by decide, gx 1499 (by decide +kernel) (by decide +kernel)⟩
theorem wm_X12_noCup : wmp m_X12_noCup 2 := ⟨gx 1835 (by decide +kernel) (by decide +kernel), gx 88 (by decide +kernel) (by decide +kernel), gx 138 (by decide +kernel) (by decide +kernel), gx 1836 (by decide +kernel) (by decide +kernel), by decide +kernel, by decide +kernel, by decide +kernel⟩
theorem cw_X12_330 : cwp RX12 330 m_X12_noCup 2 := cwp_of wm_X12_noCup (gx 1833 (by decide +kernel) (by decide +kernel))
theorem wm_X12_remembers : wmp m_X12_remembers 0 := ⟨gx 1844 (by decide +kernel) (by decide +kernel), gx 90 (by decide +kernel) (by decide +kernel), gx 138 (by decide +kernel) (by decide +kernel), gx 1845 (by decide +kernel) (by decide +kernel), by decide +kernel, by decide +kernel, by decide +kernel⟩
theorem cw_X12_333 : cwp RX12 333 m_X12_remembers 0 := cwp_of wm_X12_remembers (gx 1842 (by decide +kernel) (by decide +kernel))
theorem wm_X12_shares : wmp m_X12_shares 2 := ⟨gx 1848 (by decide +kernel) (by decide +kernel), gx 91 (by decide +kernel) (by decide +kernel), gx 138 (by decide +kernel) (by decide +kernel), gx 1849 (by decide +kernel) (by decide +kernel), by decide +kernel, by decide +kernel, by decide +kernel⟩
theorem cw_X12_336 : cwp RX12 336 m_X12_shares 2 := cwp_of wm_X12_shares (gx 1846 (by decide +kernel) (by decide +kernel))
theorem wm_X12_keepsAll : wmp m_X12_keepsAll 0 := ⟨gx 1868 (by decide +kernel) (by decide +kernel), gx 95 (by decide +kernel) (by decide +kernel), gx 138 (by decide +kernel) (by decide +kernel), gx 1869 (by decide +kernel) (by decide +kernel), by decide +kernel, by decide +kernel, by decide +kernel⟩
theorem cw_X12_339 : cwp RX12 339 m_X12_keepsAll 0 := cwp_of wm_X12_keepsAll (gx 1866 (by decide +kernel) (by decide +kernel))
theorem wm_X12_bringsBack : wmp m_X12_bringsBack 0 := ⟨gx 1872 (by decide +kernel) (by decide +kernel), gx 96 (by decide +kernel) (by decide +kernel), gx 138 (by decide +kernel) (by decide +kernel), gx 1873 (by decide +kernel) (by decide +kernel), by decide +kernel, by decide +kernel, by decide +kernel⟩
theorem cw_X12_342 : cwp RX12 342 m_X12_bringsBack 0 := cwp_of wm_X12_bringsBack (gx 1870 (by decide +kernel) (by decide +kernel))
theorem wm_X12_bondsThatHold : wmp m_X12_bondsThatHold 0 := ⟨gx 1880 (by decide +kernel) (by decide +kernel), gx 97 (by decide +kernel) (by decide +kernel), gx 138 (by decide +kernel) (by decide +kernel), gx 1881 (by decide +kernel) (by decide +kernel), by decide +kernel, by decide +kernel, by decide +kernel⟩
theorem cw_X12_345 : cwp RX12 345 m_X12_bondsThatHold 0 := cwp_of wm_X12_bondsThatHold (gx 1878 (by decide +kernel) (by decide +kernel))
theorem wm_X12_boundTo : wmp m_X12_boundTo 1 := ⟨gx 1888 (by decide +kernel) (by decide +kernel), gx 98 (by decide +kernel) (by decide +kernel), gx 138 (by decide +kernel) (by decide +kernel), gx 1889 (by decide +kernel) (by decide +kernel), by decide +kernel, by decide +kernel, by decide +kernel⟩
theorem cw_X12_348 : cwp RX12 348 m_X12_boundTo 1 := cwp_of wm_X12_boundTo (gx 1886 (by decide +kernel) (by decide +kernel))
theorem wm_X12_widened : wmp m_X12_widened 1 := ⟨gx 1896 (by decide +kernel) (by decide +kernel), gx 100 (by decide +kernel) (by decide +kernel), gx 138 (by decide +kernel) (by decide +kernel), gx 1897 (by decide +kernel) (by decide +kernel), by decide +kernel, by decide +kernel, by decide +kernel⟩
theorem cw_X12_351 : cwp RX12 351 m_X12_widened 1 := cwp_of wm_X12_widened (gx 1894 (by decide +kernel) (by decide +kernel))
theorem wm_X12_mostOf : wmp m_X12_mostOf 1 := ⟨gx 1912 (by decide +kernel) (by decide +kernel), gx 104 (by decide +kernel) (by decide +kernel), gx 138 (by decide +kernel) (by decide +kernel), gx 1913 (by decide +kernel) (by decide +kernel), by decide +kernel, by decide +kernel, by decide +kernel⟩
theorem cw_X12_354 : cwp RX12 354 m_X12_mostOf 1 := cwp_of wm_X12_mostOf (gx 1910 (by decide +kernel) (by decide +kernel))
theorem wm_X12_likesMost : wmp m_X12_likesMost 1 := ⟨gx 1908 (by decide +kernel) (by decide +kernel), gx 103 (by decide +kernel) (by decide +kernel), gx 138 (by decide +kernel) (by decide +kernel), gx 1909 (by decide +kernel) (by decide +kernel), by decide +kernel, by decide +kernel, by decide +kernel⟩
theorem cw_X12_357 : cwp RX12 357 m_X12_likesMost 1 := cwp_of wm_X12_likesMost (gx 1906 (by decide +kernel) (by decide +kernel))
theorem wm_X12_isGladder : wmp m_X12_isGladder 2 := ⟨gx 1904 (by decide +kernel) (by decide +kernel), gx 102 (by decide +kernel) (by decide +kernel), gx 138 (by decide +kernel) (by decide +kernel), gx 1905 (by decide +kernel) (by decide +kernel), by decide +kernel, by decide +kernel, by decide +kernel⟩
theorem cw_X12_360 : cwp RX12 360 m_X12_isGladder 2 := cwp_of wm_X12_isGladder (gx 1902 (by decide +kernel) (by decide +kernel))
theorem wm_X12_circleOf : wmp m_X12_circleOf 1 := ⟨gx 1892 (by decide +kernel) (by decide +kernel), gx 99 (by decide +kernel) (by decide +kernel), gx 138 (by decide +kernel) (by decide +kernel), gx 1893 (by decide +kernel) (by decide +kernel), by decide +kernel, by decide +kernel, by decide +kernel⟩
theorem cw_X12_363 : cwp RX12 363 m_X12_circleOf 1 := cwp_of wm_X12_circleOf (gx 1890 (by decide +kernel) (by decide +kernel))
theorem wm_X12_gladderBy : wmp m_X12_gladderBy 1 := ⟨gx 1900 (by decide +kernel) (by decide +kernel), gx 101 (by decide +kernel) (by decide +kernel), gx 138 (by decide +kernel) (by decide +kernel), gx 1901 (by decide +kernel) (by decide +kernel), by decide +kernel, by decide +kernel, by decide +kernel⟩
theorem cw_X12_366 : cwp RX12 366 m_X12_gladderBy 1 := cwp_of wm_X12_gladderBy (gx 1898 (by decide +kernel) (by decide +kernel))
theorem wm_J6_numberOfTrailingZeros_0f7a4 : wms m_J6_numberOfTrailingZeros_0f7a4 1 := ⟨gx 1927 (by decide +kernel) (by decide +kernel), gx 152 (by decide +kernel) (by decide +kernel), gx 1928 (by decide +kernel) (by decide +kernel), by decide +kernel, by decide +kernel, by decide +kernel⟩
theorem cs_X12_369 : csp RX12 369 m_J6_numberOfTrailingZeros_0f7a4 1 := csp_of wm_J6_numberOfTrailingZeros_0f7a4 (gx 1926 (by decide +kernel) (by decide +kernel))
def J_X12_shares_71 (n : Nat) (v1 : Int32) (v2 : Int32) (v4 : Int32) (v3 : Int32) (v5 : Int32) (σ : MS) : Option ((Int32 × Int32 × MS) ⊕ ((Int32 × Int32 × MS) ⊕ (Int32 × MS))) := some (.inl (v3, (v5 + (1 : Int32)), σ))
def J_X12_shares_69 (n : Nat) (v1 : Int32) (v2 : Int32) (v4 : Int32) (v5 : Int32) (t0 : Int32) (t1 : Int32) (σ : MS) : Option ((Int32 × Int32 × MS) ⊕ ((Int32 × Int32 × MS) ⊕ (Int32 × MS))) := J_X12_shares_71 n v1 v2 v4 (t1 + t0) v5 σ
def L_X12_shares_20 (n : Nat) (v1 : Int32) (v2 : Int32) (v4 : Int32) (σ : MS) (a20 : Int32 × Int32 × MS) : Option ((Int32 × Int32 × MS) ⊕ ((Int32 × Int32 × MS) ⊕ (Int32 × MS))) := ((f_X12_people  a20.2.2).bind (fun q23 => (if q23 ≤ a20.2.1 then (some (.inl (a20.1, (v4 + (1 : Int32)), a20.2.2))).map Sum.inr else ((f_X12_has v1 v4 a20.2.2).bind (fun q32 => (if q32 = 0 then J_X12_shares_71 n v1 v2 v4 a20.1 a20.2.1 a20.2.2 else ((f_X12_has v1 a20.2.1 a20.2.2).bind (fun q41 => (if q41 = 0 then J_X12_shares_71 n v1 v2 v4 a20.1 a20.2.1 a20.2.2 else ((f_J6_bitCount_0f7a4 v1 a20.2.2).bind (fun q55 => ((f_X12_sips n v4 a20.2.1 v2 q55 a20.2.2).bind (fun q58 => (if q58.1 = 0 then J_X12_shares_69 n v1 v2 v4 a20.2.1 (0 : Int32) a20.1 q58.2 else J_X12_shares_69 n v1 v2 v4 a20.2.1 (1 : Int32) a20.1 q58.2))))))))))))))
def L_X12_shares_5 (n : Nat) (v1 : Int32) (v2 : Int32) (σ : MS) (a5 : Int32 × Int32 × MS) : Option ((Int32 × Int32 × MS) ⊕ (Int32 × MS)) := ((f_X12_people  a5.2.2).bind (fun q8 => (if q8 ≤ a5.2.1 then (some (a5.1, a5.2.2)).map Sum.inr else itr (L_X12_shares_20 n v1 v2 a5.2.1 σ) n (a5.1, (a5.2.1 + (1 : Int32)), a5.2.2))))
def f_X12_shares (n : Nat) (p1 : Int32) (p2 : Int32) (σ : MS) : Option (Int32 × MS) := itr (L_X12_shares_5 n p1 p2 σ) n ((0 : Int32), (0 : Int32), σ)
set_option maxRecDepth 20000 in
set_option maxHeartbeats 2000000 in
theorem c_X12_shares (w : TG) (n : Nat) (p1 : Int32) (p2 : Int32) (σ : MS) : MC m_X12_shares w [.ref (wB w + 171), .int p1, .int p2] σ (f_X12_shares n p1 p2 σ) := by
  refine V_meth (by decide +kernel) (Nat.le_of_ble_eq_true rfl) (by intro v hv; simp only [List.mem_cons, List.not_mem_nil, or_false] at hv; rcases hv with rfl | rfl | rfl <;> rfl) (fun g x => ?_)
  show VV m_X12_shares w g 0 0 (QM m_X12_shares w g x) (fun b : Int32 × MS => b = x) 0 [some (.ref (wB w + 171)), some (.int p1), some (.int p2), none, none, none] [] σ (f_X12_shares n p1 p2 σ)
  have hL5 : ∀  (n0 : Nat) (a : Int32 × Int32 × MS), VV m_X12_shares w g 0 0 (QM m_X12_shares w g x) (fun b : Int32 × MS => b = x) 5 [some (.ref (wB w + 171)), some (.int p1), some (.int p2), some (.int a.1), some (.int a.2.1), none] [] a.2.2 (itr (L_X12_shares_5 n p1 p2 σ) n0 a) := by
    refine V_itr (vf := fun a : Int32 × Int32 × MS => [some (.ref (wB w + 171)), some (.int p1), some (.int p2), some (.int a.1), some (.int a.2.1), none]) (sf := fun a : Int32 × Int32 × MS => a.2.2) (fun κ5 b5 r5 a5 => ?_)
    obtain ⟨a5_1, a5_2, a5_3⟩ := a5
    show VV m_X12_shares w g 0 0 (QM m_X12_shares w g x) κ5 5 [some (.ref (wB w + 171)), some (.int p1), some (.int p2), some (.int a5_1), some (.int a5_2), none] [] a5_3 (L_X12_shares_5 n p1 p2 σ (a5_1, a5_2, a5_3))
    have hL20 : ∀ (v4 : Int32) (n0 : Nat) (a : Int32 × Int32 × MS), VV m_X12_shares w g 0 0 (QM m_X12_shares w g x) κ5 20 [some (.ref (wB w + 171)), some (.int p1), some (.int p2), some (.int a.1), some (.int v4), some (.int a.2.1)] [] a.2.2 (itr (L_X12_shares_20 n p1 p2 v4 σ) n0 a) := by
      intro v4
      refine V_itr (vf := fun a : Int32 × Int32 × MS => [some (.ref (wB w + 171)), some (.int p1), some (.int p2), some (.int a.1), some (.int v4), some (.int a.2.1)]) (sf := fun a : Int32 × Int32 × MS => a.2.2) (fun κ20 b20 r20 a20 => ?_)
      obtain ⟨a20_1, a20_2, a20_3⟩ := a20
      show VV m_X12_shares w g 0 0 (QM m_X12_shares w g x) κ20 20 [some (.ref (wB w + 171)), some (.int p1), some (.int p2), some (.int a20_1), some (.int v4), some (.int a20_2)] [] a20_3 (L_X12_shares_20 n p1 p2 v4 σ (a20_1, a20_2, a20_3))
      have hJ71 : ∀ (v3 : Int32) (v5 : Int32) (σ : MS), VV m_X12_shares w g 0 0 (QM m_X12_shares w g x) κ20 71 [some (.ref (wB w + 171)), some (.int p1), some (.int p2), some (.int v3), some (.int v4), some (.int v5)] [] σ (J_X12_shares_71 n p1 p2 v4 v3 v5 σ) := by
        intro v3 v5 σ
        refine V_iincC (pc := 71) (vs' := [some (.ref (wB w + 171)), some (.int p1), some (.int p2), some (.int v3), some (.int v4), some (.int (v5 + (1 : Int32)))]) dX12_shares_71 (Nat.le_of_ble_eq_true rfl) rfl ic_1 rfl ?_
        refine V_goto (pc := 74) (tgt := 20) dX12_shares_74 (by decide +kernel) ?_
        exact V_back (b20 (v3, (v5 + (1 : Int32)), σ))
      have hJ69 : ∀ (v5 : Int32) (t0 : Int32) (t1 : Int32) (σ : MS), VV m_X12_shares w g 0 0 (QM m_X12_shares w g x) κ20 69 [some (.ref (wB w + 171)), some (.int p1), some (.int p2), none, some (.int v4), some (.int v5)] [.int t0, .int t1] σ (J_X12_shares_69 n p1 p2 v4 v5 t0 t1 σ) := by
        intro v5 t0 t1 σ
        refine V_iadd (pc := 69) dX12_shares_69 ?_
        refine V_istore_n (pc := 70) (vs' := [some (.ref (wB w + 171)), some (.int p1), some (.int p2), some (.int (t1 + t0)), some (.int v4), some (.int v5)]) dX12_shares_70 rfl (Nat.le_of_ble_eq_true rfl) (Nat.le_of_ble_eq_true rfl) rfl ?_
        exact hJ71 (t1 + t0) v5 σ
      refine V_iload (pc := 20) dX12_shares_20 rfl ?_
      refine V_aload_n (pc := 22) dX12_shares_22 rfl rfl ?_
      refine V_callVpi (pc := 23) (As := []) (rest := [.int a20_2]) (c_X12_people w  a20_3) cw_X12_58 rfl rfl dX12_shares_23 kc_171 ci_12 ⟨Nat.le_of_ble_eq_true rfl, Nat.le_of_ble_eq_true rfl⟩ rfl rfl (Nat.le_of_ble_eq_true rfl) (Nat.le_of_ble_eq_true rfl) (Nat.le_of_ble_eq_true rfl) rfl (fun q23 => ?_)
      refine V_icmp_ge (pc := 26) (tgt := 77) dX12_shares_26 (by decide +kernel) ?_ ?_
      · refine V_exit r20 ?_
        refine V_iincC (pc := 77) (vs' := [some (.ref (wB w + 171)), some (.int p1), some (.int p2), some (.int a20_1), some (.int (v4 + (1 : Int32))), some (.int a20_2)]) dX12_shares_77 (Nat.le_of_ble_eq_true rfl) rfl ic_1 rfl ?_
        refine V_goto (pc := 80) (tgt := 5) dX12_shares_80 (by decide +kernel) ?_
        refine V_sub (vs' := [some (.ref (wB w + 171)), some (.int p1), some (.int p2), some (.int a20_1), some (.int (v4 + (1 : Int32))), none]) (show vless _ _ from ⟨rfl, ⟨rfl, ⟨rfl, ⟨rfl, ⟨rfl, trivial⟩⟩⟩⟩⟩) rfl ?_
        exact V_back (b5 (a20_1, (v4 + (1 : Int32)), a20_3))
      · refine V_iload_n (pc := 29) dX12_shares_29 rfl rfl ?_
        refine V_iload (pc := 30) dX12_shares_30 rfl ?_
        refine V_callSpi (pc := 32) (As := [.int p1, .int v4]) (rest := []) (c_X12_has w p1 v4 a20_3) cs_X12_76 rfl rfl dX12_shares_32 ⟨Nat.le_of_ble_eq_true rfl, Nat.le_of_ble_eq_true rfl⟩ rfl rfl (Nat.le_of_ble_eq_true rfl) (Nat.le_of_ble_eq_true rfl) (Nat.le_of_ble_eq_true rfl) rfl (fun q32 => ?_)
        refine V_if_eq (pc := 35) (tgt := 71) dX12_shares_35 (by decide +kernel) ?_ ?_
        · exact hJ71 a20_1 a20_2 a20_3
        · refine V_iload_n (pc := 38) dX12_shares_38 rfl rfl ?_
          refine V_iload (pc := 39) dX12_shares_39 rfl ?_
          refine V_callSpi (pc := 41) (As := [.int p1, .int a20_2]) (rest := []) (c_X12_has w p1 a20_2 a20_3) cs_X12_76 rfl rfl dX12_shares_41 ⟨Nat.le_of_ble_eq_true rfl, Nat.le_of_ble_eq_true rfl⟩ rfl rfl (Nat.le_of_ble_eq_true rfl) (Nat.le_of_ble_eq_true rfl) (Nat.le_of_ble_eq_true rfl) rfl (fun q41 => ?_)
          refine V_if_eq (pc := 44) (tgt := 71) dX12_shares_44 (by decide +kernel) ?_ ?_
          · exact hJ71 a20_1 a20_2 a20_3
          · refine V_iload_n (pc := 47) dX12_shares_47 rfl rfl ?_
            refine V_aload_n (pc := 48) dX12_shares_48 rfl rfl ?_
            refine V_iload (pc := 49) dX12_shares_49 rfl ?_
            refine V_iload (pc := 51) dX12_shares_51 rfl ?_
            refine V_iload_n (pc := 53) dX12_shares_53 rfl rfl ?_
            refine V_iload_n (pc := 54) dX12_shares_54 rfl rfl ?_
            refine V_callSpi (pc := 55) (As := [.int p1]) (rest := [.int p2, .int a20_2, .int v4, .ref (wB w + 171), .int a20_1]) (c_J6_bitCount_0f7a4 w p1 a20_3) cs_X12_318 rfl rfl dX12_shares_55 ⟨Nat.le_of_ble_eq_true rfl, Nat.le_of_ble_eq_true rfl⟩ rfl rfl (Nat.le_of_ble_eq_true rfl) (Nat.le_of_ble_eq_true rfl) (Nat.le_of_ble_eq_true rfl) rfl (fun q55 => ?_)
            refine V_callVi (pc := 58) (As := [.int v4, .int a20_2, .int p2, .int q55]) (rest := [.int a20_1]) (c_X12_sips w n v4 a20_2 p2 q55 a20_3) cw_X12_323 rfl rfl dX12_shares_58 kc_171 ci_12 ⟨Nat.le_of_ble_eq_true rfl, Nat.le_of_ble_eq_true rfl⟩ rfl rfl (Nat.le_of_ble_eq_true rfl) (Nat.le_of_ble_eq_true rfl) (Nat.le_of_ble_eq_true rfl) rfl (fun q58 => ?_)
            refine V_if_eq (pc := 61) (tgt := 68) dX12_shares_61 (by decide +kernel) ?_ ?_
            · refine V_iconst (pc := 68) dX12_shares_68 ic_0 ?_
              refine V_sub (vs' := [some (.ref (wB w + 171)), some (.int p1), some (.int p2), none, some (.int v4), some (.int a20_2)]) (show vless _ _ from ⟨rfl, ⟨rfl, ⟨rfl, ⟨rfl, ⟨rfl, trivial⟩⟩⟩⟩⟩) rfl ?_
              exact hJ69 a20_2 (0 : Int32) a20_1 q58.2
            · refine V_iconst (pc := 64) dX12_shares_64 ic_1 ?_
              refine V_goto (pc := 65) (tgt := 69) dX12_shares_65 (by decide +kernel) ?_
              refine V_sub (vs' := [some (.ref (wB w + 171)), some (.int p1), some (.int p2), none, some (.int v4), some (.int a20_2)]) (show vless _ _ from ⟨rfl, ⟨rfl, ⟨rfl, ⟨rfl, ⟨rfl, trivial⟩⟩⟩⟩⟩) rfl ?_
              exact hJ69 a20_2 (1 : Int32) a20_1 q58.2
    refine V_iload (pc := 5) dX12_shares_5 rfl ?_
    refine V_aload_n (pc := 7) dX12_shares_7 rfl rfl ?_
    refine V_callVpi (pc := 8) (As := []) (rest := [.int a5_2]) (c_X12_people w  a5_3) cw_X12_58 rfl rfl dX12_shares_8 kc_171 ci_12 ⟨Nat.le_of_ble_eq_true rfl, Nat.le_of_ble_eq_true rfl⟩ rfl rfl (Nat.le_of_ble_eq_true rfl) (Nat.le_of_ble_eq_true rfl) (Nat.le_of_ble_eq_true rfl) rfl (fun q8 => ?_)
    refine V_icmp_ge (pc := 11) (tgt := 83) dX12_shares_11 (by decide +kernel) ?_ ?_
    · refine V_exit r5 ?_
      refine V_iload_n (pc := 83) dX12_shares_83 rfl rfl ?_
      exact V_ireti (pc := 84) dX12_shares_84 rfl (hk := fun h => h)
    · refine V_iload (pc := 14) dX12_shares_14 rfl ?_
      refine V_iconst (pc := 16) dX12_shares_16 ic_1 ?_
      refine V_iadd (pc := 17) dX12_shares_17 ?_
      refine V_istore (pc := 18) (vs' := [some (.ref (wB w + 171)), some (.int p1), some (.int p2), some (.int a5_1), some (.int a5_2), some (.int (a5_2 + (1 : Int32)))]) dX12_shares_18 (Nat.le_of_ble_eq_true rfl) (Nat.le_of_ble_eq_true rfl) rfl ?_
      exact hL20 a5_2 n (a5_1, (a5_2 + (1 : Int32)), a5_3)
  refine V_iconst (pc := 0) dX12_shares_0 ic_0 ?_
  refine V_istore_n (pc := 1) (vs' := [some (.ref (wB w + 171)), some (.int p1), some (.int p2), some (.int (0 : Int32)), none, none]) dX12_shares_1 rfl (Nat.le_of_ble_eq_true rfl) (Nat.le_of_ble_eq_true rfl) rfl ?_
  refine V_iconst (pc := 2) dX12_shares_2 ic_0 ?_
  refine V_istore (pc := 3) (vs' := [some (.ref (wB w + 171)), some (.int p1), some (.int p2), some (.int (0 : Int32)), some (.int (0 : Int32)), none]) dX12_shares_3 (Nat.le_of_ble_eq_true rfl) (Nat.le_of_ble_eq_true rfl) rfl ?_
  exact hL5 n ((0 : Int32), (0 : Int32), σ)
def J_X12_noCup_27 (t0 : Int32) (σ : MS) : Option (Int32) := (if t0 = 0 ∨ t0 = 1 then some t0 else none)
def J_X12_noCup_22  (σ : MS) : Option (Int32) := J_X12_noCup_27 (1 : Int32) σ
def f_X12_noCup (p1 : Int32) (p2 : Int32) (σ : MS) : Option (Int32) := ((f_X12_everybody  σ).bind (fun q2 => ((f_J6_bitCount_0f7a4 (p1 &&& q2) σ).bind (fun q6 => (if q6 < (2 : Int32) then J_X12_noCup_22  σ else ((f_X12_in p2 (0 : Int32) (3 : Int32) σ).bind (fun q16 => (if q16 = 0 then J_X12_noCup_22  σ else J_X12_noCup_27 (0 : Int32) σ))))))))
set_option maxRecDepth 20000 in
set_option maxHeartbeats 2000000 in
theorem c_X12_noCup (w : TG) (p1 : Int32) (p2 : Int32) (σ : MS) : MC m_X12_noCup w [.ref (wB w + 171), .int p1, .int p2] σ ((f_X12_noCup p1 p2 σ).map (fun r => (r, σ))) := by
  refine V_methp (by decide +kernel) (Nat.le_of_ble_eq_true rfl) (by intro v hv; simp only [List.mem_cons, List.not_mem_nil, or_false] at hv; rcases hv with rfl | rfl | rfl <;> rfl) (fun g x => ?_)
  show VV m_X12_noCup w g 0 0 (QM m_X12_noCup w g x) (fun b : Int32 => (b, σ) = x) 0 [some (.ref (wB w + 171)), some (.int p1), some (.int p2)] [] σ (f_X12_noCup p1 p2 σ)
  have hJ27 : ∀ (t0 : Int32), VV m_X12_noCup w g 0 0 (QM m_X12_noCup w g x) (fun b : Int32 => (b, σ) = x) 27 [none, none, none] [.int t0] σ (J_X12_noCup_27 t0 σ) := by
    intro t0
    exact V_iretZ (pc := 27) dX12_noCup_27 rfl (hk := fun h => h)
  have hJ22 : ∀ (_ : Unit), VV m_X12_noCup w g 0 0 (QM m_X12_noCup w g x) (fun b : Int32 => (b, σ) = x) 22 [none, none, none] [] σ (J_X12_noCup_22  σ) := by
    intro _
    refine V_iconst (pc := 22) dX12_noCup_22 ic_1 ?_
    refine V_goto (pc := 23) (tgt := 27) dX12_noCup_23 (by decide +kernel) ?_
    exact hJ27 (1 : Int32)
  refine V_iload_n (pc := 0) dX12_noCup_0 rfl rfl ?_
  refine V_aload_n (pc := 1) dX12_noCup_1 rfl rfl ?_
  refine V_callVpi (pc := 2) (As := []) (rest := [.int p1]) (c_X12_everybody w  σ) cw_X12_327 rfl rfl dX12_noCup_2 kc_171 ci_12 ⟨Nat.le_of_ble_eq_true rfl, Nat.le_of_ble_eq_true rfl⟩ rfl rfl (Nat.le_of_ble_eq_true rfl) (Nat.le_of_ble_eq_true rfl) (Nat.le_of_ble_eq_true rfl) rfl (fun q2 => ?_)
  refine V_iand (pc := 5) dX12_noCup_5 ?_
  refine V_callSpi (pc := 6) (As := [.int (p1 &&& q2)]) (rest := []) (c_J6_bitCount_0f7a4 w (p1 &&& q2) σ) cs_X12_318 rfl rfl dX12_noCup_6 ⟨Nat.le_of_ble_eq_true rfl, Nat.le_of_ble_eq_true rfl⟩ rfl rfl (Nat.le_of_ble_eq_true rfl) (Nat.le_of_ble_eq_true rfl) (Nat.le_of_ble_eq_true rfl) rfl (fun q6 => ?_)
  refine V_iconst (pc := 9) dX12_noCup_9 ic_2 ?_
  refine V_icmp_lt (pc := 10) (tgt := 22) dX12_noCup_10 (by decide +kernel) ?_ ?_
  · refine V_sub (vs' := [none, none, none]) (show vless _ _ from trivial) rfl ?_
    exact hJ22 ()
  · refine V_iload_n (pc := 13) dX12_noCup_13 rfl rfl ?_
    refine V_iconst (pc := 14) dX12_noCup_14 ic_0 ?_
    refine V_iconst (pc := 15) dX12_noCup_15 ic_3 ?_
    refine V_callSpi (pc := 16) (As := [.int p2, .int (0 : Int32), .int (3 : Int32)]) (rest := []) (c_X12_in w p2 (0 : Int32) (3 : Int32) σ) cs_X12_79 rfl rfl dX12_noCup_16 ⟨Nat.le_of_ble_eq_true rfl, Nat.le_of_ble_eq_true rfl⟩ rfl rfl (Nat.le_of_ble_eq_true rfl) (Nat.le_of_ble_eq_true rfl) (Nat.le_of_ble_eq_true rfl) rfl (fun q16 => ?_)
    refine V_if_ne (pc := 19) (tgt := 26) dX12_noCup_19 (by decide +kernel) ?_ ?_
    · refine V_iconst (pc := 26) dX12_noCup_26 ic_0 ?_
      refine V_sub (vs' := [none, none, none]) (show vless _ _ from trivial) rfl ?_
      exact hJ27 (0 : Int32)
    · refine V_sub (vs' := [none, none, none]) (show vless _ _ from trivial) rfl ?_
      exact hJ22 ()
def L_X12_keepsAll_2 (n : Nat)  (σ : MS) (a2 : Int32 × MS) : Option ((Int32 × MS) ⊕ (Int32 × MS)) := (if (474 : Int32) ≤ a2.1 then (some (0, a2.2)).map Sum.inr else (if inb a2.1 2172 then (if inb a2.1 474 then ltM (mu a2.2 175 (ix a2.1) (a2.2 172 (ix a2.1))) (fun s20 => some (.inl ((a2.1 + (1 : Int32)), s20))) else none) else none))
def f_X12_keepsAll (n : Nat)  (σ : MS) : Option (Int32 × MS) := itr (L_X12_keepsAll_2 n  σ) n ((0 : Int32), σ)
set_option maxRecDepth 20000 in
set_option maxHeartbeats 2000000 in
theorem c_X12_keepsAll (w : TG) (n : Nat)  (σ : MS) : MC m_X12_keepsAll w [.ref (wB w + 171)] σ (f_X12_keepsAll n  σ) := by
  refine V_meth (by decide +kernel) (Nat.le_of_ble_eq_true rfl) (by intro v hv; simp only [List.mem_cons, List.not_mem_nil, or_false] at hv; subst hv; rfl) (fun g x => ?_)
  show VV m_X12_keepsAll w g 0 0 (QM m_X12_keepsAll w g x) (fun b : Int32 × MS => b = x) 0 [some (.ref (wB w + 171)), none] [] σ (f_X12_keepsAll n  σ)
  have hL2 : ∀  (n0 : Nat) (a : Int32 × MS), VV m_X12_keepsAll w g 0 0 (QM m_X12_keepsAll w g x) (fun b : Int32 × MS => b = x) 2 [some (.ref (wB w + 171)), some (.int a.1)] [] a.2 (itr (L_X12_keepsAll_2 n  σ) n0 a) := by
    refine V_itr (vf := fun a : Int32 × MS => [some (.ref (wB w + 171)), some (.int a.1)]) (sf := fun a : Int32 × MS => a.2) (fun κ2 b2 r2 a2 => ?_)
    obtain ⟨a2_1, a2_2⟩ := a2
    show VV m_X12_keepsAll w g 0 0 (QM m_X12_keepsAll w g x) κ2 2 [some (.ref (wB w + 171)), some (.int a2_1)] [] a2_2 (L_X12_keepsAll_2 n  σ (a2_1, a2_2))
    refine V_iload_n (pc := 2) dX12_keepsAll_2 rfl rfl ?_
    refine V_sipush (pc := 3) dX12_keepsAll_3 sp_474 ?_
    refine V_icmp_ge (pc := 6) (tgt := 27) dX12_keepsAll_6 (by decide +kernel) ?_ ?_
    · refine V_exit r2 ?_
      exact V_ret (pc := 27) dX12_keepsAll_27 rfl (hk := fun h => h)
    · refine V_aload_n (pc := 9) dX12_keepsAll_9 rfl rfl ?_
      refine V_getr (pc := 10) (t := 175) fk_X12_23 rfl dX12_keepsAll_10 kc_171 rf_12_4_171 ?_
      refine V_iload_n (pc := 13) dX12_keepsAll_13 rfl rfl ?_
      refine V_aload_n (pc := 14) dX12_keepsAll_14 rfl rfl ?_
      refine V_getr (pc := 15) (t := 172) fk_X12_13 rfl dX12_keepsAll_15 kc_171 rf_12_1_171 ?_
      refine V_iload_n (pc := 18) dX12_keepsAll_18 rfl rfl ?_
      refine V_iald (pc := 19) (n := 2172) dX12_keepsAll_19 kc_172 lc_172 ?_
      refine V_iast (pc := 20) (n := 474) dX12_keepsAll_20 kc_175 lc_175 (fun s20 => ?_)
      refine V_iincC (pc := 21) (vs' := [some (.ref (wB w + 171)), some (.int (a2_1 + (1 : Int32)))]) dX12_keepsAll_21 (Nat.le_of_ble_eq_true rfl) rfl ic_1 rfl ?_
      refine V_goto (pc := 24) (tgt := 2) dX12_keepsAll_24 (by decide +kernel) ?_
      exact V_back (b2 ((a2_1 + (1 : Int32)), s20))
  refine V_iconst (pc := 0) dX12_keepsAll_0 ic_0 ?_
  refine V_istore_n (pc := 1) (vs' := [some (.ref (wB w + 171)), some (.int (0 : Int32))]) dX12_keepsAll_1 rfl (Nat.le_of_ble_eq_true rfl) (Nat.le_of_ble_eq_true rfl) rfl ?_
  exact hL2 n ((0 : Int32), σ)
def L_X12_bringsBack_2 (n : Nat)  (σ : MS) (a2 : Int32 × MS) : Option ((Int32 × MS) ⊕ (Int32 × MS)) := (if (474 : Int32) ≤ a2.1 then (some (0, a2.2)).map Sum.inr else (if inb a2.1 474 then (if inb a2.1 2172 then ltM (mu a2.2 172 (ix a2.1) (a2.2 175 (ix a2.1))) (fun s20 => some (.inl ((a2.1 + (1 : Int32)), s20))) else none) else none))
def f_X12_bringsBack (n : Nat)  (σ : MS) : Option (Int32 × MS) := itr (L_X12_bringsBack_2 n  σ) n ((0 : Int32), σ)
set_option maxRecDepth 20000 in
set_option maxHeartbeats 2000000 in
theorem c_X12_bringsBack (w : TG) (n : Nat)  (σ : MS) : MC m_X12_bringsBack w [.ref (wB w + 171)] σ (f_X12_bringsBack n  σ) := by
  refine V_meth (by decide +kernel) (Nat.le_of_ble_eq_true rfl) (by intro v hv; simp only [List.mem_cons, List.not_mem_nil, or_false] at hv; subst hv; rfl) (fun g x => ?_)
  show VV m_X12_bringsBack w g 0 0 (QM m_X12_bringsBack w g x) (fun b : Int32 × MS => b = x) 0 [some (.ref (wB w + 171)), none] [] σ (f_X12_bringsBack n  σ)
  have hL2 : ∀  (n0 : Nat) (a : Int32 × MS), VV m_X12_bringsBack w g 0 0 (QM m_X12_bringsBack w g x) (fun b : Int32 × MS => b = x) 2 [some (.ref (wB w + 171)), some (.int a.1)] [] a.2 (itr (L_X12_bringsBack_2 n  σ) n0 a) := by
    refine V_itr (vf := fun a : Int32 × MS => [some (.ref (wB w + 171)), some (.int a.1)]) (sf := fun a : Int32 × MS => a.2) (fun κ2 b2 r2 a2 => ?_)
    obtain ⟨a2_1, a2_2⟩ := a2
    show VV m_X12_bringsBack w g 0 0 (QM m_X12_bringsBack w g x) κ2 2 [some (.ref (wB w + 171)), some (.int a2_1)] [] a2_2 (L_X12_bringsBack_2 n  σ (a2_1, a2_2))
    refine V_iload_n (pc := 2) dX12_bringsBack_2 rfl rfl ?_
    refine V_sipush (pc := 3) dX12_bringsBack_3 sp_474 ?_
    refine V_icmp_ge (pc := 6) (tgt := 27) dX12_bringsBack_6 (by decide +kernel) ?_ ?_
    · refine V_exit r2 ?_
      exact V_ret (pc := 27) dX12_bringsBack_27 rfl (hk := fun h => h)
    · refine V_aload_n (pc := 9) dX12_bringsBack_9 rfl rfl ?_
      refine V_getr (pc := 10) (t := 172) fk_X12_13 rfl dX12_bringsBack_10 kc_171 rf_12_1_171 ?_
      refine V_iload_n (pc := 13) dX12_bringsBack_13 rfl rfl ?_
      refine V_aload_n (pc := 14) dX12_bringsBack_14 rfl rfl ?_
      refine V_getr (pc := 15) (t := 175) fk_X12_23 rfl dX12_bringsBack_15 kc_171 rf_12_4_171 ?_
      refine V_iload_n (pc := 18) dX12_bringsBack_18 rfl rfl ?_
      refine V_iald (pc := 19) (n := 474) dX12_bringsBack_19 kc_175 lc_175 ?_
      refine V_iast (pc := 20) (n := 2172) dX12_bringsBack_20 kc_172 lc_172 (fun s20 => ?_)
      refine V_iincC (pc := 21) (vs' := [some (.ref (wB w + 171)), some (.int (a2_1 + (1 : Int32)))]) dX12_bringsBack_21 (Nat.le_of_ble_eq_true rfl) rfl ic_1 rfl ?_
      refine V_goto (pc := 24) (tgt := 2) dX12_bringsBack_24 (by decide +kernel) ?_
      exact V_back (b2 ((a2_1 + (1 : Int32)), s20))
  refine V_iconst (pc := 0) dX12_bringsBack_0 ic_0 ?_
  refine V_istore_n (pc := 1) (vs' := [some (.ref (wB w + 171)), some (.int (0 : Int32))]) dX12_bringsBack_1 rfl (Nat.le_of_ble_eq_true rfl) (Nat.le_of_ble_eq_true rfl) rfl ?_
  exact hL2 n ((0 : Int32), σ)
def f_X12_share (n : Nat) (p1 : Int32) (p2 : Int32) (σ : MS) : Option (Int32 × MS) := (ltM (mu σ 171 0 (0 : Int32)) (fun s2 => ((f_X12_noCup p1 p2 s2).bind (fun q9 => ((f_X12_throwsIf q9 (1 : Int32) s2).bind (fun q13 => (if q13.1 = 0 then ((f_X12_remembers n  q13.2).bind (fun q22 => ((f_X12_everybody  q22.2).bind (fun q28 => ((f_X12_shares n (p1 &&& q28) p2 q22.2).bind (fun q33 => some (q33.1, q33.2))))))) else some ((0 : Int32), q13.2))))))))
set_option maxRecDepth 20000 in
set_option maxHeartbeats 2000000 in
theorem c_X12_share (w : TG) (n : Nat) (p1 : Int32) (p2 : Int32) (σ : MS) : MC m_X12_share w [.ref (wB w + 171), .int p1, .int p2] σ (f_X12_share n p1 p2 σ) := by
  refine V_meth (by decide +kernel) (Nat.le_of_ble_eq_true rfl) (by intro v hv; simp only [List.mem_cons, List.not_mem_nil, or_false] at hv; rcases hv with rfl | rfl | rfl <;> rfl) (fun g x => ?_)
  show VV m_X12_share w g 0 0 (QM m_X12_share w g x) (fun b : Int32 × MS => b = x) 0 [some (.ref (wB w + 171)), some (.int p1), some (.int p2)] [] σ (f_X12_share n p1 p2 σ)
  refine V_aload_n (pc := 0) dX12_share_0 rfl rfl ?_
  refine V_iconst (pc := 1) dX12_share_1 ic_0 ?_
  refine V_puti (pc := 2) fp_X12_3 rfl dX12_share_2 kc_171 rf_12_0_171 (fun s2 => ?_)
  refine V_aload_n (pc := 5) dX12_share_5 rfl rfl ?_
  refine V_aload_n (pc := 6) dX12_share_6 rfl rfl ?_
  refine V_iload_n (pc := 7) dX12_share_7 rfl rfl ?_
  refine V_iload_n (pc := 8) dX12_share_8 rfl rfl ?_
  refine V_callVpi (pc := 9) (As := [.int p1, .int p2]) (rest := [.ref (wB w + 171)]) (c_X12_noCup w p1 p2 s2) cw_X12_330 rfl rfl dX12_share_9 kc_171 ci_12 ⟨Nat.le_of_ble_eq_true rfl, Nat.le_of_ble_eq_true rfl⟩ rfl rfl (Nat.le_of_ble_eq_true rfl) (Nat.le_of_ble_eq_true rfl) (Nat.le_of_ble_eq_true rfl) rfl (fun q9 => ?_)
  refine V_iconst (pc := 12) dX12_share_12 ic_1 ?_
  refine V_callVi (pc := 13) (As := [.int q9, .int (1 : Int32)]) (rest := []) (c_X12_throwsIf w q9 (1 : Int32) s2) cw_X12_257 rfl rfl dX12_share_13 kc_171 ci_12 ⟨Nat.le_of_ble_eq_true rfl, Nat.le_of_ble_eq_true rfl⟩ rfl rfl (Nat.le_of_ble_eq_true rfl) (Nat.le_of_ble_eq_true rfl) (Nat.le_of_ble_eq_true rfl) rfl (fun q13 => ?_)
  refine V_if_eq (pc := 16) (tgt := 21) dX12_share_16 (by decide +kernel) ?_ ?_
  · refine V_aload_n (pc := 21) dX12_share_21 rfl rfl ?_
    refine V_callVv (pc := 22) (As := []) (rest := []) (c_X12_remembers w n  q13.2) cw_X12_333 rfl rfl dX12_share_22 kc_171 ci_12 ⟨Nat.le_of_ble_eq_true rfl, Nat.le_of_ble_eq_true rfl⟩ rfl rfl (Nat.le_of_ble_eq_true rfl) (Nat.le_of_ble_eq_true rfl) (Nat.le_of_ble_eq_true rfl) rfl (fun q22 => ?_)
    refine V_aload_n (pc := 25) dX12_share_25 rfl rfl ?_
    refine V_iload_n (pc := 26) dX12_share_26 rfl rfl ?_
    refine V_aload_n (pc := 27) dX12_share_27 rfl rfl ?_
    refine V_callVpi (pc := 28) (As := []) (rest := [.int p1, .ref (wB w + 171)]) (c_X12_everybody w  q22.2) cw_X12_327 rfl rfl dX12_share_28 kc_171 ci_12 ⟨Nat.le_of_ble_eq_true rfl, Nat.le_of_ble_eq_true rfl⟩ rfl rfl (Nat.le_of_ble_eq_true rfl) (Nat.le_of_ble_eq_true rfl) (Nat.le_of_ble_eq_true rfl) rfl (fun q28 => ?_)
    refine V_iand (pc := 31) dX12_share_31 ?_
    refine V_iload_n (pc := 32) dX12_share_32 rfl rfl ?_
    refine V_callVi (pc := 33) (As := [.int (p1 &&& q28), .int p2]) (rest := []) (c_X12_shares w n (p1 &&& q28) p2 q22.2) cw_X12_336 rfl rfl dX12_share_33 kc_171 ci_12 ⟨Nat.le_of_ble_eq_true rfl, Nat.le_of_ble_eq_true rfl⟩ rfl rfl (Nat.le_of_ble_eq_true rfl) (Nat.le_of_ble_eq_true rfl) (Nat.le_of_ble_eq_true rfl) rfl (fun q33 => ?_)
    exact V_ireti (pc := 36) dX12_share_36 rfl (hk := fun h => h)
  · refine V_iconst (pc := 19) dX12_share_19 ic_0 ?_
    exact V_ireti (pc := 20) dX12_share_20 rfl (hk := fun h => h)
def f_X12_would (n : Nat) (p1 : Int32) (p2 : Int32) (σ : MS) : Option (Int32 × MS) := (ltM (mu σ 171 0 (0 : Int32)) (fun s2 => ((f_X12_noCup p1 p2 s2).bind (fun q9 => ((f_X12_throwsIf q9 (1 : Int32) s2).bind (fun q13 => (if q13.1 = 0 then ((f_X12_keepsAll n  q13.2).bind (fun q22 => ((f_X12_everybody  q22.2).bind (fun q28 => ((f_X12_shares n (p1 &&& q28) p2 q22.2).bind (fun q33 => ((f_X12_bringsBack n  q33.2).bind (fun q38 => some (q33.1, q38.2))))))))) else some ((0 : Int32), q13.2))))))))
set_option maxRecDepth 20000 in
set_option maxHeartbeats 2000000 in
theorem c_X12_would (w : TG) (n : Nat) (p1 : Int32) (p2 : Int32) (σ : MS) : MC m_X12_would w [.ref (wB w + 171), .int p1, .int p2] σ (f_X12_would n p1 p2 σ) := by
  refine V_meth (by decide +kernel) (Nat.le_of_ble_eq_true rfl) (by intro v hv; simp only [List.mem_cons, List.not_mem_nil, or_false] at hv; rcases hv with rfl | rfl | rfl <;> rfl) (fun g x => ?_)
  show VV m_X12_would w g 0 0 (QM m_X12_would w g x) (fun b : Int32 × MS => b = x) 0 [some (.ref (wB w + 171)), some (.int p1), some (.int p2), none] [] σ (f_X12_would n p1 p2 σ)
  refine V_aload_n (pc := 0) dX12_would_0 rfl rfl ?_
  refine V_iconst (pc := 1) dX12_would_1 ic_0 ?_
  refine V_puti (pc := 2) fp_X12_3 rfl dX12_would_2 kc_171 rf_12_0_171 (fun s2 => ?_)
  refine V_aload_n (pc := 5) dX12_would_5 rfl rfl ?_
  refine V_aload_n (pc := 6) dX12_would_6 rfl rfl ?_
  refine V_iload_n (pc := 7) dX12_would_7 rfl rfl ?_
  refine V_iload_n (pc := 8) dX12_would_8 rfl rfl ?_
  refine V_callVpi (pc := 9) (As := [.int p1, .int p2]) (rest := [.ref (wB w + 171)]) (c_X12_noCup w p1 p2 s2) cw_X12_330 rfl rfl dX12_would_9 kc_171 ci_12 ⟨Nat.le_of_ble_eq_true rfl, Nat.le_of_ble_eq_true rfl⟩ rfl rfl (Nat.le_of_ble_eq_true rfl) (Nat.le_of_ble_eq_true rfl) (Nat.le_of_ble_eq_true rfl) rfl (fun q9 => ?_)
  refine V_iconst (pc := 12) dX12_would_12 ic_1 ?_
  refine V_callVi (pc := 13) (As := [.int q9, .int (1 : Int32)]) (rest := []) (c_X12_throwsIf w q9 (1 : Int32) s2) cw_X12_257 rfl rfl dX12_would_13 kc_171 ci_12 ⟨Nat.le_of_ble_eq_true rfl, Nat.le_of_ble_eq_true rfl⟩ rfl rfl (Nat.le_of_ble_eq_true rfl) (Nat.le_of_ble_eq_true rfl) (Nat.le_of_ble_eq_true rfl) rfl (fun q13 => ?_)
  refine V_if_eq (pc := 16) (tgt := 21) dX12_would_16 (by decide +kernel) ?_ ?_
  · refine V_aload_n (pc := 21) dX12_would_21 rfl rfl ?_
    refine V_callVv (pc := 22) (As := []) (rest := []) (c_X12_keepsAll w n  q13.2) cw_X12_339 rfl rfl dX12_would_22 kc_171 ci_12 ⟨Nat.le_of_ble_eq_true rfl, Nat.le_of_ble_eq_true rfl⟩ rfl rfl (Nat.le_of_ble_eq_true rfl) (Nat.le_of_ble_eq_true rfl) (Nat.le_of_ble_eq_true rfl) rfl (fun q22 => ?_)
    refine V_aload_n (pc := 25) dX12_would_25 rfl rfl ?_
    refine V_iload_n (pc := 26) dX12_would_26 rfl rfl ?_
    refine V_aload_n (pc := 27) dX12_would_27 rfl rfl ?_
    refine V_callVpi (pc := 28) (As := []) (rest := [.int p1, .ref (wB w + 171)]) (c_X12_everybody w  q22.2) cw_X12_327 rfl rfl dX12_would_28 kc_171 ci_12 ⟨Nat.le_of_ble_eq_true rfl, Nat.le_of_ble_eq_true rfl⟩ rfl rfl (Nat.le_of_ble_eq_true rfl) (Nat.le_of_ble_eq_true rfl) (Nat.le_of_ble_eq_true rfl) rfl (fun q28 => ?_)
    refine V_iand (pc := 31) dX12_would_31 ?_
    refine V_iload_n (pc := 32) dX12_would_32 rfl rfl ?_
    refine V_callVi (pc := 33) (As := [.int (p1 &&& q28), .int p2]) (rest := []) (c_X12_shares w n (p1 &&& q28) p2 q22.2) cw_X12_336 rfl rfl dX12_would_33 kc_171 ci_12 ⟨Nat.le_of_ble_eq_true rfl, Nat.le_of_ble_eq_true rfl⟩ rfl rfl (Nat.le_of_ble_eq_true rfl) (Nat.le_of_ble_eq_true rfl) (Nat.le_of_ble_eq_true rfl) rfl (fun q33 => ?_)
    refine V_istore_n (pc := 36) (vs' := [some (.ref (wB w + 171)), some (.int p1), some (.int p2), some (.int q33.1)]) dX12_would_36 rfl (Nat.le_of_ble_eq_true rfl) (Nat.le_of_ble_eq_true rfl) rfl ?_
    refine V_aload_n (pc := 37) dX12_would_37 rfl rfl ?_
    refine V_callVv (pc := 38) (As := []) (rest := []) (c_X12_bringsBack w n  q33.2) cw_X12_342 rfl rfl dX12_would_38 kc_171 ci_12 ⟨Nat.le_of_ble_eq_true rfl, Nat.le_of_ble_eq_true rfl⟩ rfl rfl (Nat.le_of_ble_eq_true rfl) (Nat.le_of_ble_eq_true rfl) (Nat.le_of_ble_eq_true rfl) rfl (fun q38 => ?_)
    refine V_iload_n (pc := 41) dX12_would_41 rfl rfl ?_
    exact V_ireti (pc := 42) dX12_would_42 rfl (hk := fun h => h)
  · refine V_iconst (pc := 19) dX12_would_19 ic_0 ?_
    exact V_ireti (pc := 20) dX12_would_20 rfl (hk := fun h => h)
def J_X12_bondsThatHold_34 (n : Nat) (v2 : Int32) (v3 : Int32) (t0 : Int32) (t1 : Int32) (σ : MS) : Option ((Int32 × Int32) ⊕ ((Int32 × Int32) ⊕ (Int32))) := some (.inl ((t1 + t0), (v3 + (1 : Int32))))
def L_X12_bondsThatHold_14 (n : Nat) (v2 : Int32) (σ : MS) (a14 : Int32 × Int32) : Option ((Int32 × Int32) ⊕ ((Int32 × Int32) ⊕ (Int32))) := (if v2 ≤ a14.2 then (some (.inl (a14.1, (v2 + (1 : Int32))))).map Sum.inr else ((f_X12_holds v2 a14.2 σ).bind (fun q23 => (if q23 = 0 then J_X12_bondsThatHold_34 n v2 a14.2 (0 : Int32) a14.1 σ else J_X12_bondsThatHold_34 n v2 a14.2 (1 : Int32) a14.1 σ))))
def L_X12_bondsThatHold_4 (n : Nat)  (σ : MS) (a4 : Int32 × Int32) : Option ((Int32 × Int32) ⊕ (Int32)) := ((f_X12_people  σ).bind (fun q6 => (if q6 ≤ a4.2 then (some a4.1).map Sum.inr else itr (L_X12_bondsThatHold_14 n a4.2 σ) n (a4.1, (0 : Int32)))))
def f_X12_bondsThatHold (n : Nat)  (σ : MS) : Option (Int32) := itr (L_X12_bondsThatHold_4 n  σ) n ((0 : Int32), (0 : Int32))
set_option maxRecDepth 20000 in
set_option maxHeartbeats 2000000 in
theorem c_X12_bondsThatHold (w : TG) (n : Nat)  (σ : MS) : MC m_X12_bondsThatHold w [.ref (wB w + 171)] σ ((f_X12_bondsThatHold n  σ).map (fun r => (r, σ))) := by
  refine V_methp (by decide +kernel) (Nat.le_of_ble_eq_true rfl) (by intro v hv; simp only [List.mem_cons, List.not_mem_nil, or_false] at hv; subst hv; rfl) (fun g x => ?_)
  show VV m_X12_bondsThatHold w g 0 0 (QM m_X12_bondsThatHold w g x) (fun b : Int32 => (b, σ) = x) 0 [some (.ref (wB w + 171)), none, none, none] [] σ (f_X12_bondsThatHold n  σ)
  have hL4 : ∀  (n0 : Nat) (a : Int32 × Int32), VV m_X12_bondsThatHold w g 0 0 (QM m_X12_bondsThatHold w g x) (fun b : Int32 => (b, σ) = x) 4 [some (.ref (wB w + 171)), some (.int a.1), some (.int a.2), none] [] σ (itr (L_X12_bondsThatHold_4 n  σ) n0 a) := by
    refine V_itr (vf := fun a : Int32 × Int32 => [some (.ref (wB w + 171)), some (.int a.1), some (.int a.2), none]) (sf := fun a : Int32 × Int32 => σ) (fun κ4 b4 r4 a4 => ?_)
    obtain ⟨a4_1, a4_2⟩ := a4
    show VV m_X12_bondsThatHold w g 0 0 (QM m_X12_bondsThatHold w g x) κ4 4 [some (.ref (wB w + 171)), some (.int a4_1), some (.int a4_2), none] [] σ (L_X12_bondsThatHold_4 n  σ (a4_1, a4_2))
    have hL14 : ∀ (v2 : Int32) (n0 : Nat) (a : Int32 × Int32), VV m_X12_bondsThatHold w g 0 0 (QM m_X12_bondsThatHold w g x) κ4 14 [some (.ref (wB w + 171)), some (.int a.1), some (.int v2), some (.int a.2)] [] σ (itr (L_X12_bondsThatHold_14 n v2 σ) n0 a) := by
      intro v2
      refine V_itr (vf := fun a : Int32 × Int32 => [some (.ref (wB w + 171)), some (.int a.1), some (.int v2), some (.int a.2)]) (sf := fun a : Int32 × Int32 => σ) (fun κ14 b14 r14 a14 => ?_)
      obtain ⟨a14_1, a14_2⟩ := a14
      show VV m_X12_bondsThatHold w g 0 0 (QM m_X12_bondsThatHold w g x) κ14 14 [some (.ref (wB w + 171)), some (.int a14_1), some (.int v2), some (.int a14_2)] [] σ (L_X12_bondsThatHold_14 n v2 σ (a14_1, a14_2))
      have hJ34 : ∀ (v3 : Int32) (t0 : Int32) (t1 : Int32), VV m_X12_bondsThatHold w g 0 0 (QM m_X12_bondsThatHold w g x) κ14 34 [some (.ref (wB w + 171)), none, some (.int v2), some (.int v3)] [.int t0, .int t1] σ (J_X12_bondsThatHold_34 n v2 v3 t0 t1 σ) := by
        intro v3 t0 t1
        refine V_iadd (pc := 34) dX12_bondsThatHold_34 ?_
        refine V_istore_n (pc := 35) (vs' := [some (.ref (wB w + 171)), some (.int (t1 + t0)), some (.int v2), some (.int v3)]) dX12_bondsThatHold_35 rfl (Nat.le_of_ble_eq_true rfl) (Nat.le_of_ble_eq_true rfl) rfl ?_
        refine V_iincC (pc := 36) (vs' := [some (.ref (wB w + 171)), some (.int (t1 + t0)), some (.int v2), some (.int (v3 + (1 : Int32)))]) dX12_bondsThatHold_36 (Nat.le_of_ble_eq_true rfl) rfl ic_1 rfl ?_
        refine V_goto (pc := 39) (tgt := 14) dX12_bondsThatHold_39 (by decide +kernel) ?_
        exact V_back (b14 ((t1 + t0), (v3 + (1 : Int32))))
      refine V_iload_n (pc := 14) dX12_bondsThatHold_14 rfl rfl ?_
      refine V_iload_n (pc := 15) dX12_bondsThatHold_15 rfl rfl ?_
      refine V_icmp_ge (pc := 16) (tgt := 42) dX12_bondsThatHold_16 (by decide +kernel) ?_ ?_
      · refine V_exit r14 ?_
        refine V_iincC (pc := 42) (vs' := [some (.ref (wB w + 171)), some (.int a14_1), some (.int (v2 + (1 : Int32))), some (.int a14_2)]) dX12_bondsThatHold_42 (Nat.le_of_ble_eq_true rfl) rfl ic_1 rfl ?_
        refine V_goto (pc := 45) (tgt := 4) dX12_bondsThatHold_45 (by decide +kernel) ?_
        refine V_sub (vs' := [some (.ref (wB w + 171)), some (.int a14_1), some (.int (v2 + (1 : Int32))), none]) (show vless _ _ from ⟨rfl, ⟨rfl, ⟨rfl, trivial⟩⟩⟩) rfl ?_
        exact V_back (b4 (a14_1, (v2 + (1 : Int32))))
      · refine V_iload_n (pc := 19) dX12_bondsThatHold_19 rfl rfl ?_
        refine V_aload_n (pc := 20) dX12_bondsThatHold_20 rfl rfl ?_
        refine V_iload_n (pc := 21) dX12_bondsThatHold_21 rfl rfl ?_
        refine V_iload_n (pc := 22) dX12_bondsThatHold_22 rfl rfl ?_
        refine V_callVpi (pc := 23) (As := [.int v2, .int a14_2]) (rest := [.int a14_1]) (c_X12_holds w v2 a14_2 σ) cw_X12_69 rfl rfl dX12_bondsThatHold_23 kc_171 ci_12 ⟨Nat.le_of_ble_eq_true rfl, Nat.le_of_ble_eq_true rfl⟩ rfl rfl (Nat.le_of_ble_eq_true rfl) (Nat.le_of_ble_eq_true rfl) (Nat.le_of_ble_eq_true rfl) rfl (fun q23 => ?_)
        refine V_if_eq (pc := 26) (tgt := 33) dX12_bondsThatHold_26 (by decide +kernel) ?_ ?_
        · refine V_iconst (pc := 33) dX12_bondsThatHold_33 ic_0 ?_
          refine V_sub (vs' := [some (.ref (wB w + 171)), none, some (.int v2), some (.int a14_2)]) (show vless _ _ from ⟨rfl, ⟨rfl, ⟨rfl, trivial⟩⟩⟩) rfl ?_
          exact hJ34 a14_2 (0 : Int32) a14_1
        · refine V_iconst (pc := 29) dX12_bondsThatHold_29 ic_1 ?_
          refine V_goto (pc := 30) (tgt := 34) dX12_bondsThatHold_30 (by decide +kernel) ?_
          refine V_sub (vs' := [some (.ref (wB w + 171)), none, some (.int v2), some (.int a14_2)]) (show vless _ _ from ⟨rfl, ⟨rfl, ⟨rfl, trivial⟩⟩⟩) rfl ?_
          exact hJ34 a14_2 (1 : Int32) a14_1
    refine V_iload_n (pc := 4) dX12_bondsThatHold_4 rfl rfl ?_
    refine V_aload_n (pc := 5) dX12_bondsThatHold_5 rfl rfl ?_
    refine V_callVpi (pc := 6) (As := []) (rest := [.int a4_2]) (c_X12_people w  σ) cw_X12_58 rfl rfl dX12_bondsThatHold_6 kc_171 ci_12 ⟨Nat.le_of_ble_eq_true rfl, Nat.le_of_ble_eq_true rfl⟩ rfl rfl (Nat.le_of_ble_eq_true rfl) (Nat.le_of_ble_eq_true rfl) (Nat.le_of_ble_eq_true rfl) rfl (fun q6 => ?_)
    refine V_icmp_ge (pc := 9) (tgt := 48) dX12_bondsThatHold_9 (by decide +kernel) ?_ ?_
    · refine V_exit r4 ?_
      refine V_iload_n (pc := 48) dX12_bondsThatHold_48 rfl rfl ?_
      exact V_ireti (pc := 49) dX12_bondsThatHold_49 rfl (hk := fun h => h)
    · refine V_iconst (pc := 12) dX12_bondsThatHold_12 ic_0 ?_
      refine V_istore_n (pc := 13) (vs' := [some (.ref (wB w + 171)), some (.int a4_1), some (.int a4_2), some (.int (0 : Int32))]) dX12_bondsThatHold_13 rfl (Nat.le_of_ble_eq_true rfl) (Nat.le_of_ble_eq_true rfl) rfl ?_
      exact hL14 a4_2 n (a4_1, (0 : Int32))
  refine V_iconst (pc := 0) dX12_bondsThatHold_0 ic_0 ?_
  refine V_istore_n (pc := 1) (vs' := [some (.ref (wB w + 171)), some (.int (0 : Int32)), none, none]) dX12_bondsThatHold_1 rfl (Nat.le_of_ble_eq_true rfl) (Nat.le_of_ble_eq_true rfl) rfl ?_
  refine V_iconst (pc := 2) dX12_bondsThatHold_2 ic_0 ?_
  refine V_istore_n (pc := 3) (vs' := [some (.ref (wB w + 171)), some (.int (0 : Int32)), some (.int (0 : Int32)), none]) dX12_bondsThatHold_3 rfl (Nat.le_of_ble_eq_true rfl) (Nat.le_of_ble_eq_true rfl) rfl ?_
  exact hL4 n ((0 : Int32), (0 : Int32))
def J_X12_widest_113 (n : Nat) (v1 : Int32) (v2 : Int32) (v3 : Int32) (v4 : Int32) (v5 : Int32) (σ : MS) : Option ((Int32 × Int32 × Int32 × MS) ⊕ (Int32 × MS)) := some (.inl (v3, v4, (v5 + (1 : Int32)), σ))
def J_X12_widest_103 (n : Nat) (v1 : Int32) (v2 : Int32) (v4 : Int32) (v5 : Int32) (v6 : Int32) (t0 : Int32) (σ : MS) : Option ((Int32 × Int32 × Int32 × MS) ⊕ (Int32 × MS)) := J_X12_widest_113 n v1 v2 t0 (mxI v4 v6) v5 σ
def L_X12_widest_51 (n : Nat) (v1 : Int32) (v2 : Int32) (σ : MS) (a51 : Int32 × Int32 × Int32 × MS) : Option ((Int32 × Int32 × Int32 × MS) ⊕ (Int32 × MS)) := ((f_X12_everybody  a51.2.2.2).bind (fun q54 => (if q54 < a51.2.2.1 then (some (a51.1, a51.2.2.2)).map Sum.inr else ((f_J6_bitCount_0f7a4 a51.2.2.1 a51.2.2.2).bind (fun q62 => (if q62 = v2 then ((f_X12_shares n a51.2.2.1 v1 a51.2.2.2).bind (fun q76 => ((f_X12_bondsThatHold n  q76.2).bind (fun q81 => ((f_X12_bringsBack n  q76.2).bind (fun q87 => (if q81 ≤ a51.2.1 then J_X12_widest_103 n v1 v2 a51.2.1 a51.2.2.1 q81 a51.1 q87.2 else J_X12_widest_103 n v1 v2 a51.2.1 a51.2.2.1 q81 a51.2.2.1 q87.2))))))) else J_X12_widest_113 n v1 v2 a51.1 a51.2.1 a51.2.2.1 a51.2.2.2))))))
def J_X12_widest_30 (n : Nat) (v1 : Int32) (v2 : Int32) (t0 : Int32) (σ : MS) : Option (Int32 × MS) := ((f_X12_throwsIf t0 (1 : Int32) σ).bind (fun q31 => (if q31.1 = 0 then ((f_X12_keepsAll n  q31.2).bind (fun q45 => itr (L_X12_widest_51 n v1 v2 σ) n ((-1 : Int32), (-1 : Int32), (0 : Int32), q45.2))) else some ((0 : Int32), q31.2))))
def J_X12_widest_25 (n : Nat) (v1 : Int32) (v2 : Int32) (σ : MS) : Option (Int32 × MS) := J_X12_widest_30 n v1 v2 (1 : Int32) σ
def f_X12_widest (n : Nat) (p1 : Int32) (p2 : Int32) (σ : MS) : Option (Int32 × MS) := (ltM (mu σ 171 0 (0 : Int32)) (fun s2 => ((f_X12_in p1 (0 : Int32) (3 : Int32) s2).bind (fun q9 => (if q9 = 0 then J_X12_widest_25 n p1 p2 s2 else ((f_X12_in p2 (2 : Int32) (8 : Int32) s2).bind (fun q19 => (if q19 = 0 then J_X12_widest_25 n p1 p2 s2 else J_X12_widest_30 n p1 p2 (0 : Int32) s2))))))))
set_option maxRecDepth 20000 in
set_option maxHeartbeats 2000000 in
theorem c_X12_widest (w : TG) (n : Nat) (p1 : Int32) (p2 : Int32) (σ : MS) : MC m_X12_widest w [.ref (wB w + 171), .int p1, .int p2] σ (f_X12_widest n p1 p2 σ) := by
  refine V_meth (by decide +kernel) (Nat.le_of_ble_eq_true rfl) (by intro v hv; simp only [List.mem_cons, List.not_mem_nil, or_false] at hv; rcases hv with rfl | rfl | rfl <;> rfl) (fun g x => ?_)
  show VV m_X12_widest w g 0 0 (QM m_X12_widest w g x) (fun b : Int32 × MS => b = x) 0 [some (.ref (wB w + 171)), some (.int p1), some (.int p2), none, none, none, none] [] σ (f_X12_widest n p1 p2 σ)
  have hL51 : ∀  (n0 : Nat) (a : Int32 × Int32 × Int32 × MS), VV m_X12_widest w g 0 0 (QM m_X12_widest w g x) (fun b : Int32 × MS => b = x) 51 [some (.ref (wB w + 171)), some (.int p1), some (.int p2), some (.int a.1), some (.int a.2.1), some (.int a.2.2.1), none] [] a.2.2.2 (itr (L_X12_widest_51 n p1 p2 σ) n0 a) := by
    refine V_itr (vf := fun a : Int32 × Int32 × Int32 × MS => [some (.ref (wB w + 171)), some (.int p1), some (.int p2), some (.int a.1), some (.int a.2.1), some (.int a.2.2.1), none]) (sf := fun a : Int32 × Int32 × Int32 × MS => a.2.2.2) (fun κ51 b51 r51 a51 => ?_)
    obtain ⟨a51_1, a51_2, a51_3, a51_4⟩ := a51
    show VV m_X12_widest w g 0 0 (QM m_X12_widest w g x) κ51 51 [some (.ref (wB w + 171)), some (.int p1), some (.int p2), some (.int a51_1), some (.int a51_2), some (.int a51_3), none] [] a51_4 (L_X12_widest_51 n p1 p2 σ (a51_1, a51_2, a51_3, a51_4))
    have hJ113 : ∀ (v3 : Int32) (v4 : Int32) (v5 : Int32) (σ : MS), VV m_X12_widest w g 0 0 (QM m_X12_widest w g x) κ51 113 [some (.ref (wB w + 171)), some (.int p1), some (.int p2), some (.int v3), some (.int v4), some (.int v5), none] [] σ (J_X12_widest_113 n p1 p2 v3 v4 v5 σ) := by
      intro v3 v4 v5 σ
      refine V_iincC (pc := 113) (vs' := [some (.ref (wB w + 171)), some (.int p1), some (.int p2), some (.int v3), some (.int v4), some (.int (v5 + (1 : Int32))), none]) dX12_widest_113 (Nat.le_of_ble_eq_true rfl) rfl ic_1 rfl ?_
      refine V_goto (pc := 116) (tgt := 51) dX12_widest_116 (by decide +kernel) ?_
      exact V_back (b51 (v3, v4, (v5 + (1 : Int32)), σ))
    have hJ103 : ∀ (v4 : Int32) (v5 : Int32) (v6 : Int32) (t0 : Int32) (σ : MS), VV m_X12_widest w g 0 0 (QM m_X12_widest w g x) κ51 103 [some (.ref (wB w + 171)), some (.int p1), some (.int p2), none, some (.int v4), some (.int v5), some (.int v6)] [.int t0] σ (J_X12_widest_103 n p1 p2 v4 v5 v6 t0 σ) := by
      intro v4 v5 v6 t0 σ
      refine V_istore_n (pc := 103) (vs' := [some (.ref (wB w + 171)), some (.int p1), some (.int p2), some (.int t0), some (.int v4), some (.int v5), some (.int v6)]) dX12_widest_103 rfl (Nat.le_of_ble_eq_true rfl) (Nat.le_of_ble_eq_true rfl) rfl ?_
      refine V_iload (pc := 104) dX12_widest_104 rfl ?_
      refine V_iload (pc := 106) dX12_widest_106 rfl ?_
      refine V_mmax (pc := 108) dX12_widest_108 rfl mw_X12_288 (Nat.le_of_ble_eq_true rfl) (Nat.le_of_ble_eq_true rfl) (Nat.le_of_ble_eq_true rfl) (Nat.le_of_ble_eq_true rfl) ?_
      refine V_istore (pc := 111) (vs' := [some (.ref (wB w + 171)), some (.int p1), some (.int p2), some (.int t0), some (.int (mxI v4 v6)), some (.int v5), some (.int v6)]) dX12_widest_111 (Nat.le_of_ble_eq_true rfl) (Nat.le_of_ble_eq_true rfl) rfl ?_
      refine V_sub (vs' := [some (.ref (wB w + 171)), some (.int p1), some (.int p2), some (.int t0), some (.int (mxI v4 v6)), some (.int v5), none]) (show vless _ _ from ⟨rfl, ⟨rfl, ⟨rfl, ⟨rfl, ⟨rfl, ⟨rfl, trivial⟩⟩⟩⟩⟩⟩) rfl ?_
      exact hJ113 t0 (mxI v4 v6) v5 σ
    refine V_iload (pc := 51) dX12_widest_51 rfl ?_
    refine V_aload_n (pc := 53) dX12_widest_53 rfl rfl ?_
    refine V_callVpi (pc := 54) (As := []) (rest := [.int a51_3]) (c_X12_everybody w  a51_4) cw_X12_327 rfl rfl dX12_widest_54 kc_171 ci_12 ⟨Nat.le_of_ble_eq_true rfl, Nat.le_of_ble_eq_true rfl⟩ rfl rfl (Nat.le_of_ble_eq_true rfl) (Nat.le_of_ble_eq_true rfl) (Nat.le_of_ble_eq_true rfl) rfl (fun q54 => ?_)
    refine V_icmp_gt (pc := 57) (tgt := 119) dX12_widest_57 (by decide +kernel) ?_ ?_
    · refine V_exit r51 ?_
      refine V_iload_n (pc := 119) dX12_widest_119 rfl rfl ?_
      exact V_ireti (pc := 120) dX12_widest_120 rfl (hk := fun h => h)
    · refine V_iload (pc := 60) dX12_widest_60 rfl ?_
      refine V_callSpi (pc := 62) (As := [.int a51_3]) (rest := []) (c_J6_bitCount_0f7a4 w a51_3 a51_4) cs_X12_318 rfl rfl dX12_widest_62 ⟨Nat.le_of_ble_eq_true rfl, Nat.le_of_ble_eq_true rfl⟩ rfl rfl (Nat.le_of_ble_eq_true rfl) (Nat.le_of_ble_eq_true rfl) (Nat.le_of_ble_eq_true rfl) rfl (fun q62 => ?_)
      refine V_iload_n (pc := 65) dX12_widest_65 rfl rfl ?_
      refine V_icmp_eq (pc := 66) (tgt := 72) dX12_widest_66 (by decide +kernel) ?_ ?_
      · refine V_aload_n (pc := 72) dX12_widest_72 rfl rfl ?_
        refine V_iload (pc := 73) dX12_widest_73 rfl ?_
        refine V_iload_n (pc := 75) dX12_widest_75 rfl rfl ?_
        refine V_callVi (pc := 76) (As := [.int a51_3, .int p1]) (rest := []) (c_X12_shares w n a51_3 p1 a51_4) cw_X12_336 rfl rfl dX12_widest_76 kc_171 ci_12 ⟨Nat.le_of_ble_eq_true rfl, Nat.le_of_ble_eq_true rfl⟩ rfl rfl (Nat.le_of_ble_eq_true rfl) (Nat.le_of_ble_eq_true rfl) (Nat.le_of_ble_eq_true rfl) rfl (fun q76 => ?_)
        refine V_pop (pc := 79) dX12_widest_79 rfl ?_
        refine V_aload_n (pc := 80) dX12_widest_80 rfl rfl ?_
        refine V_callVpi (pc := 81) (As := []) (rest := []) (c_X12_bondsThatHold w n  q76.2) cw_X12_345 rfl rfl dX12_widest_81 kc_171 ci_12 ⟨Nat.le_of_ble_eq_true rfl, Nat.le_of_ble_eq_true rfl⟩ rfl rfl (Nat.le_of_ble_eq_true rfl) (Nat.le_of_ble_eq_true rfl) (Nat.le_of_ble_eq_true rfl) rfl (fun q81 => ?_)
        refine V_istore (pc := 84) (vs' := [some (.ref (wB w + 171)), some (.int p1), some (.int p2), some (.int a51_1), some (.int a51_2), some (.int a51_3), some (.int q81)]) dX12_widest_84 (Nat.le_of_ble_eq_true rfl) (Nat.le_of_ble_eq_true rfl) rfl ?_
        refine V_aload_n (pc := 86) dX12_widest_86 rfl rfl ?_
        refine V_callVv (pc := 87) (As := []) (rest := []) (c_X12_bringsBack w n  q76.2) cw_X12_342 rfl rfl dX12_widest_87 kc_171 ci_12 ⟨Nat.le_of_ble_eq_true rfl, Nat.le_of_ble_eq_true rfl⟩ rfl rfl (Nat.le_of_ble_eq_true rfl) (Nat.le_of_ble_eq_true rfl) (Nat.le_of_ble_eq_true rfl) rfl (fun q87 => ?_)
        refine V_iload (pc := 90) dX12_widest_90 rfl ?_
        refine V_iload (pc := 92) dX12_widest_92 rfl ?_
        refine V_icmp_le (pc := 94) (tgt := 102) dX12_widest_94 (by decide +kernel) ?_ ?_
        · refine V_iload_n (pc := 102) dX12_widest_102 rfl rfl ?_
          refine V_sub (vs' := [some (.ref (wB w + 171)), some (.int p1), some (.int p2), none, some (.int a51_2), some (.int a51_3), some (.int q81)]) (show vless _ _ from ⟨rfl, ⟨rfl, ⟨rfl, ⟨rfl, ⟨rfl, ⟨rfl, trivial⟩⟩⟩⟩⟩⟩) rfl ?_
          exact hJ103 a51_2 a51_3 q81 a51_1 q87.2
        · refine V_iload (pc := 97) dX12_widest_97 rfl ?_
          refine V_goto (pc := 99) (tgt := 103) dX12_widest_99 (by decide +kernel) ?_
          refine V_sub (vs' := [some (.ref (wB w + 171)), some (.int p1), some (.int p2), none, some (.int a51_2), some (.int a51_3), some (.int q81)]) (show vless _ _ from ⟨rfl, ⟨rfl, ⟨rfl, ⟨rfl, ⟨rfl, ⟨rfl, trivial⟩⟩⟩⟩⟩⟩) rfl ?_
          exact hJ103 a51_2 a51_3 q81 a51_3 q87.2
      · refine V_goto (pc := 69) (tgt := 113) dX12_widest_69 (by decide +kernel) ?_
        exact hJ113 a51_1 a51_2 a51_3 a51_4
  have hJ30 : ∀ (t0 : Int32) (σ : MS), VV m_X12_widest w g 0 0 (QM m_X12_widest w g x) (fun b : Int32 × MS => b = x) 30 [some (.ref (wB w + 171)), some (.int p1), some (.int p2), none, none, none, none] [.int t0, .ref (wB w + 171)] σ (J_X12_widest_30 n p1 p2 t0 σ) := by
    intro t0 σ
    refine V_iconst (pc := 30) dX12_widest_30 ic_1 ?_
    refine V_callVi (pc := 31) (As := [.int t0, .int (1 : Int32)]) (rest := []) (c_X12_throwsIf w t0 (1 : Int32) σ) cw_X12_257 rfl rfl dX12_widest_31 kc_171 ci_12 ⟨Nat.le_of_ble_eq_true rfl, Nat.le_of_ble_eq_true rfl⟩ rfl rfl (Nat.le_of_ble_eq_true rfl) (Nat.le_of_ble_eq_true rfl) (Nat.le_of_ble_eq_true rfl) rfl (fun q31 => ?_)
    refine V_if_eq (pc := 34) (tgt := 39) dX12_widest_34 (by decide +kernel) ?_ ?_
    · refine V_iconst (pc := 39) dX12_widest_39 ic_m1 ?_
      refine V_istore_n (pc := 40) (vs' := [some (.ref (wB w + 171)), some (.int p1), some (.int p2), some (.int (-1 : Int32)), none, none, none]) dX12_widest_40 rfl (Nat.le_of_ble_eq_true rfl) (Nat.le_of_ble_eq_true rfl) rfl ?_
      refine V_iconst (pc := 41) dX12_widest_41 ic_m1 ?_
      refine V_istore (pc := 42) (vs' := [some (.ref (wB w + 171)), some (.int p1), some (.int p2), some (.int (-1 : Int32)), some (.int (-1 : Int32)), none, none]) dX12_widest_42 (Nat.le_of_ble_eq_true rfl) (Nat.le_of_ble_eq_true rfl) rfl ?_
      refine V_aload_n (pc := 44) dX12_widest_44 rfl rfl ?_
      refine V_callVv (pc := 45) (As := []) (rest := []) (c_X12_keepsAll w n  q31.2) cw_X12_339 rfl rfl dX12_widest_45 kc_171 ci_12 ⟨Nat.le_of_ble_eq_true rfl, Nat.le_of_ble_eq_true rfl⟩ rfl rfl (Nat.le_of_ble_eq_true rfl) (Nat.le_of_ble_eq_true rfl) (Nat.le_of_ble_eq_true rfl) rfl (fun q45 => ?_)
      refine V_iconst (pc := 48) dX12_widest_48 ic_0 ?_
      refine V_istore (pc := 49) (vs' := [some (.ref (wB w + 171)), some (.int p1), some (.int p2), some (.int (-1 : Int32)), some (.int (-1 : Int32)), some (.int (0 : Int32)), none]) dX12_widest_49 (Nat.le_of_ble_eq_true rfl) (Nat.le_of_ble_eq_true rfl) rfl ?_
      exact hL51 n ((-1 : Int32), (-1 : Int32), (0 : Int32), q45.2)
    · refine V_iconst (pc := 37) dX12_widest_37 ic_0 ?_
      exact V_ireti (pc := 38) dX12_widest_38 rfl (hk := fun h => h)
  have hJ25 : ∀ (σ : MS), VV m_X12_widest w g 0 0 (QM m_X12_widest w g x) (fun b : Int32 × MS => b = x) 25 [some (.ref (wB w + 171)), some (.int p1), some (.int p2), none, none, none, none] [.ref (wB w + 171)] σ (J_X12_widest_25 n p1 p2 σ) := by
    intro σ
    refine V_iconst (pc := 25) dX12_widest_25 ic_1 ?_
    refine V_goto (pc := 26) (tgt := 30) dX12_widest_26 (by decide +kernel) ?_
    exact hJ30 (1 : Int32) σ
  refine V_aload_n (pc := 0) dX12_widest_0 rfl rfl ?_
  refine V_iconst (pc := 1) dX12_widest_1 ic_0 ?_
  refine V_puti (pc := 2) fp_X12_3 rfl dX12_widest_2 kc_171 rf_12_0_171 (fun s2 => ?_)
  refine V_aload_n (pc := 5) dX12_widest_5 rfl rfl ?_
  refine V_iload_n (pc := 6) dX12_widest_6 rfl rfl ?_
  refine V_iconst (pc := 7) dX12_widest_7 ic_0 ?_
  refine V_iconst (pc := 8) dX12_widest_8 ic_3 ?_
  refine V_callSpi (pc := 9) (As := [.int p1, .int (0 : Int32), .int (3 : Int32)]) (rest := [.ref (wB w + 171)]) (c_X12_in w p1 (0 : Int32) (3 : Int32) s2) cs_X12_79 rfl rfl dX12_widest_9 ⟨Nat.le_of_ble_eq_true rfl, Nat.le_of_ble_eq_true rfl⟩ rfl rfl (Nat.le_of_ble_eq_true rfl) (Nat.le_of_ble_eq_true rfl) (Nat.le_of_ble_eq_true rfl) rfl (fun q9 => ?_)
  refine V_if_eq (pc := 12) (tgt := 25) dX12_widest_12 (by decide +kernel) ?_ ?_
  · exact hJ25 s2
  · refine V_iload_n (pc := 15) dX12_widest_15 rfl rfl ?_
    refine V_iconst (pc := 16) dX12_widest_16 ic_2 ?_
    refine V_bipush (pc := 17) dX12_widest_17 bp_8 ?_
    refine V_callSpi (pc := 19) (As := [.int p2, .int (2 : Int32), .int (8 : Int32)]) (rest := [.ref (wB w + 171)]) (c_X12_in w p2 (2 : Int32) (8 : Int32) s2) cs_X12_79 rfl rfl dX12_widest_19 ⟨Nat.le_of_ble_eq_true rfl, Nat.le_of_ble_eq_true rfl⟩ rfl rfl (Nat.le_of_ble_eq_true rfl) (Nat.le_of_ble_eq_true rfl) (Nat.le_of_ble_eq_true rfl) rfl (fun q19 => ?_)
    refine V_if_ne (pc := 22) (tgt := 29) dX12_widest_22 (by decide +kernel) ?_ ?_
    · refine V_iconst (pc := 29) dX12_widest_29 ic_0 ?_
      exact hJ30 (0 : Int32) s2
    · exact hJ25 s2
def J_X12_boundTo_34 (n : Nat) (v1 : Int32) (v3 : Int32) (t0 : Int32) (t1 : Int32) (σ : MS) : Option ((Int32 × Int32) ⊕ (Int32)) := some (.inl ((t1 ||| t0), (v3 + (1 : Int32))))
def J_X12_boundTo_33 (n : Nat) (v1 : Int32) (v3 : Int32) (t0 : Int32) (σ : MS) : Option ((Int32 × Int32) ⊕ (Int32)) := J_X12_boundTo_34 n v1 v3 (0 : Int32) t0 σ
def L_X12_boundTo_4 (n : Nat) (v1 : Int32) (σ : MS) (a4 : Int32 × Int32) : Option ((Int32 × Int32) ⊕ (Int32)) := ((f_X12_people  σ).bind (fun q6 => (if q6 ≤ a4.2 then (some a4.1).map Sum.inr else (if a4.2 = v1 then J_X12_boundTo_33 n v1 a4.2 a4.1 σ else ((f_X12_holds v1 a4.2 σ).bind (fun q21 => (if q21 = 0 then J_X12_boundTo_33 n v1 a4.2 a4.1 σ else J_X12_boundTo_34 n v1 a4.2 (shlI (1 : Int32) a4.2) a4.1 σ)))))))
def f_X12_boundTo (n : Nat) (p1 : Int32) (σ : MS) : Option (Int32) := itr (L_X12_boundTo_4 n p1 σ) n ((0 : Int32), (0 : Int32))
set_option maxRecDepth 20000 in
set_option maxHeartbeats 2000000 in
theorem c_X12_boundTo (w : TG) (n : Nat) (p1 : Int32) (σ : MS) : MC m_X12_boundTo w [.ref (wB w + 171), .int p1] σ ((f_X12_boundTo n p1 σ).map (fun r => (r, σ))) := by
  refine V_methp (by decide +kernel) (Nat.le_of_ble_eq_true rfl) (by intro v hv; simp only [List.mem_cons, List.not_mem_nil, or_false] at hv; rcases hv with rfl | rfl <;> rfl) (fun g x => ?_)
  show VV m_X12_boundTo w g 0 0 (QM m_X12_boundTo w g x) (fun b : Int32 => (b, σ) = x) 0 [some (.ref (wB w + 171)), some (.int p1), none, none] [] σ (f_X12_boundTo n p1 σ)
  have hL4 : ∀  (n0 : Nat) (a : Int32 × Int32), VV m_X12_boundTo w g 0 0 (QM m_X12_boundTo w g x) (fun b : Int32 => (b, σ) = x) 4 [some (.ref (wB w + 171)), some (.int p1), some (.int a.1), some (.int a.2)] [] σ (itr (L_X12_boundTo_4 n p1 σ) n0 a) := by
    refine V_itr (vf := fun a : Int32 × Int32 => [some (.ref (wB w + 171)), some (.int p1), some (.int a.1), some (.int a.2)]) (sf := fun a : Int32 × Int32 => σ) (fun κ4 b4 r4 a4 => ?_)
    obtain ⟨a4_1, a4_2⟩ := a4
    show VV m_X12_boundTo w g 0 0 (QM m_X12_boundTo w g x) κ4 4 [some (.ref (wB w + 171)), some (.int p1), some (.int a4_1), some (.int a4_2)] [] σ (L_X12_boundTo_4 n p1 σ (a4_1, a4_2))
    have hJ34 : ∀ (v3 : Int32) (t0 : Int32) (t1 : Int32), VV m_X12_boundTo w g 0 0 (QM m_X12_boundTo w g x) κ4 34 [some (.ref (wB w + 171)), some (.int p1), none, some (.int v3)] [.int t0, .int t1] σ (J_X12_boundTo_34 n p1 v3 t0 t1 σ) := by
      intro v3 t0 t1
      refine V_ior (pc := 34) dX12_boundTo_34 ?_
      refine V_istore_n (pc := 35) (vs' := [some (.ref (wB w + 171)), some (.int p1), some (.int (t1 ||| t0)), some (.int v3)]) dX12_boundTo_35 rfl (Nat.le_of_ble_eq_true rfl) (Nat.le_of_ble_eq_true rfl) rfl ?_
      refine V_iincC (pc := 36) (vs' := [some (.ref (wB w + 171)), some (.int p1), some (.int (t1 ||| t0)), some (.int (v3 + (1 : Int32)))]) dX12_boundTo_36 (Nat.le_of_ble_eq_true rfl) rfl ic_1 rfl ?_
      refine V_goto (pc := 39) (tgt := 4) dX12_boundTo_39 (by decide +kernel) ?_
      exact V_back (b4 ((t1 ||| t0), (v3 + (1 : Int32))))
    have hJ33 : ∀ (v3 : Int32) (t0 : Int32), VV m_X12_boundTo w g 0 0 (QM m_X12_boundTo w g x) κ4 33 [some (.ref (wB w + 171)), some (.int p1), none, some (.int v3)] [.int t0] σ (J_X12_boundTo_33 n p1 v3 t0 σ) := by
      intro v3 t0
      refine V_iconst (pc := 33) dX12_boundTo_33 ic_0 ?_
      exact hJ34 v3 (0 : Int32) t0
    refine V_iload_n (pc := 4) dX12_boundTo_4 rfl rfl ?_
    refine V_aload_n (pc := 5) dX12_boundTo_5 rfl rfl ?_
    refine V_callVpi (pc := 6) (As := []) (rest := [.int a4_2]) (c_X12_people w  σ) cw_X12_58 rfl rfl dX12_boundTo_6 kc_171 ci_12 ⟨Nat.le_of_ble_eq_true rfl, Nat.le_of_ble_eq_true rfl⟩ rfl rfl (Nat.le_of_ble_eq_true rfl) (Nat.le_of_ble_eq_true rfl) (Nat.le_of_ble_eq_true rfl) rfl (fun q6 => ?_)
    refine V_icmp_ge (pc := 9) (tgt := 42) dX12_boundTo_9 (by decide +kernel) ?_ ?_
    · refine V_exit r4 ?_
      refine V_iload_n (pc := 42) dX12_boundTo_42 rfl rfl ?_
      exact V_ireti (pc := 43) dX12_boundTo_43 rfl (hk := fun h => h)
    · refine V_iload_n (pc := 12) dX12_boundTo_12 rfl rfl ?_
      refine V_iload_n (pc := 13) dX12_boundTo_13 rfl rfl ?_
      refine V_iload_n (pc := 14) dX12_boundTo_14 rfl rfl ?_
      refine V_icmp_eq (pc := 15) (tgt := 33) dX12_boundTo_15 (by decide +kernel) ?_ ?_
      · refine V_sub (vs' := [some (.ref (wB w + 171)), some (.int p1), none, some (.int a4_2)]) (show vless _ _ from ⟨rfl, ⟨rfl, ⟨rfl, trivial⟩⟩⟩) rfl ?_
        exact hJ33 a4_2 a4_1
      · refine V_aload_n (pc := 18) dX12_boundTo_18 rfl rfl ?_
        refine V_iload_n (pc := 19) dX12_boundTo_19 rfl rfl ?_
        refine V_iload_n (pc := 20) dX12_boundTo_20 rfl rfl ?_
        refine V_callVpi (pc := 21) (As := [.int p1, .int a4_2]) (rest := [.int a4_1]) (c_X12_holds w p1 a4_2 σ) cw_X12_69 rfl rfl dX12_boundTo_21 kc_171 ci_12 ⟨Nat.le_of_ble_eq_true rfl, Nat.le_of_ble_eq_true rfl⟩ rfl rfl (Nat.le_of_ble_eq_true rfl) (Nat.le_of_ble_eq_true rfl) (Nat.le_of_ble_eq_true rfl) rfl (fun q21 => ?_)
        refine V_if_eq (pc := 24) (tgt := 33) dX12_boundTo_24 (by decide +kernel) ?_ ?_
        · refine V_sub (vs' := [some (.ref (wB w + 171)), some (.int p1), none, some (.int a4_2)]) (show vless _ _ from ⟨rfl, ⟨rfl, ⟨rfl, trivial⟩⟩⟩) rfl ?_
          exact hJ33 a4_2 a4_1
        · refine V_iconst (pc := 27) dX12_boundTo_27 ic_1 ?_
          refine V_iload_n (pc := 28) dX12_boundTo_28 rfl rfl ?_
          refine V_ishl (pc := 29) dX12_boundTo_29 ?_
          refine V_goto (pc := 30) (tgt := 34) dX12_boundTo_30 (by decide +kernel) ?_
          refine V_sub (vs' := [some (.ref (wB w + 171)), some (.int p1), none, some (.int a4_2)]) (show vless _ _ from ⟨rfl, ⟨rfl, ⟨rfl, trivial⟩⟩⟩) rfl ?_
          exact hJ34 a4_2 (shlI (1 : Int32) a4_2) a4_1
  refine V_iconst (pc := 0) dX12_boundTo_0 ic_0 ?_
  refine V_istore_n (pc := 1) (vs' := [some (.ref (wB w + 171)), some (.int p1), some (.int (0 : Int32)), none]) dX12_boundTo_1 rfl (Nat.le_of_ble_eq_true rfl) (Nat.le_of_ble_eq_true rfl) rfl ?_
  refine V_iconst (pc := 2) dX12_boundTo_2 ic_0 ?_
  refine V_istore_n (pc := 3) (vs' := [some (.ref (wB w + 171)), some (.int p1), some (.int (0 : Int32)), some (.int (0 : Int32))]) dX12_boundTo_3 rfl (Nat.le_of_ble_eq_true rfl) (Nat.le_of_ble_eq_true rfl) rfl ?_
  exact hL4 n ((0 : Int32), (0 : Int32))
def J_X12_mostOf_47 (n : Nat) (v1 : Int32) (v3 : Int32) (v4 : Int32) (v5 : Int32) (t0 : Int32) (σ : MS) : Option ((Int32 × Int32 × Int32) ⊕ (Int32)) := some (.inl (t0, (mxI v3 v5), (v4 + (1 : Int32))))
def J_X12_mostOf_33 (n : Nat) (v1 : Int32) (v2 : Int32) (v3 : Int32) (v4 : Int32) (t0 : Int32) (σ : MS) : Option ((Int32 × Int32 × Int32) ⊕ (Int32)) := (if t0 ≤ v3 then J_X12_mostOf_47 n v1 v3 v4 t0 v2 σ else J_X12_mostOf_47 n v1 v3 v4 t0 v4 σ)
def L_X12_mostOf_7 (n : Nat) (v1 : Int32) (σ : MS) (a7 : Int32 × Int32 × Int32) : Option ((Int32 × Int32 × Int32) ⊕ (Int32)) := ((f_X12_people  σ).bind (fun q10 => (if q10 ≤ a7.2.2 then (some a7.1).map Sum.inr else (if a7.2.2 = v1 then J_X12_mostOf_33 n v1 a7.1 a7.2.1 a7.2.2 (0 : Int32) σ else ((f_X12_bondOf v1 a7.2.2 σ).bind (fun q30 => J_X12_mostOf_33 n v1 a7.1 a7.2.1 a7.2.2 q30 σ))))))
def f_X12_mostOf (n : Nat) (p1 : Int32) (σ : MS) : Option (Int32) := itr (L_X12_mostOf_7 n p1 σ) n ((-1 : Int32), (0 : Int32), (0 : Int32))
set_option maxRecDepth 20000 in
set_option maxHeartbeats 2000000 in
theorem c_X12_mostOf (w : TG) (n : Nat) (p1 : Int32) (σ : MS) : MC m_X12_mostOf w [.ref (wB w + 171), .int p1] σ ((f_X12_mostOf n p1 σ).map (fun r => (r, σ))) := by
  refine V_methp (by decide +kernel) (Nat.le_of_ble_eq_true rfl) (by intro v hv; simp only [List.mem_cons, List.not_mem_nil, or_false] at hv; rcases hv with rfl | rfl <;> rfl) (fun g x => ?_)
  show VV m_X12_mostOf w g 0 0 (QM m_X12_mostOf w g x) (fun b : Int32 => (b, σ) = x) 0 [some (.ref (wB w + 171)), some (.int p1), none, none, none, none] [] σ (f_X12_mostOf n p1 σ)
  have hL7 : ∀  (n0 : Nat) (a : Int32 × Int32 × Int32), VV m_X12_mostOf w g 0 0 (QM m_X12_mostOf w g x) (fun b : Int32 => (b, σ) = x) 7 [some (.ref (wB w + 171)), some (.int p1), some (.int a.1), some (.int a.2.1), some (.int a.2.2), none] [] σ (itr (L_X12_mostOf_7 n p1 σ) n0 a) := by
    refine V_itr (vf := fun a : Int32 × Int32 × Int32 => [some (.ref (wB w + 171)), some (.int p1), some (.int a.1), some (.int a.2.1), some (.int a.2.2), none]) (sf := fun a : Int32 × Int32 × Int32 => σ) (fun κ7 b7 r7 a7 => ?_)
    obtain ⟨a7_1, a7_2, a7_3⟩ := a7
    show VV m_X12_mostOf w g 0 0 (QM m_X12_mostOf w g x) κ7 7 [some (.ref (wB w + 171)), some (.int p1), some (.int a7_1), some (.int a7_2), some (.int a7_3), none] [] σ (L_X12_mostOf_7 n p1 σ (a7_1, a7_2, a7_3))
    have hJ47 : ∀ (v3 : Int32) (v4 : Int32) (v5 : Int32) (t0 : Int32), VV m_X12_mostOf w g 0 0 (QM m_X12_mostOf w g x) κ7 47 [some (.ref (wB w + 171)), some (.int p1), none, some (.int v3), some (.int v4), some (.int v5)] [.int t0] σ (J_X12_mostOf_47 n p1 v3 v4 v5 t0 σ) := by
      intro v3 v4 v5 t0
      refine V_istore_n (pc := 47) (vs' := [some (.ref (wB w + 171)), some (.int p1), some (.int t0), some (.int v3), some (.int v4), some (.int v5)]) dX12_mostOf_47 rfl (Nat.le_of_ble_eq_true rfl) (Nat.le_of_ble_eq_true rfl) rfl ?_
      refine V_iload_n (pc := 48) dX12_mostOf_48 rfl rfl ?_
      refine V_iload (pc := 49) dX12_mostOf_49 rfl ?_
      refine V_mmax (pc := 51) dX12_mostOf_51 rfl mw_X12_288 (Nat.le_of_ble_eq_true rfl) (Nat.le_of_ble_eq_true rfl) (Nat.le_of_ble_eq_true rfl) (Nat.le_of_ble_eq_true rfl) ?_
      refine V_istore_n (pc := 54) (vs' := [some (.ref (wB w + 171)), some (.int p1), some (.int t0), some (.int (mxI v3 v5)), some (.int v4), some (.int v5)]) dX12_mostOf_54 rfl (Nat.le_of_ble_eq_true rfl) (Nat.le_of_ble_eq_true rfl) rfl ?_
      refine V_iincC (pc := 55) (vs' := [some (.ref (wB w + 171)), some (.int p1), some (.int t0), some (.int (mxI v3 v5)), some (.int (v4 + (1 : Int32))), some (.int v5)]) dX12_mostOf_55 (Nat.le_of_ble_eq_true rfl) rfl ic_1 rfl ?_
      refine V_goto (pc := 58) (tgt := 7) dX12_mostOf_58 (by decide +kernel) ?_
      refine V_sub (vs' := [some (.ref (wB w + 171)), some (.int p1), some (.int t0), some (.int (mxI v3 v5)), some (.int (v4 + (1 : Int32))), none]) (show vless _ _ from ⟨rfl, ⟨rfl, ⟨rfl, ⟨rfl, ⟨rfl, trivial⟩⟩⟩⟩⟩) rfl ?_
      exact V_back (b7 (t0, (mxI v3 v5), (v4 + (1 : Int32))))
    have hJ33 : ∀ (v2 : Int32) (v3 : Int32) (v4 : Int32) (t0 : Int32), VV m_X12_mostOf w g 0 0 (QM m_X12_mostOf w g x) κ7 33 [some (.ref (wB w + 171)), some (.int p1), some (.int v2), some (.int v3), some (.int v4), none] [.int t0] σ (J_X12_mostOf_33 n p1 v2 v3 v4 t0 σ) := by
      intro v2 v3 v4 t0
      refine V_istore (pc := 33) (vs' := [some (.ref (wB w + 171)), some (.int p1), some (.int v2), some (.int v3), some (.int v4), some (.int t0)]) dX12_mostOf_33 (Nat.le_of_ble_eq_true rfl) (Nat.le_of_ble_eq_true rfl) rfl ?_
      refine V_iload (pc := 35) dX12_mostOf_35 rfl ?_
      refine V_iload_n (pc := 37) dX12_mostOf_37 rfl rfl ?_
      refine V_icmp_le (pc := 38) (tgt := 46) dX12_mostOf_38 (by decide +kernel) ?_ ?_
      · refine V_iload_n (pc := 46) dX12_mostOf_46 rfl rfl ?_
        refine V_sub (vs' := [some (.ref (wB w + 171)), some (.int p1), none, some (.int v3), some (.int v4), some (.int t0)]) (show vless _ _ from ⟨rfl, ⟨rfl, ⟨rfl, ⟨rfl, ⟨rfl, trivial⟩⟩⟩⟩⟩) rfl ?_
        exact hJ47 v3 v4 t0 v2
      · refine V_iload (pc := 41) dX12_mostOf_41 rfl ?_
        refine V_goto (pc := 43) (tgt := 47) dX12_mostOf_43 (by decide +kernel) ?_
        refine V_sub (vs' := [some (.ref (wB w + 171)), some (.int p1), none, some (.int v3), some (.int v4), some (.int t0)]) (show vless _ _ from ⟨rfl, ⟨rfl, ⟨rfl, ⟨rfl, ⟨rfl, trivial⟩⟩⟩⟩⟩) rfl ?_
        exact hJ47 v3 v4 t0 v4
    refine V_iload (pc := 7) dX12_mostOf_7 rfl ?_
    refine V_aload_n (pc := 9) dX12_mostOf_9 rfl rfl ?_
    refine V_callVpi (pc := 10) (As := []) (rest := [.int a7_3]) (c_X12_people w  σ) cw_X12_58 rfl rfl dX12_mostOf_10 kc_171 ci_12 ⟨Nat.le_of_ble_eq_true rfl, Nat.le_of_ble_eq_true rfl⟩ rfl rfl (Nat.le_of_ble_eq_true rfl) (Nat.le_of_ble_eq_true rfl) (Nat.le_of_ble_eq_true rfl) rfl (fun q10 => ?_)
    refine V_icmp_ge (pc := 13) (tgt := 61) dX12_mostOf_13 (by decide +kernel) ?_ ?_
    · refine V_exit r7 ?_
      refine V_iload_n (pc := 61) dX12_mostOf_61 rfl rfl ?_
      exact V_ireti (pc := 62) dX12_mostOf_62 rfl (hk := fun h => h)
    · refine V_iload (pc := 16) dX12_mostOf_16 rfl ?_
      refine V_iload_n (pc := 18) dX12_mostOf_18 rfl rfl ?_
      refine V_icmp_ne (pc := 19) (tgt := 26) dX12_mostOf_19 (by decide +kernel) ?_ ?_
      · refine V_aload_n (pc := 26) dX12_mostOf_26 rfl rfl ?_
        refine V_iload_n (pc := 27) dX12_mostOf_27 rfl rfl ?_
        refine V_iload (pc := 28) dX12_mostOf_28 rfl ?_
        refine V_callVpi (pc := 30) (As := [.int p1, .int a7_3]) (rest := []) (c_X12_bondOf w p1 a7_3 σ) cw_X12_315 rfl rfl dX12_mostOf_30 kc_171 ci_12 ⟨Nat.le_of_ble_eq_true rfl, Nat.le_of_ble_eq_true rfl⟩ rfl rfl (Nat.le_of_ble_eq_true rfl) (Nat.le_of_ble_eq_true rfl) (Nat.le_of_ble_eq_true rfl) rfl (fun q30 => ?_)
        exact hJ33 a7_1 a7_2 a7_3 q30
      · refine V_iconst (pc := 22) dX12_mostOf_22 ic_0 ?_
        refine V_goto (pc := 23) (tgt := 33) dX12_mostOf_23 (by decide +kernel) ?_
        exact hJ33 a7_1 a7_2 a7_3 (0 : Int32)
  refine V_iconst (pc := 0) dX12_mostOf_0 ic_m1 ?_
  refine V_istore_n (pc := 1) (vs' := [some (.ref (wB w + 171)), some (.int p1), some (.int (-1 : Int32)), none, none, none]) dX12_mostOf_1 rfl (Nat.le_of_ble_eq_true rfl) (Nat.le_of_ble_eq_true rfl) rfl ?_
  refine V_iconst (pc := 2) dX12_mostOf_2 ic_0 ?_
  refine V_istore_n (pc := 3) (vs' := [some (.ref (wB w + 171)), some (.int p1), some (.int (-1 : Int32)), some (.int (0 : Int32)), none, none]) dX12_mostOf_3 rfl (Nat.le_of_ble_eq_true rfl) (Nat.le_of_ble_eq_true rfl) rfl ?_
  refine V_iconst (pc := 4) dX12_mostOf_4 ic_0 ?_
  refine V_istore (pc := 5) (vs' := [some (.ref (wB w + 171)), some (.int p1), some (.int (-1 : Int32)), some (.int (0 : Int32)), some (.int (0 : Int32)), none]) dX12_mostOf_5 (Nat.le_of_ble_eq_true rfl) (Nat.le_of_ble_eq_true rfl) rfl ?_
  exact hL7 n ((-1 : Int32), (0 : Int32), (0 : Int32))
def J_X12_widened_30 (n : Nat) (v1 : Int32) (v3 : Int32) (t0 : Int32) (t1 : Int32) (σ : MS) : Option ((Int32 × Int32) ⊕ (Int32)) := some (.inl ((t1 ||| t0), (v3 + (1 : Int32))))
def L_X12_widened_4 (n : Nat) (v1 : Int32) (σ : MS) (a4 : Int32 × Int32) : Option ((Int32 × Int32) ⊕ (Int32)) := ((f_X12_people  σ).bind (fun q6 => (if q6 ≤ a4.2 then (some a4.1).map Sum.inr else ((f_X12_has v1 a4.2 σ).bind (fun q15 => (if q15 = 0 then J_X12_widened_30 n v1 a4.2 (0 : Int32) a4.1 σ else ((f_X12_boundTo n a4.2 σ).bind (fun q23 => J_X12_widened_30 n v1 a4.2 q23 a4.1 σ))))))))
def f_X12_widened (n : Nat) (p1 : Int32) (σ : MS) : Option (Int32) := itr (L_X12_widened_4 n p1 σ) n (p1, (0 : Int32))
set_option maxRecDepth 20000 in
set_option maxHeartbeats 2000000 in
theorem c_X12_widened (w : TG) (n : Nat) (p1 : Int32) (σ : MS) : MC m_X12_widened w [.ref (wB w + 171), .int p1] σ ((f_X12_widened n p1 σ).map (fun r => (r, σ))) := by
  refine V_methp (by decide +kernel) (Nat.le_of_ble_eq_true rfl) (by intro v hv; simp only [List.mem_cons, List.not_mem_nil, or_false] at hv; rcases hv with rfl | rfl <;> rfl) (fun g x => ?_)
  show VV m_X12_widened w g 0 0 (QM m_X12_widened w g x) (fun b : Int32 => (b, σ) = x) 0 [some (.ref (wB w + 171)), some (.int p1), none, none] [] σ (f_X12_widened n p1 σ)
  have hL4 : ∀  (n0 : Nat) (a : Int32 × Int32), VV m_X12_widened w g 0 0 (QM m_X12_widened w g x) (fun b : Int32 => (b, σ) = x) 4 [some (.ref (wB w + 171)), some (.int p1), some (.int a.1), some (.int a.2)] [] σ (itr (L_X12_widened_4 n p1 σ) n0 a) := by
    refine V_itr (vf := fun a : Int32 × Int32 => [some (.ref (wB w + 171)), some (.int p1), some (.int a.1), some (.int a.2)]) (sf := fun a : Int32 × Int32 => σ) (fun κ4 b4 r4 a4 => ?_)
    obtain ⟨a4_1, a4_2⟩ := a4
    show VV m_X12_widened w g 0 0 (QM m_X12_widened w g x) κ4 4 [some (.ref (wB w + 171)), some (.int p1), some (.int a4_1), some (.int a4_2)] [] σ (L_X12_widened_4 n p1 σ (a4_1, a4_2))
    have hJ30 : ∀ (v3 : Int32) (t0 : Int32) (t1 : Int32), VV m_X12_widened w g 0 0 (QM m_X12_widened w g x) κ4 30 [some (.ref (wB w + 171)), some (.int p1), none, some (.int v3)] [.int t0, .int t1] σ (J_X12_widened_30 n p1 v3 t0 t1 σ) := by
      intro v3 t0 t1
      refine V_ior (pc := 30) dX12_widened_30 ?_
      refine V_istore_n (pc := 31) (vs' := [some (.ref (wB w + 171)), some (.int p1), some (.int (t1 ||| t0)), some (.int v3)]) dX12_widened_31 rfl (Nat.le_of_ble_eq_true rfl) (Nat.le_of_ble_eq_true rfl) rfl ?_
      refine V_iincC (pc := 32) (vs' := [some (.ref (wB w + 171)), some (.int p1), some (.int (t1 ||| t0)), some (.int (v3 + (1 : Int32)))]) dX12_widened_32 (Nat.le_of_ble_eq_true rfl) rfl ic_1 rfl ?_
      refine V_goto (pc := 35) (tgt := 4) dX12_widened_35 (by decide +kernel) ?_
      exact V_back (b4 ((t1 ||| t0), (v3 + (1 : Int32))))
    refine V_iload_n (pc := 4) dX12_widened_4 rfl rfl ?_
    refine V_aload_n (pc := 5) dX12_widened_5 rfl rfl ?_
    refine V_callVpi (pc := 6) (As := []) (rest := [.int a4_2]) (c_X12_people w  σ) cw_X12_58 rfl rfl dX12_widened_6 kc_171 ci_12 ⟨Nat.le_of_ble_eq_true rfl, Nat.le_of_ble_eq_true rfl⟩ rfl rfl (Nat.le_of_ble_eq_true rfl) (Nat.le_of_ble_eq_true rfl) (Nat.le_of_ble_eq_true rfl) rfl (fun q6 => ?_)
    refine V_icmp_ge (pc := 9) (tgt := 38) dX12_widened_9 (by decide +kernel) ?_ ?_
    · refine V_exit r4 ?_
      refine V_iload_n (pc := 38) dX12_widened_38 rfl rfl ?_
      exact V_ireti (pc := 39) dX12_widened_39 rfl (hk := fun h => h)
    · refine V_iload_n (pc := 12) dX12_widened_12 rfl rfl ?_
      refine V_iload_n (pc := 13) dX12_widened_13 rfl rfl ?_
      refine V_iload_n (pc := 14) dX12_widened_14 rfl rfl ?_
      refine V_callSpi (pc := 15) (As := [.int p1, .int a4_2]) (rest := [.int a4_1]) (c_X12_has w p1 a4_2 σ) cs_X12_76 rfl rfl dX12_widened_15 ⟨Nat.le_of_ble_eq_true rfl, Nat.le_of_ble_eq_true rfl⟩ rfl rfl (Nat.le_of_ble_eq_true rfl) (Nat.le_of_ble_eq_true rfl) (Nat.le_of_ble_eq_true rfl) rfl (fun q15 => ?_)
      refine V_if_eq (pc := 18) (tgt := 29) dX12_widened_18 (by decide +kernel) ?_ ?_
      · refine V_iconst (pc := 29) dX12_widened_29 ic_0 ?_
        refine V_sub (vs' := [some (.ref (wB w + 171)), some (.int p1), none, some (.int a4_2)]) (show vless _ _ from ⟨rfl, ⟨rfl, ⟨rfl, trivial⟩⟩⟩) rfl ?_
        exact hJ30 a4_2 (0 : Int32) a4_1
      · refine V_aload_n (pc := 21) dX12_widened_21 rfl rfl ?_
        refine V_iload_n (pc := 22) dX12_widened_22 rfl rfl ?_
        refine V_callVpi (pc := 23) (As := [.int a4_2]) (rest := [.int a4_1]) (c_X12_boundTo w n a4_2 σ) cw_X12_348 rfl rfl dX12_widened_23 kc_171 ci_12 ⟨Nat.le_of_ble_eq_true rfl, Nat.le_of_ble_eq_true rfl⟩ rfl rfl (Nat.le_of_ble_eq_true rfl) (Nat.le_of_ble_eq_true rfl) (Nat.le_of_ble_eq_true rfl) rfl (fun q23 => ?_)
        refine V_goto (pc := 26) (tgt := 30) dX12_widened_26 (by decide +kernel) ?_
        refine V_sub (vs' := [some (.ref (wB w + 171)), some (.int p1), none, some (.int a4_2)]) (show vless _ _ from ⟨rfl, ⟨rfl, ⟨rfl, trivial⟩⟩⟩) rfl ?_
        exact hJ30 a4_2 q23 a4_1
  refine V_iload_n (pc := 0) dX12_widened_0 rfl rfl ?_
  refine V_istore_n (pc := 1) (vs' := [some (.ref (wB w + 171)), some (.int p1), some (.int p1), none]) dX12_widened_1 rfl (Nat.le_of_ble_eq_true rfl) (Nat.le_of_ble_eq_true rfl) rfl ?_
  refine V_iconst (pc := 2) dX12_widened_2 ic_0 ?_
  refine V_istore_n (pc := 3) (vs' := [some (.ref (wB w + 171)), some (.int p1), some (.int p1), some (.int (0 : Int32))]) dX12_widened_3 rfl (Nat.le_of_ble_eq_true rfl) (Nat.le_of_ble_eq_true rfl) rfl ?_
  exact hL4 n (p1, (0 : Int32))
def L_X12_circleOf_6 (n : Nat)  (σ : MS) (a6 : Int32 × Int32) : Option ((Int32 × Int32) ⊕ (Int32)) := (if (8 : Int32) ≤ a6.2 then (some a6.1).map Sum.inr else ((f_X12_widened n a6.1 σ).bind (fun q14 => some (.inl (q14, (a6.2 + (1 : Int32)))))))
def f_X12_circleOf (n : Nat) (p1 : Int32) (σ : MS) : Option (Int32) := itr (L_X12_circleOf_6 n  σ) n ((shlI (1 : Int32) p1), (0 : Int32))
set_option maxRecDepth 20000 in
set_option maxHeartbeats 2000000 in
theorem c_X12_circleOf (w : TG) (n : Nat) (p1 : Int32) (σ : MS) : MC m_X12_circleOf w [.ref (wB w + 171), .int p1] σ ((f_X12_circleOf n p1 σ).map (fun r => (r, σ))) := by
  refine V_methp (by decide +kernel) (Nat.le_of_ble_eq_true rfl) (by intro v hv; simp only [List.mem_cons, List.not_mem_nil, or_false] at hv; rcases hv with rfl | rfl <;> rfl) (fun g x => ?_)
  show VV m_X12_circleOf w g 0 0 (QM m_X12_circleOf w g x) (fun b : Int32 => (b, σ) = x) 0 [some (.ref (wB w + 171)), some (.int p1), none, none] [] σ (f_X12_circleOf n p1 σ)
  have hL6 : ∀  (n0 : Nat) (a : Int32 × Int32), VV m_X12_circleOf w g 0 0 (QM m_X12_circleOf w g x) (fun b : Int32 => (b, σ) = x) 6 [some (.ref (wB w + 171)), none, some (.int a.1), some (.int a.2)] [] σ (itr (L_X12_circleOf_6 n  σ) n0 a) := by
    refine V_itr (vf := fun a : Int32 × Int32 => [some (.ref (wB w + 171)), none, some (.int a.1), some (.int a.2)]) (sf := fun a : Int32 × Int32 => σ) (fun κ6 b6 r6 a6 => ?_)
    obtain ⟨a6_1, a6_2⟩ := a6
    show VV m_X12_circleOf w g 0 0 (QM m_X12_circleOf w g x) κ6 6 [some (.ref (wB w + 171)), none, some (.int a6_1), some (.int a6_2)] [] σ (L_X12_circleOf_6 n  σ (a6_1, a6_2))
    refine V_iload_n (pc := 6) dX12_circleOf_6 rfl rfl ?_
    refine V_bipush (pc := 7) dX12_circleOf_7 bp_8 ?_
    refine V_icmp_ge (pc := 9) (tgt := 24) dX12_circleOf_9 (by decide +kernel) ?_ ?_
    · refine V_exit r6 ?_
      refine V_iload_n (pc := 24) dX12_circleOf_24 rfl rfl ?_
      exact V_ireti (pc := 25) dX12_circleOf_25 rfl (hk := fun h => h)
    · refine V_aload_n (pc := 12) dX12_circleOf_12 rfl rfl ?_
      refine V_iload_n (pc := 13) dX12_circleOf_13 rfl rfl ?_
      refine V_callVpi (pc := 14) (As := [.int a6_1]) (rest := []) (c_X12_widened w n a6_1 σ) cw_X12_351 rfl rfl dX12_circleOf_14 kc_171 ci_12 ⟨Nat.le_of_ble_eq_true rfl, Nat.le_of_ble_eq_true rfl⟩ rfl rfl (Nat.le_of_ble_eq_true rfl) (Nat.le_of_ble_eq_true rfl) (Nat.le_of_ble_eq_true rfl) rfl (fun q14 => ?_)
      refine V_istore_n (pc := 17) (vs' := [some (.ref (wB w + 171)), none, some (.int q14), some (.int a6_2)]) dX12_circleOf_17 rfl (Nat.le_of_ble_eq_true rfl) (Nat.le_of_ble_eq_true rfl) rfl ?_
      refine V_iincC (pc := 18) (vs' := [some (.ref (wB w + 171)), none, some (.int q14), some (.int (a6_2 + (1 : Int32)))]) dX12_circleOf_18 (Nat.le_of_ble_eq_true rfl) rfl ic_1 rfl ?_
      refine V_goto (pc := 21) (tgt := 6) dX12_circleOf_21 (by decide +kernel) ?_
      exact V_back (b6 (q14, (a6_2 + (1 : Int32))))
  refine V_iconst (pc := 0) dX12_circleOf_0 ic_1 ?_
  refine V_iload_n (pc := 1) dX12_circleOf_1 rfl rfl ?_
  refine V_ishl (pc := 2) dX12_circleOf_2 ?_
  refine V_istore_n (pc := 3) (vs' := [some (.ref (wB w + 171)), some (.int p1), some (.int (shlI (1 : Int32) p1)), none]) dX12_circleOf_3 rfl (Nat.le_of_ble_eq_true rfl) (Nat.le_of_ble_eq_true rfl) rfl ?_
  refine V_iconst (pc := 4) dX12_circleOf_4 ic_0 ?_
  refine V_istore_n (pc := 5) (vs' := [some (.ref (wB w + 171)), some (.int p1), some (.int (shlI (1 : Int32) p1)), some (.int (0 : Int32))]) dX12_circleOf_5 rfl (Nat.le_of_ble_eq_true rfl) (Nat.le_of_ble_eq_true rfl) rfl ?_
  refine V_sub (vs' := [some (.ref (wB w + 171)), none, some (.int (shlI (1 : Int32) p1)), some (.int (0 : Int32))]) (show vless _ _ from ⟨rfl, ⟨rfl, ⟨rfl, trivial⟩⟩⟩) rfl ?_
  exact hL6 n ((shlI (1 : Int32) p1), (0 : Int32))
def J_X12_likesMost_20 (n : Nat) (t0 : Int32) (σ : MS) : Option (Int32) := some t0
def f_X12_likesMost (n : Nat) (p1 : Int32) (σ : MS) : Option (Int32) := ((f_X12_mostOf n p1 σ).bind (fun q2 => (if 0 ≤ q2 then ((f_X12_likes p1 q2 σ).bind (fun q17 => J_X12_likesMost_20 n q17 σ)) else J_X12_likesMost_20 n (0 : Int32) σ)))
set_option maxRecDepth 20000 in
set_option maxHeartbeats 2000000 in
theorem c_X12_likesMost (w : TG) (n : Nat) (p1 : Int32) (σ : MS) : MC m_X12_likesMost w [.ref (wB w + 171), .int p1] σ ((f_X12_likesMost n p1 σ).map (fun r => (r, σ))) := by
  refine V_methp (by decide +kernel) (Nat.le_of_ble_eq_true rfl) (by intro v hv; simp only [List.mem_cons, List.not_mem_nil, or_false] at hv; rcases hv with rfl | rfl <;> rfl) (fun g x => ?_)
  show VV m_X12_likesMost w g 0 0 (QM m_X12_likesMost w g x) (fun b : Int32 => (b, σ) = x) 0 [some (.ref (wB w + 171)), some (.int p1), none] [] σ (f_X12_likesMost n p1 σ)
  have hJ20 : ∀ (t0 : Int32), VV m_X12_likesMost w g 0 0 (QM m_X12_likesMost w g x) (fun b : Int32 => (b, σ) = x) 20 [none, none, none] [.int t0] σ (J_X12_likesMost_20 n t0 σ) := by
    intro t0
    exact V_ireti (pc := 20) dX12_likesMost_20 rfl (hk := fun h => h)
  refine V_aload_n (pc := 0) dX12_likesMost_0 rfl rfl ?_
  refine V_iload_n (pc := 1) dX12_likesMost_1 rfl rfl ?_
  refine V_callVpi (pc := 2) (As := [.int p1]) (rest := []) (c_X12_mostOf w n p1 σ) cw_X12_354 rfl rfl dX12_likesMost_2 kc_171 ci_12 ⟨Nat.le_of_ble_eq_true rfl, Nat.le_of_ble_eq_true rfl⟩ rfl rfl (Nat.le_of_ble_eq_true rfl) (Nat.le_of_ble_eq_true rfl) (Nat.le_of_ble_eq_true rfl) rfl (fun q2 => ?_)
  refine V_istore_n (pc := 5) (vs' := [some (.ref (wB w + 171)), some (.int p1), some (.int q2)]) dX12_likesMost_5 rfl (Nat.le_of_ble_eq_true rfl) (Nat.le_of_ble_eq_true rfl) rfl ?_
  refine V_iload_n (pc := 6) dX12_likesMost_6 rfl rfl ?_
  refine V_if_ge (pc := 7) (tgt := 14) dX12_likesMost_7 (by decide +kernel) ?_ ?_
  · refine V_aload_n (pc := 14) dX12_likesMost_14 rfl rfl ?_
    refine V_iload_n (pc := 15) dX12_likesMost_15 rfl rfl ?_
    refine V_iload_n (pc := 16) dX12_likesMost_16 rfl rfl ?_
    refine V_callVpi (pc := 17) (As := [.int p1, .int q2]) (rest := []) (c_X12_likes w p1 q2 σ) cw_X12_272 rfl rfl dX12_likesMost_17 kc_171 ci_12 ⟨Nat.le_of_ble_eq_true rfl, Nat.le_of_ble_eq_true rfl⟩ rfl rfl (Nat.le_of_ble_eq_true rfl) (Nat.le_of_ble_eq_true rfl) (Nat.le_of_ble_eq_true rfl) rfl (fun q17 => ?_)
    refine V_sub (vs' := [none, none, none]) (show vless _ _ from trivial) rfl ?_
    exact hJ20 q17
  · refine V_iconst (pc := 10) dX12_likesMost_10 ic_0 ?_
    refine V_goto (pc := 11) (tgt := 20) dX12_likesMost_11 (by decide +kernel) ?_
    refine V_sub (vs' := [none, none, none]) (show vless _ _ from trivial) rfl ?_
    exact hJ20 (0 : Int32)
def J_X12_isGladder_24 (n : Nat) (t0 : Int32) (σ : MS) : Option (Int32) := (if t0 = 0 ∨ t0 = 1 then some t0 else none)
def J_X12_isGladder_23 (n : Nat)  (σ : MS) : Option (Int32) := J_X12_isGladder_24 n (0 : Int32) σ
def f_X12_isGladder (n : Nat) (p1 : Int32) (p2 : Int32) (σ : MS) : Option (Int32) := (if p1 = p2 then J_X12_isGladder_23 n  σ else ((f_X12_likes p1 p2 σ).bind (fun q8 => ((f_X12_likesMost n p1 σ).bind (fun q13 => (if q8 ≤ q13 then J_X12_isGladder_23 n  σ else J_X12_isGladder_24 n (1 : Int32) σ))))))
set_option maxRecDepth 20000 in
set_option maxHeartbeats 2000000 in
theorem c_X12_isGladder (w : TG) (n : Nat) (p1 : Int32) (p2 : Int32) (σ : MS) : MC m_X12_isGladder w [.ref (wB w + 171), .int p1, .int p2] σ ((f_X12_isGladder n p1 p2 σ).map (fun r => (r, σ))) := by
  refine V_methp (by decide +kernel) (Nat.le_of_ble_eq_true rfl) (by intro v hv; simp only [List.mem_cons, List.not_mem_nil, or_false] at hv; rcases hv with rfl | rfl | rfl <;> rfl) (fun g x => ?_)
  show VV m_X12_isGladder w g 0 0 (QM m_X12_isGladder w g x) (fun b : Int32 => (b, σ) = x) 0 [some (.ref (wB w + 171)), some (.int p1), some (.int p2)] [] σ (f_X12_isGladder n p1 p2 σ)
  have hJ24 : ∀ (t0 : Int32), VV m_X12_isGladder w g 0 0 (QM m_X12_isGladder w g x) (fun b : Int32 => (b, σ) = x) 24 [none, none, none] [.int t0] σ (J_X12_isGladder_24 n t0 σ) := by
    intro t0
    exact V_iretZ (pc := 24) dX12_isGladder_24 rfl (hk := fun h => h)
  have hJ23 : ∀ (_ : Unit), VV m_X12_isGladder w g 0 0 (QM m_X12_isGladder w g x) (fun b : Int32 => (b, σ) = x) 23 [none, none, none] [] σ (J_X12_isGladder_23 n  σ) := by
    intro _
    refine V_iconst (pc := 23) dX12_isGladder_23 ic_0 ?_
    exact hJ24 (0 : Int32)
  refine V_iload_n (pc := 0) dX12_isGladder_0 rfl rfl ?_
  refine V_iload_n (pc := 1) dX12_isGladder_1 rfl rfl ?_
  refine V_icmp_eq (pc := 2) (tgt := 23) dX12_isGladder_2 (by decide +kernel) ?_ ?_
  · refine V_sub (vs' := [none, none, none]) (show vless _ _ from trivial) rfl ?_
    exact hJ23 ()
  · refine V_aload_n (pc := 5) dX12_isGladder_5 rfl rfl ?_
    refine V_iload_n (pc := 6) dX12_isGladder_6 rfl rfl ?_
    refine V_iload_n (pc := 7) dX12_isGladder_7 rfl rfl ?_
    refine V_callVpi (pc := 8) (As := [.int p1, .int p2]) (rest := []) (c_X12_likes w p1 p2 σ) cw_X12_272 rfl rfl dX12_isGladder_8 kc_171 ci_12 ⟨Nat.le_of_ble_eq_true rfl, Nat.le_of_ble_eq_true rfl⟩ rfl rfl (Nat.le_of_ble_eq_true rfl) (Nat.le_of_ble_eq_true rfl) (Nat.le_of_ble_eq_true rfl) rfl (fun q8 => ?_)
    refine V_aload_n (pc := 11) dX12_isGladder_11 rfl rfl ?_
    refine V_iload_n (pc := 12) dX12_isGladder_12 rfl rfl ?_
    refine V_callVpi (pc := 13) (As := [.int p1]) (rest := [.int q8]) (c_X12_likesMost w n p1 σ) cw_X12_357 rfl rfl dX12_isGladder_13 kc_171 ci_12 ⟨Nat.le_of_ble_eq_true rfl, Nat.le_of_ble_eq_true rfl⟩ rfl rfl (Nat.le_of_ble_eq_true rfl) (Nat.le_of_ble_eq_true rfl) (Nat.le_of_ble_eq_true rfl) rfl (fun q13 => ?_)
    refine V_icmp_le (pc := 16) (tgt := 23) dX12_isGladder_16 (by decide +kernel) ?_ ?_
    · refine V_sub (vs' := [none, none, none]) (show vless _ _ from trivial) rfl ?_
      exact hJ23 ()
    · refine V_iconst (pc := 19) dX12_isGladder_19 ic_1 ?_
      refine V_goto (pc := 20) (tgt := 24) dX12_isGladder_20 (by decide +kernel) ?_
      refine V_sub (vs' := [none, none, none]) (show vless _ _ from trivial) rfl ?_
      exact hJ24 (1 : Int32)
def J_X12_gladderBy_29 (n : Nat) (v1 : Int32) (v3 : Int32) (t0 : Int32) (t1 : Int32) (σ : MS) : Option ((Int32 × Int32) ⊕ (Int32)) := some (.inl ((t1 ||| t0), (v3 + (1 : Int32))))
def L_X12_gladderBy_4 (n : Nat) (v1 : Int32) (σ : MS) (a4 : Int32 × Int32) : Option ((Int32 × Int32) ⊕ (Int32)) := ((f_X12_people  σ).bind (fun q6 => (if q6 ≤ a4.2 then (some a4.1).map Sum.inr else ((f_X12_isGladder n v1 a4.2 σ).bind (fun q16 => (if q16 = 0 then J_X12_gladderBy_29 n v1 a4.2 (0 : Int32) a4.1 σ else J_X12_gladderBy_29 n v1 a4.2 (shlI (1 : Int32) a4.2) a4.1 σ))))))
def f_X12_gladderBy (n : Nat) (p1 : Int32) (σ : MS) : Option (Int32) := itr (L_X12_gladderBy_4 n p1 σ) n ((0 : Int32), (0 : Int32))
set_option maxRecDepth 20000 in
set_option maxHeartbeats 2000000 in
theorem c_X12_gladderBy (w : TG) (n : Nat) (p1 : Int32) (σ : MS) : MC m_X12_gladderBy w [.ref (wB w + 171), .int p1] σ ((f_X12_gladderBy n p1 σ).map (fun r => (r, σ))) := by
  refine V_methp (by decide +kernel) (Nat.le_of_ble_eq_true rfl) (by intro v hv; simp only [List.mem_cons, List.not_mem_nil, or_false] at hv; rcases hv with rfl | rfl <;> rfl) (fun g x => ?_)
  show VV m_X12_gladderBy w g 0 0 (QM m_X12_gladderBy w g x) (fun b : Int32 => (b, σ) = x) 0 [some (.ref (wB w + 171)), some (.int p1), none, none] [] σ (f_X12_gladderBy n p1 σ)
  have hL4 : ∀  (n0 : Nat) (a : Int32 × Int32), VV m_X12_gladderBy w g 0 0 (QM m_X12_gladderBy w g x) (fun b : Int32 => (b, σ) = x) 4 [some (.ref (wB w + 171)), some (.int p1), some (.int a.1), some (.int a.2)] [] σ (itr (L_X12_gladderBy_4 n p1 σ) n0 a) := by
    refine V_itr (vf := fun a : Int32 × Int32 => [some (.ref (wB w + 171)), some (.int p1), some (.int a.1), some (.int a.2)]) (sf := fun a : Int32 × Int32 => σ) (fun κ4 b4 r4 a4 => ?_)
    obtain ⟨a4_1, a4_2⟩ := a4
    show VV m_X12_gladderBy w g 0 0 (QM m_X12_gladderBy w g x) κ4 4 [some (.ref (wB w + 171)), some (.int p1), some (.int a4_1), some (.int a4_2)] [] σ (L_X12_gladderBy_4 n p1 σ (a4_1, a4_2))
    have hJ29 : ∀ (v3 : Int32) (t0 : Int32) (t1 : Int32), VV m_X12_gladderBy w g 0 0 (QM m_X12_gladderBy w g x) κ4 29 [some (.ref (wB w + 171)), some (.int p1), none, some (.int v3)] [.int t0, .int t1] σ (J_X12_gladderBy_29 n p1 v3 t0 t1 σ) := by
      intro v3 t0 t1
      refine V_ior (pc := 29) dX12_gladderBy_29 ?_
      refine V_istore_n (pc := 30) (vs' := [some (.ref (wB w + 171)), some (.int p1), some (.int (t1 ||| t0)), some (.int v3)]) dX12_gladderBy_30 rfl (Nat.le_of_ble_eq_true rfl) (Nat.le_of_ble_eq_true rfl) rfl ?_
      refine V_iincC (pc := 31) (vs' := [some (.ref (wB w + 171)), some (.int p1), some (.int (t1 ||| t0)), some (.int (v3 + (1 : Int32)))]) dX12_gladderBy_31 (Nat.le_of_ble_eq_true rfl) rfl ic_1 rfl ?_
      refine V_goto (pc := 34) (tgt := 4) dX12_gladderBy_34 (by decide +kernel) ?_
      exact V_back (b4 ((t1 ||| t0), (v3 + (1 : Int32))))
    refine V_iload_n (pc := 4) dX12_gladderBy_4 rfl rfl ?_
    refine V_aload_n (pc := 5) dX12_gladderBy_5 rfl rfl ?_
    refine V_callVpi (pc := 6) (As := []) (rest := [.int a4_2]) (c_X12_people w  σ) cw_X12_58 rfl rfl dX12_gladderBy_6 kc_171 ci_12 ⟨Nat.le_of_ble_eq_true rfl, Nat.le_of_ble_eq_true rfl⟩ rfl rfl (Nat.le_of_ble_eq_true rfl) (Nat.le_of_ble_eq_true rfl) (Nat.le_of_ble_eq_true rfl) rfl (fun q6 => ?_)
    refine V_icmp_ge (pc := 9) (tgt := 37) dX12_gladderBy_9 (by decide +kernel) ?_ ?_
    · refine V_exit r4 ?_
      refine V_iload_n (pc := 37) dX12_gladderBy_37 rfl rfl ?_
      exact V_ireti (pc := 38) dX12_gladderBy_38 rfl (hk := fun h => h)
    · refine V_iload_n (pc := 12) dX12_gladderBy_12 rfl rfl ?_
      refine V_aload_n (pc := 13) dX12_gladderBy_13 rfl rfl ?_
      refine V_iload_n (pc := 14) dX12_gladderBy_14 rfl rfl ?_
      refine V_iload_n (pc := 15) dX12_gladderBy_15 rfl rfl ?_
      refine V_callVpi (pc := 16) (As := [.int p1, .int a4_2]) (rest := [.int a4_1]) (c_X12_isGladder w n p1 a4_2 σ) cw_X12_360 rfl rfl dX12_gladderBy_16 kc_171 ci_12 ⟨Nat.le_of_ble_eq_true rfl, Nat.le_of_ble_eq_true rfl⟩ rfl rfl (Nat.le_of_ble_eq_true rfl) (Nat.le_of_ble_eq_true rfl) (Nat.le_of_ble_eq_true rfl) rfl (fun q16 => ?_)
      refine V_if_eq (pc := 19) (tgt := 28) dX12_gladderBy_19 (by decide +kernel) ?_ ?_
      · refine V_iconst (pc := 28) dX12_gladderBy_28 ic_0 ?_
        refine V_sub (vs' := [some (.ref (wB w + 171)), some (.int p1), none, some (.int a4_2)]) (show vless _ _ from ⟨rfl, ⟨rfl, ⟨rfl, trivial⟩⟩⟩) rfl ?_
        exact hJ29 a4_2 (0 : Int32) a4_1
      · refine V_iconst (pc := 22) dX12_gladderBy_22 ic_1 ?_
        refine V_iload_n (pc := 23) dX12_gladderBy_23 rfl rfl ?_
        refine V_ishl (pc := 24) dX12_gladderBy_24 ?_
        refine V_goto (pc := 25) (tgt := 29) dX12_gladderBy_25 (by decide +kernel) ?_
        refine V_sub (vs' := [some (.ref (wB w + 171)), some (.int p1), none, some (.int a4_2)]) (show vless _ _ from ⟨rfl, ⟨rfl, ⟨rfl, trivial⟩⟩⟩) rfl ?_
        exact hJ29 a4_2 (shlI (1 : Int32) a4_2) a4_1
  refine V_iconst (pc := 0) dX12_gladderBy_0 ic_0 ?_
  refine V_istore_n (pc := 1) (vs' := [some (.ref (wB w + 171)), some (.int p1), some (.int (0 : Int32)), none]) dX12_gladderBy_1 rfl (Nat.le_of_ble_eq_true rfl) (Nat.le_of_ble_eq_true rfl) rfl ?_
  refine V_iconst (pc := 2) dX12_gladderBy_2 ic_0 ?_
  refine V_istore_n (pc := 3) (vs' := [some (.ref (wB w + 171)), some (.int p1), some (.int (0 : Int32)), some (.int (0 : Int32))]) dX12_gladderBy_3 rfl (Nat.le_of_ble_eq_true rfl) (Nat.le_of_ble_eq_true rfl) rfl ?_
  exact hL4 n ((0 : Int32), (0 : Int32))
def J_X12_person_41 (n : Nat)  (σ : MS) : Option (Int32 × MS) := some ((0 : Int32), σ)
def J_X12_person_34 (n : Nat) (v1 : Int32) (v2 : Int32) (t0 : Int32) (σ : MS) : Option (Int32 × MS) := ((f_X12_throwsIf t0 (2 : Int32) σ).bind (fun q35 => (if q35.1 = 0 then (if v2 = (4 : Int32) then ((f_X12_boundTo n v1 q35.2).bind (fun q78 => some (q78, q35.2))) else (if v2 = (5 : Int32) then ((f_X12_circleOf n v1 q35.2).bind (fun q84 => some (q84, q35.2))) else (if v2 = (6 : Int32) then ((f_X12_gladderBy n v1 q35.2).bind (fun q90 => some (q90, q35.2))) else (if v2 = (7 : Int32) then ((f_X12_mostOf n v1 q35.2).bind (fun q96 => some (q96, q35.2))) else ((f_X12_of v1 v2 q35.2).bind (fun q103 => some (q103, q35.2))))))) else J_X12_person_41 n  q35.2)))
def f_X12_person (n : Nat) (p1 : Int32) (p2 : Int32) (σ : MS) : Option (Int32 × MS) := (ltM (mu σ 171 0 (0 : Int32)) (fun s2 => ((f_X12_noPerson p1 s2).bind (fun q8 => ((f_X12_throwsIf q8 (1 : Int32) s2).bind (fun q12 => (if q12.1 = 0 then ((f_X12_in p2 (0 : Int32) (7 : Int32) q12.2).bind (fun q23 => (if q23 = 0 then J_X12_person_34 n p1 p2 (1 : Int32) q12.2 else J_X12_person_34 n p1 p2 (0 : Int32) q12.2))) else J_X12_person_41 n  q12.2)))))))
set_option maxRecDepth 20000 in
set_option maxHeartbeats 2000000 in
theorem c_X12_person (w : TG) (n : Nat) (p1 : Int32) (p2 : Int32) (σ : MS) : MC m_X12_person w [.ref (wB w + 171), .int p1, .int p2] σ (f_X12_person n p1 p2 σ) := by
  refine V_meth (by decide +kernel) (Nat.le_of_ble_eq_true rfl) (by intro v hv; simp only [List.mem_cons, List.not_mem_nil, or_false] at hv; rcases hv with rfl | rfl | rfl <;> rfl) (fun g x => ?_)
  show VV m_X12_person w g 0 0 (QM m_X12_person w g x) (fun b : Int32 × MS => b = x) 0 [some (.ref (wB w + 171)), some (.int p1), some (.int p2)] [] σ (f_X12_person n p1 p2 σ)
  have hJ41 : ∀ (σ : MS), VV m_X12_person w g 0 0 (QM m_X12_person w g x) (fun b : Int32 × MS => b = x) 41 [none, none, none] [] σ (J_X12_person_41 n  σ) := by
    intro σ
    refine V_iconst (pc := 41) dX12_person_41 ic_0 ?_
    exact V_ireti (pc := 42) dX12_person_42 rfl (hk := fun h => h)
  have hJ34 : ∀ (t0 : Int32) (σ : MS), VV m_X12_person w g 0 0 (QM m_X12_person w g x) (fun b : Int32 × MS => b = x) 34 [some (.ref (wB w + 171)), some (.int p1), some (.int p2)] [.int t0, .ref (wB w + 171)] σ (J_X12_person_34 n p1 p2 t0 σ) := by
    intro t0 σ
    refine V_iconst (pc := 34) dX12_person_34 ic_2 ?_
    refine V_callVi (pc := 35) (As := [.int t0, .int (2 : Int32)]) (rest := []) (c_X12_throwsIf w t0 (2 : Int32) σ) cw_X12_257 rfl rfl dX12_person_35 kc_171 ci_12 ⟨Nat.le_of_ble_eq_true rfl, Nat.le_of_ble_eq_true rfl⟩ rfl rfl (Nat.le_of_ble_eq_true rfl) (Nat.le_of_ble_eq_true rfl) (Nat.le_of_ble_eq_true rfl) rfl (fun q35 => ?_)
    refine V_if_eq (pc := 38) (tgt := 43) dX12_person_38 (by decide +kernel) ?_ ?_
    · refine V_iload_n (pc := 43) dX12_person_43 rfl rfl ?_
      refine V_ite (c := p2 = (4 : Int32)) (fun hx => ?_) (fun hx4 => ?_)
      · refine V_tabIn (pc := 44) (x := p2) (tgt := 76) dX12_person_44 (by rw [hx]; decide) (by rw [hx]; decide) (by rw [hx]; rfl) (by decide) ?_
        refine V_aload_n (pc := 76) dX12_person_76 rfl rfl ?_
        refine V_iload_n (pc := 77) dX12_person_77 rfl rfl ?_
        refine V_callVpi (pc := 78) (As := [.int p1]) (rest := []) (c_X12_boundTo w n p1 q35.2) cw_X12_348 rfl rfl dX12_person_78 kc_171 ci_12 ⟨Nat.le_of_ble_eq_true rfl, Nat.le_of_ble_eq_true rfl⟩ rfl rfl (Nat.le_of_ble_eq_true rfl) (Nat.le_of_ble_eq_true rfl) (Nat.le_of_ble_eq_true rfl) rfl (fun q78 => ?_)
        exact V_ireti (pc := 81) dX12_person_81 rfl (hk := fun h => h)
      refine V_ite (c := p2 = (5 : Int32)) (fun hx => ?_) (fun hx5 => ?_)
      · refine V_tabIn (pc := 44) (x := p2) (tgt := 82) dX12_person_44 (by rw [hx]; decide) (by rw [hx]; decide) (by rw [hx]; rfl) (by decide) ?_
        refine V_aload_n (pc := 82) dX12_person_82 rfl rfl ?_
        refine V_iload_n (pc := 83) dX12_person_83 rfl rfl ?_
        refine V_callVpi (pc := 84) (As := [.int p1]) (rest := []) (c_X12_circleOf w n p1 q35.2) cw_X12_363 rfl rfl dX12_person_84 kc_171 ci_12 ⟨Nat.le_of_ble_eq_true rfl, Nat.le_of_ble_eq_true rfl⟩ rfl rfl (Nat.le_of_ble_eq_true rfl) (Nat.le_of_ble_eq_true rfl) (Nat.le_of_ble_eq_true rfl) rfl (fun q84 => ?_)
        exact V_ireti (pc := 87) dX12_person_87 rfl (hk := fun h => h)
      refine V_ite (c := p2 = (6 : Int32)) (fun hx => ?_) (fun hx6 => ?_)
      · refine V_tabIn (pc := 44) (x := p2) (tgt := 88) dX12_person_44 (by rw [hx]; decide) (by rw [hx]; decide) (by rw [hx]; rfl) (by decide) ?_
        refine V_aload_n (pc := 88) dX12_person_88 rfl rfl ?_
        refine V_iload_n (pc := 89) dX12_person_89 rfl rfl ?_
        refine V_callVpi (pc := 90) (As := [.int p1]) (rest := []) (c_X12_gladderBy w n p1 q35.2) cw_X12_366 rfl rfl dX12_person_90 kc_171 ci_12 ⟨Nat.le_of_ble_eq_true rfl, Nat.le_of_ble_eq_true rfl⟩ rfl rfl (Nat.le_of_ble_eq_true rfl) (Nat.le_of_ble_eq_true rfl) (Nat.le_of_ble_eq_true rfl) rfl (fun q90 => ?_)
        exact V_ireti (pc := 93) dX12_person_93 rfl (hk := fun h => h)
      refine V_ite (c := p2 = (7 : Int32)) (fun hx => ?_) (fun hx7 => ?_)
      · refine V_tabIn (pc := 44) (x := p2) (tgt := 94) dX12_person_44 (by rw [hx]; decide) (by rw [hx]; decide) (by rw [hx]; rfl) (by decide) ?_
        refine V_aload_n (pc := 94) dX12_person_94 rfl rfl ?_
        refine V_iload_n (pc := 95) dX12_person_95 rfl rfl ?_
        refine V_callVpi (pc := 96) (As := [.int p1]) (rest := []) (c_X12_mostOf w n p1 q35.2) cw_X12_354 rfl rfl dX12_person_96 kc_171 ci_12 ⟨Nat.le_of_ble_eq_true rfl, Nat.le_of_ble_eq_true rfl⟩ rfl rfl (Nat.le_of_ble_eq_true rfl) (Nat.le_of_ble_eq_true rfl) (Nat.le_of_ble_eq_true rfl) rfl (fun q96 => ?_)
        exact V_ireti (pc := 99) dX12_person_99 rfl (hk := fun h => h)
      refine V_tabOut (pc := 44) (tgt := 100) dX12_person_44 (tabout p2 4 7 (by decide) (by decide) (fun k h1 h2 => ?_)) (by decide) ?_
      · rcases (show k = 4 ∨ k = 5 ∨ k = 6 ∨ k = 7 by omega) with rfl | rfl | rfl | rfl
        · exact hx4
        · exact hx5
        · exact hx6
        · exact hx7
      · refine V_aload_n (pc := 100) dX12_person_100 rfl rfl ?_
        refine V_iload_n (pc := 101) dX12_person_101 rfl rfl ?_
        refine V_iload_n (pc := 102) dX12_person_102 rfl rfl ?_
        refine V_callVpi (pc := 103) (As := [.int p1, .int p2]) (rest := []) (c_X12_of w p1 p2 q35.2) cw_X12_73 rfl rfl dX12_person_103 kc_171 ci_12 ⟨Nat.le_of_ble_eq_true rfl, Nat.le_of_ble_eq_true rfl⟩ rfl rfl (Nat.le_of_ble_eq_true rfl) (Nat.le_of_ble_eq_true rfl) (Nat.le_of_ble_eq_true rfl) rfl (fun q103 => ?_)
        exact V_ireti (pc := 106) dX12_person_106 rfl (hk := fun h => h)
    · refine V_sub (vs' := [none, none, none]) (show vless _ _ from trivial) rfl ?_
      exact hJ41 q35.2
  refine V_aload_n (pc := 0) dX12_person_0 rfl rfl ?_
  refine V_iconst (pc := 1) dX12_person_1 ic_0 ?_
  refine V_puti (pc := 2) fp_X12_3 rfl dX12_person_2 kc_171 rf_12_0_171 (fun s2 => ?_)
  refine V_aload_n (pc := 5) dX12_person_5 rfl rfl ?_
  refine V_aload_n (pc := 6) dX12_person_6 rfl rfl ?_
  refine V_iload_n (pc := 7) dX12_person_7 rfl rfl ?_
  refine V_callVpi (pc := 8) (As := [.int p1]) (rest := [.ref (wB w + 171)]) (c_X12_noPerson w p1 s2) cw_X12_297 rfl rfl dX12_person_8 kc_171 ci_12 ⟨Nat.le_of_ble_eq_true rfl, Nat.le_of_ble_eq_true rfl⟩ rfl rfl (Nat.le_of_ble_eq_true rfl) (Nat.le_of_ble_eq_true rfl) (Nat.le_of_ble_eq_true rfl) rfl (fun q8 => ?_)
  refine V_iconst (pc := 11) dX12_person_11 ic_1 ?_
  refine V_callVi (pc := 12) (As := [.int q8, .int (1 : Int32)]) (rest := []) (c_X12_throwsIf w q8 (1 : Int32) s2) cw_X12_257 rfl rfl dX12_person_12 kc_171 ci_12 ⟨Nat.le_of_ble_eq_true rfl, Nat.le_of_ble_eq_true rfl⟩ rfl rfl (Nat.le_of_ble_eq_true rfl) (Nat.le_of_ble_eq_true rfl) (Nat.le_of_ble_eq_true rfl) rfl (fun q12 => ?_)
  refine V_if_ne (pc := 15) (tgt := 41) dX12_person_15 (by decide +kernel) ?_ ?_
  · refine V_sub (vs' := [none, none, none]) (show vless _ _ from trivial) rfl ?_
    exact hJ41 q12.2
  · refine V_aload_n (pc := 18) dX12_person_18 rfl rfl ?_
    refine V_iload_n (pc := 19) dX12_person_19 rfl rfl ?_
    refine V_iconst (pc := 20) dX12_person_20 ic_0 ?_
    refine V_bipush (pc := 21) dX12_person_21 bp_7 ?_
    refine V_callSpi (pc := 23) (As := [.int p2, .int (0 : Int32), .int (7 : Int32)]) (rest := [.ref (wB w + 171)]) (c_X12_in w p2 (0 : Int32) (7 : Int32) q12.2) cs_X12_79 rfl rfl dX12_person_23 ⟨Nat.le_of_ble_eq_true rfl, Nat.le_of_ble_eq_true rfl⟩ rfl rfl (Nat.le_of_ble_eq_true rfl) (Nat.le_of_ble_eq_true rfl) (Nat.le_of_ble_eq_true rfl) rfl (fun q23 => ?_)
    refine V_if_ne (pc := 26) (tgt := 33) dX12_person_26 (by decide +kernel) ?_ ?_
    · refine V_iconst (pc := 33) dX12_person_33 ic_0 ?_
      exact hJ34 (0 : Int32) q12.2
    · refine V_iconst (pc := 29) dX12_person_29 ic_1 ?_
      refine V_goto (pc := 30) (tgt := 34) dX12_person_30 (by decide +kernel) ?_
      exact hJ34 (1 : Int32) q12.2
def J_X12_liking_47 (t0 : Int32) (σ : MS) : Option (Int32 × MS) := some (t0, σ)
def J_X12_liking_37  (σ : MS) : Option (Int32 × MS) := J_X12_liking_47 (0 : Int32) σ
def J_X12_liking_30 (v1 : Int32) (v2 : Int32) (t0 : Int32) (σ : MS) : Option (Int32 × MS) := ((f_X12_throwsIf t0 (2 : Int32) σ).bind (fun q31 => (if q31.1 = 0 then ((f_X12_likes v1 v2 q31.2).bind (fun q44 => J_X12_liking_47 q44 q31.2)) else J_X12_liking_37  q31.2)))
def f_X12_liking (p1 : Int32) (p2 : Int32) (σ : MS) : Option (Int32 × MS) := (ltM (mu σ 171 0 (0 : Int32)) (fun s2 => ((f_X12_noBoth p1 p2 s2).bind (fun q9 => ((f_X12_throwsIf q9 (1 : Int32) s2).bind (fun q13 => (if q13.1 = 0 then (if p1 = p2 then J_X12_liking_30 p1 p2 (1 : Int32) q13.2 else J_X12_liking_30 p1 p2 (0 : Int32) q13.2) else J_X12_liking_37  q13.2)))))))
set_option maxRecDepth 20000 in
set_option maxHeartbeats 2000000 in
theorem c_X12_liking (w : TG) (p1 : Int32) (p2 : Int32) (σ : MS) : MC m_X12_liking w [.ref (wB w + 171), .int p1, .int p2] σ (f_X12_liking p1 p2 σ) := by
  refine V_meth (by decide +kernel) (Nat.le_of_ble_eq_true rfl) (by intro v hv; simp only [List.mem_cons, List.not_mem_nil, or_false] at hv; rcases hv with rfl | rfl | rfl <;> rfl) (fun g x => ?_)
  show VV m_X12_liking w g 0 0 (QM m_X12_liking w g x) (fun b : Int32 × MS => b = x) 0 [some (.ref (wB w + 171)), some (.int p1), some (.int p2)] [] σ (f_X12_liking p1 p2 σ)
  have hJ47 : ∀ (t0 : Int32) (σ : MS), VV m_X12_liking w g 0 0 (QM m_X12_liking w g x) (fun b : Int32 × MS => b = x) 47 [none, none, none] [.int t0] σ (J_X12_liking_47 t0 σ) := by
    intro t0 σ
    exact V_ireti (pc := 47) dX12_liking_47 rfl (hk := fun h => h)
  have hJ37 : ∀ (σ : MS), VV m_X12_liking w g 0 0 (QM m_X12_liking w g x) (fun b : Int32 × MS => b = x) 37 [none, none, none] [] σ (J_X12_liking_37  σ) := by
    intro σ
    refine V_iconst (pc := 37) dX12_liking_37 ic_0 ?_
    refine V_goto (pc := 38) (tgt := 47) dX12_liking_38 (by decide +kernel) ?_
    exact hJ47 (0 : Int32) σ
  have hJ30 : ∀ (t0 : Int32) (σ : MS), VV m_X12_liking w g 0 0 (QM m_X12_liking w g x) (fun b : Int32 × MS => b = x) 30 [some (.ref (wB w + 171)), some (.int p1), some (.int p2)] [.int t0, .ref (wB w + 171)] σ (J_X12_liking_30 p1 p2 t0 σ) := by
    intro t0 σ
    refine V_iconst (pc := 30) dX12_liking_30 ic_2 ?_
    refine V_callVi (pc := 31) (As := [.int t0, .int (2 : Int32)]) (rest := []) (c_X12_throwsIf w t0 (2 : Int32) σ) cw_X12_257 rfl rfl dX12_liking_31 kc_171 ci_12 ⟨Nat.le_of_ble_eq_true rfl, Nat.le_of_ble_eq_true rfl⟩ rfl rfl (Nat.le_of_ble_eq_true rfl) (Nat.le_of_ble_eq_true rfl) (Nat.le_of_ble_eq_true rfl) rfl (fun q31 => ?_)
    refine V_if_eq (pc := 34) (tgt := 41) dX12_liking_34 (by decide +kernel) ?_ ?_
    · refine V_aload_n (pc := 41) dX12_liking_41 rfl rfl ?_
      refine V_iload_n (pc := 42) dX12_liking_42 rfl rfl ?_
      refine V_iload_n (pc := 43) dX12_liking_43 rfl rfl ?_
      refine V_callVpi (pc := 44) (As := [.int p1, .int p2]) (rest := []) (c_X12_likes w p1 p2 q31.2) cw_X12_272 rfl rfl dX12_liking_44 kc_171 ci_12 ⟨Nat.le_of_ble_eq_true rfl, Nat.le_of_ble_eq_true rfl⟩ rfl rfl (Nat.le_of_ble_eq_true rfl) (Nat.le_of_ble_eq_true rfl) (Nat.le_of_ble_eq_true rfl) rfl (fun q44 => ?_)
      refine V_sub (vs' := [none, none, none]) (show vless _ _ from trivial) rfl ?_
      exact hJ47 q44 q31.2
    · refine V_sub (vs' := [none, none, none]) (show vless _ _ from trivial) rfl ?_
      exact hJ37 q31.2
  refine V_aload_n (pc := 0) dX12_liking_0 rfl rfl ?_
  refine V_iconst (pc := 1) dX12_liking_1 ic_0 ?_
  refine V_puti (pc := 2) fp_X12_3 rfl dX12_liking_2 kc_171 rf_12_0_171 (fun s2 => ?_)
  refine V_aload_n (pc := 5) dX12_liking_5 rfl rfl ?_
  refine V_aload_n (pc := 6) dX12_liking_6 rfl rfl ?_
  refine V_iload_n (pc := 7) dX12_liking_7 rfl rfl ?_
  refine V_iload_n (pc := 8) dX12_liking_8 rfl rfl ?_
  refine V_callVpi (pc := 9) (As := [.int p1, .int p2]) (rest := [.ref (wB w + 171)]) (c_X12_noBoth w p1 p2 s2) cw_X12_300 rfl rfl dX12_liking_9 kc_171 ci_12 ⟨Nat.le_of_ble_eq_true rfl, Nat.le_of_ble_eq_true rfl⟩ rfl rfl (Nat.le_of_ble_eq_true rfl) (Nat.le_of_ble_eq_true rfl) (Nat.le_of_ble_eq_true rfl) rfl (fun q9 => ?_)
  refine V_iconst (pc := 12) dX12_liking_12 ic_1 ?_
  refine V_callVi (pc := 13) (As := [.int q9, .int (1 : Int32)]) (rest := []) (c_X12_throwsIf w q9 (1 : Int32) s2) cw_X12_257 rfl rfl dX12_liking_13 kc_171 ci_12 ⟨Nat.le_of_ble_eq_true rfl, Nat.le_of_ble_eq_true rfl⟩ rfl rfl (Nat.le_of_ble_eq_true rfl) (Nat.le_of_ble_eq_true rfl) (Nat.le_of_ble_eq_true rfl) rfl (fun q13 => ?_)
  refine V_if_ne (pc := 16) (tgt := 37) dX12_liking_16 (by decide +kernel) ?_ ?_
  · refine V_sub (vs' := [none, none, none]) (show vless _ _ from trivial) rfl ?_
    exact hJ37 q13.2
  · refine V_aload_n (pc := 19) dX12_liking_19 rfl rfl ?_
    refine V_iload_n (pc := 20) dX12_liking_20 rfl rfl ?_
    refine V_iload_n (pc := 21) dX12_liking_21 rfl rfl ?_
    refine V_icmp_ne (pc := 22) (tgt := 29) dX12_liking_22 (by decide +kernel) ?_ ?_
    · refine V_iconst (pc := 29) dX12_liking_29 ic_0 ?_
      exact hJ30 (0 : Int32) q13.2
    · refine V_iconst (pc := 25) dX12_liking_25 ic_1 ?_
      refine V_goto (pc := 26) (tgt := 30) dX12_liking_26 (by decide +kernel) ?_
      exact hJ30 (1 : Int32) q13.2
def J_X12_bond_79 (t0 : Int32) (σ : MS) : Option (Int32 × MS) := some (t0, σ)
def J_X12_bond_37  (σ : MS) : Option (Int32 × MS) := some ((0 : Int32), σ)
def J_X12_bond_30 (v1 : Int32) (v2 : Int32) (v3 : Int32) (t0 : Int32) (σ : MS) : Option (Int32 × MS) := ((f_X12_throwsIf t0 (2 : Int32) σ).bind (fun q31 => (if q31.1 = 0 then (if v3 = 0 then ((f_X12_bondOf v1 v2 q31.2).bind (fun q46 => J_X12_bond_79 q46 q31.2)) else ((f_X12_holds v1 v2 q31.2).bind (fun q55 => (if q55 = 0 then J_X12_bond_79 (-1 : Int32) q31.2 else ((f_X12_both v1 v2 q31.2).bind (fun q70 => (if inb ((170 : Int32) + q70) 2172 then J_X12_bond_79 (q31.2 172 (ix ((170 : Int32) + q70))) q31.2 else none))))))) else J_X12_bond_37  q31.2)))
def f_X12_bond (p1 : Int32) (p2 : Int32) (p3 : Int32) (σ : MS) : Option (Int32 × MS) := (ltM (mu σ 171 0 (0 : Int32)) (fun s2 => ((f_X12_noBoth p1 p2 s2).bind (fun q9 => ((f_X12_throwsIf q9 (1 : Int32) s2).bind (fun q13 => (if q13.1 = 0 then (if p1 = p2 then J_X12_bond_30 p1 p2 p3 (1 : Int32) q13.2 else J_X12_bond_30 p1 p2 p3 (0 : Int32) q13.2) else J_X12_bond_37  q13.2)))))))
set_option maxRecDepth 20000 in
set_option maxHeartbeats 2000000 in
theorem c_X12_bond (w : TG) (p1 : Int32) (p2 : Int32) (p3 : Int32) (σ : MS) : MC m_X12_bond w [.ref (wB w + 171), .int p1, .int p2, .int p3] σ (f_X12_bond p1 p2 p3 σ) := by
  refine V_meth (by decide +kernel) (Nat.le_of_ble_eq_true rfl) (by intro v hv; simp only [List.mem_cons, List.not_mem_nil, or_false] at hv; rcases hv with rfl | rfl | rfl | rfl <;> rfl) (fun g x => ?_)
  show VV m_X12_bond w g 0 0 (QM m_X12_bond w g x) (fun b : Int32 × MS => b = x) 0 [some (.ref (wB w + 171)), some (.int p1), some (.int p2), some (.int p3)] [] σ (f_X12_bond p1 p2 p3 σ)
  have hJ79 : ∀ (t0 : Int32) (σ : MS), VV m_X12_bond w g 0 0 (QM m_X12_bond w g x) (fun b : Int32 × MS => b = x) 79 [none, none, none, none] [.int t0] σ (J_X12_bond_79 t0 σ) := by
    intro t0 σ
    exact V_ireti (pc := 79) dX12_bond_79 rfl (hk := fun h => h)
  have hJ37 : ∀ (σ : MS), VV m_X12_bond w g 0 0 (QM m_X12_bond w g x) (fun b : Int32 × MS => b = x) 37 [none, none, none, none] [] σ (J_X12_bond_37  σ) := by
    intro σ
    refine V_iconst (pc := 37) dX12_bond_37 ic_0 ?_
    exact V_ireti (pc := 38) dX12_bond_38 rfl (hk := fun h => h)
  have hJ30 : ∀ (t0 : Int32) (σ : MS), VV m_X12_bond w g 0 0 (QM m_X12_bond w g x) (fun b : Int32 × MS => b = x) 30 [some (.ref (wB w + 171)), some (.int p1), some (.int p2), some (.int p3)] [.int t0, .ref (wB w + 171)] σ (J_X12_bond_30 p1 p2 p3 t0 σ) := by
    intro t0 σ
    refine V_iconst (pc := 30) dX12_bond_30 ic_2 ?_
    refine V_callVi (pc := 31) (As := [.int t0, .int (2 : Int32)]) (rest := []) (c_X12_throwsIf w t0 (2 : Int32) σ) cw_X12_257 rfl rfl dX12_bond_31 kc_171 ci_12 ⟨Nat.le_of_ble_eq_true rfl, Nat.le_of_ble_eq_true rfl⟩ rfl rfl (Nat.le_of_ble_eq_true rfl) (Nat.le_of_ble_eq_true rfl) (Nat.le_of_ble_eq_true rfl) rfl (fun q31 => ?_)
    refine V_if_eq (pc := 34) (tgt := 39) dX12_bond_34 (by decide +kernel) ?_ ?_
    · refine V_iload_n (pc := 39) dX12_bond_39 rfl rfl ?_
      refine V_if_ne (pc := 40) (tgt := 52) dX12_bond_40 (by decide +kernel) ?_ ?_
      · refine V_aload_n (pc := 52) dX12_bond_52 rfl rfl ?_
        refine V_iload_n (pc := 53) dX12_bond_53 rfl rfl ?_
        refine V_iload_n (pc := 54) dX12_bond_54 rfl rfl ?_
        refine V_callVpi (pc := 55) (As := [.int p1, .int p2]) (rest := []) (c_X12_holds w p1 p2 q31.2) cw_X12_69 rfl rfl dX12_bond_55 kc_171 ci_12 ⟨Nat.le_of_ble_eq_true rfl, Nat.le_of_ble_eq_true rfl⟩ rfl rfl (Nat.le_of_ble_eq_true rfl) (Nat.le_of_ble_eq_true rfl) (Nat.le_of_ble_eq_true rfl) rfl (fun q55 => ?_)
        refine V_if_eq (pc := 58) (tgt := 78) dX12_bond_58 (by decide +kernel) ?_ ?_
        · refine V_iconst (pc := 78) dX12_bond_78 ic_m1 ?_
          refine V_sub (vs' := [none, none, none, none]) (show vless _ _ from trivial) rfl ?_
          exact hJ79 (-1 : Int32) q31.2
        · refine V_aload_n (pc := 61) dX12_bond_61 rfl rfl ?_
          refine V_getr (pc := 62) (t := 172) fk_X12_13 rfl dX12_bond_62 kc_171 rf_12_1_171 ?_
          refine V_sipush (pc := 65) dX12_bond_65 sp_170 ?_
          refine V_iload_n (pc := 68) dX12_bond_68 rfl rfl ?_
          refine V_iload_n (pc := 69) dX12_bond_69 rfl rfl ?_
          refine V_callSpi (pc := 70) (As := [.int p1, .int p2]) (rest := [.int (170 : Int32), .ref (wB w + 172)]) (c_X12_both w p1 p2 q31.2) cs_X12_66 rfl rfl dX12_bond_70 ⟨Nat.le_of_ble_eq_true rfl, Nat.le_of_ble_eq_true rfl⟩ rfl rfl (Nat.le_of_ble_eq_true rfl) (Nat.le_of_ble_eq_true rfl) (Nat.le_of_ble_eq_true rfl) rfl (fun q70 => ?_)
          refine V_iadd (pc := 73) dX12_bond_73 ?_
          refine V_iald (pc := 74) (n := 2172) dX12_bond_74 kc_172 lc_172 ?_
          refine V_goto (pc := 75) (tgt := 79) dX12_bond_75 (by decide +kernel) ?_
          refine V_sub (vs' := [none, none, none, none]) (show vless _ _ from trivial) rfl ?_
          exact hJ79 (q31.2 172 (ix ((170 : Int32) + q70))) q31.2
      · refine V_aload_n (pc := 43) dX12_bond_43 rfl rfl ?_
        refine V_iload_n (pc := 44) dX12_bond_44 rfl rfl ?_
        refine V_iload_n (pc := 45) dX12_bond_45 rfl rfl ?_
        refine V_callVpi (pc := 46) (As := [.int p1, .int p2]) (rest := []) (c_X12_bondOf w p1 p2 q31.2) cw_X12_315 rfl rfl dX12_bond_46 kc_171 ci_12 ⟨Nat.le_of_ble_eq_true rfl, Nat.le_of_ble_eq_true rfl⟩ rfl rfl (Nat.le_of_ble_eq_true rfl) (Nat.le_of_ble_eq_true rfl) (Nat.le_of_ble_eq_true rfl) rfl (fun q46 => ?_)
        refine V_goto (pc := 49) (tgt := 79) dX12_bond_49 (by decide +kernel) ?_
        refine V_sub (vs' := [none, none, none, none]) (show vless _ _ from trivial) rfl ?_
        exact hJ79 q46 q31.2
    · refine V_sub (vs' := [none, none, none, none]) (show vless _ _ from trivial) rfl ?_
      exact hJ37 q31.2
  refine V_aload_n (pc := 0) dX12_bond_0 rfl rfl ?_
  refine V_iconst (pc := 1) dX12_bond_1 ic_0 ?_
  refine V_puti (pc := 2) fp_X12_3 rfl dX12_bond_2 kc_171 rf_12_0_171 (fun s2 => ?_)
  refine V_aload_n (pc := 5) dX12_bond_5 rfl rfl ?_
  refine V_aload_n (pc := 6) dX12_bond_6 rfl rfl ?_
  refine V_iload_n (pc := 7) dX12_bond_7 rfl rfl ?_
  refine V_iload_n (pc := 8) dX12_bond_8 rfl rfl ?_
  refine V_callVpi (pc := 9) (As := [.int p1, .int p2]) (rest := [.ref (wB w + 171)]) (c_X12_noBoth w p1 p2 s2) cw_X12_300 rfl rfl dX12_bond_9 kc_171 ci_12 ⟨Nat.le_of_ble_eq_true rfl, Nat.le_of_ble_eq_true rfl⟩ rfl rfl (Nat.le_of_ble_eq_true rfl) (Nat.le_of_ble_eq_true rfl) (Nat.le_of_ble_eq_true rfl) rfl (fun q9 => ?_)
  refine V_iconst (pc := 12) dX12_bond_12 ic_1 ?_
  refine V_callVi (pc := 13) (As := [.int q9, .int (1 : Int32)]) (rest := []) (c_X12_throwsIf w q9 (1 : Int32) s2) cw_X12_257 rfl rfl dX12_bond_13 kc_171 ci_12 ⟨Nat.le_of_ble_eq_true rfl, Nat.le_of_ble_eq_true rfl⟩ rfl rfl (Nat.le_of_ble_eq_true rfl) (Nat.le_of_ble_eq_true rfl) (Nat.le_of_ble_eq_true rfl) rfl (fun q13 => ?_)
  refine V_if_ne (pc := 16) (tgt := 37) dX12_bond_16 (by decide +kernel) ?_ ?_
  · refine V_sub (vs' := [none, none, none, none]) (show vless _ _ from trivial) rfl ?_
    exact hJ37 q13.2
  · refine V_aload_n (pc := 19) dX12_bond_19 rfl rfl ?_
    refine V_iload_n (pc := 20) dX12_bond_20 rfl rfl ?_
    refine V_iload_n (pc := 21) dX12_bond_21 rfl rfl ?_
    refine V_icmp_ne (pc := 22) (tgt := 29) dX12_bond_22 (by decide +kernel) ?_ ?_
    · refine V_iconst (pc := 29) dX12_bond_29 ic_0 ?_
      exact hJ30 (0 : Int32) q13.2
    · refine V_iconst (pc := 25) dX12_bond_25 ic_1 ?_
      refine V_goto (pc := 26) (tgt := 30) dX12_bond_26 (by decide +kernel) ?_
      exact hJ30 (1 : Int32) q13.2
def J_X12_circles_45 (n : Nat) (v2 : Int32) (t0 : Int32) (t1 : Int32) (σ : MS) : Option ((Int32 × Int32) ⊕ (Int32 × MS)) := some (.inl ((t1 + t0), (v2 + (1 : Int32))))
def J_X12_circles_44 (n : Nat) (v2 : Int32) (t0 : Int32) (σ : MS) : Option ((Int32 × Int32) ⊕ (Int32 × MS)) := J_X12_circles_45 n v2 (0 : Int32) t0 σ
def L_X12_circles_9 (n : Nat)  (σ : MS) (a9 : Int32 × Int32) : Option ((Int32 × Int32) ⊕ (Int32 × MS)) := ((f_X12_people  σ).bind (fun q11 => (if q11 ≤ a9.2 then (some (a9.1, σ)).map Sum.inr else ((f_X12_circleOf n a9.2 σ).bind (fun q19 => ((f_J6_bitCount_0f7a4 q19 σ).bind (fun q25 => (if q25 ≤ (1 : Int32) then J_X12_circles_44 n a9.2 a9.1 σ else ((f_J6_numberOfTrailingZeros_0f7a4 q19 σ).bind (fun q33 => (if q33 = a9.2 then J_X12_circles_45 n a9.2 (1 : Int32) a9.1 σ else J_X12_circles_44 n a9.2 a9.1 σ)))))))))))
def f_X12_circles (n : Nat)  (σ : MS) : Option (Int32 × MS) := (ltM (mu σ 171 0 (0 : Int32)) (fun s2 => itr (L_X12_circles_9 n  s2) n ((0 : Int32), (0 : Int32))))
set_option maxRecDepth 20000 in
set_option maxHeartbeats 2000000 in
theorem c_X12_circles (w : TG) (n : Nat)  (σ : MS) : MC m_X12_circles w [.ref (wB w + 171)] σ (f_X12_circles n  σ) := by
  refine V_meth (by decide +kernel) (Nat.le_of_ble_eq_true rfl) (by intro v hv; simp only [List.mem_cons, List.not_mem_nil, or_false] at hv; subst hv; rfl) (fun g x => ?_)
  show VV m_X12_circles w g 0 0 (QM m_X12_circles w g x) (fun b : Int32 × MS => b = x) 0 [some (.ref (wB w + 171)), none, none, none] [] σ (f_X12_circles n  σ)
  have hL9 : ∀ (σ : MS) (n0 : Nat) (a : Int32 × Int32), VV m_X12_circles w g 0 0 (QM m_X12_circles w g x) (fun b : Int32 × MS => b = x) 9 [some (.ref (wB w + 171)), some (.int a.1), some (.int a.2), none] [] σ (itr (L_X12_circles_9 n  σ) n0 a) := by
    intro σ
    refine V_itr (vf := fun a : Int32 × Int32 => [some (.ref (wB w + 171)), some (.int a.1), some (.int a.2), none]) (sf := fun a : Int32 × Int32 => σ) (fun κ9 b9 r9 a9 => ?_)
    obtain ⟨a9_1, a9_2⟩ := a9
    show VV m_X12_circles w g 0 0 (QM m_X12_circles w g x) κ9 9 [some (.ref (wB w + 171)), some (.int a9_1), some (.int a9_2), none] [] σ (L_X12_circles_9 n  σ (a9_1, a9_2))
    have hJ45 : ∀ (v2 : Int32) (t0 : Int32) (t1 : Int32), VV m_X12_circles w g 0 0 (QM m_X12_circles w g x) κ9 45 [some (.ref (wB w + 171)), none, some (.int v2), none] [.int t0, .int t1] σ (J_X12_circles_45 n v2 t0 t1 σ) := by
      intro v2 t0 t1
      refine V_iadd (pc := 45) dX12_circles_45 ?_
      refine V_istore_n (pc := 46) (vs' := [some (.ref (wB w + 171)), some (.int (t1 + t0)), some (.int v2), none]) dX12_circles_46 rfl (Nat.le_of_ble_eq_true rfl) (Nat.le_of_ble_eq_true rfl) rfl ?_
      refine V_iincC (pc := 47) (vs' := [some (.ref (wB w + 171)), some (.int (t1 + t0)), some (.int (v2 + (1 : Int32))), none]) dX12_circles_47 (Nat.le_of_ble_eq_true rfl) rfl ic_1 rfl ?_
      refine V_goto (pc := 50) (tgt := 9) dX12_circles_50 (by decide +kernel) ?_
      exact V_back (b9 ((t1 + t0), (v2 + (1 : Int32))))
    have hJ44 : ∀ (v2 : Int32) (t0 : Int32), VV m_X12_circles w g 0 0 (QM m_X12_circles w g x) κ9 44 [some (.ref (wB w + 171)), none, some (.int v2), none] [.int t0] σ (J_X12_circles_44 n v2 t0 σ) := by
      intro v2 t0
      refine V_iconst (pc := 44) dX12_circles_44 ic_0 ?_
      exact hJ45 v2 (0 : Int32) t0
    refine V_iload_n (pc := 9) dX12_circles_9 rfl rfl ?_
    refine V_aload_n (pc := 10) dX12_circles_10 rfl rfl ?_
    refine V_callVpi (pc := 11) (As := []) (rest := [.int a9_2]) (c_X12_people w  σ) cw_X12_58 rfl rfl dX12_circles_11 kc_171 ci_12 ⟨Nat.le_of_ble_eq_true rfl, Nat.le_of_ble_eq_true rfl⟩ rfl rfl (Nat.le_of_ble_eq_true rfl) (Nat.le_of_ble_eq_true rfl) (Nat.le_of_ble_eq_true rfl) rfl (fun q11 => ?_)
    refine V_icmp_ge (pc := 14) (tgt := 53) dX12_circles_14 (by decide +kernel) ?_ ?_
    · refine V_exit r9 ?_
      refine V_iload_n (pc := 53) dX12_circles_53 rfl rfl ?_
      exact V_ireti (pc := 54) dX12_circles_54 rfl (hk := fun h => h)
    · refine V_aload_n (pc := 17) dX12_circles_17 rfl rfl ?_
      refine V_iload_n (pc := 18) dX12_circles_18 rfl rfl ?_
      refine V_callVpi (pc := 19) (As := [.int a9_2]) (rest := []) (c_X12_circleOf w n a9_2 σ) cw_X12_363 rfl rfl dX12_circles_19 kc_171 ci_12 ⟨Nat.le_of_ble_eq_true rfl, Nat.le_of_ble_eq_true rfl⟩ rfl rfl (Nat.le_of_ble_eq_true rfl) (Nat.le_of_ble_eq_true rfl) (Nat.le_of_ble_eq_true rfl) rfl (fun q19 => ?_)
      refine V_istore_n (pc := 22) (vs' := [some (.ref (wB w + 171)), some (.int a9_1), some (.int a9_2), some (.int q19)]) dX12_circles_22 rfl (Nat.le_of_ble_eq_true rfl) (Nat.le_of_ble_eq_true rfl) rfl ?_
      refine V_iload_n (pc := 23) dX12_circles_23 rfl rfl ?_
      refine V_iload_n (pc := 24) dX12_circles_24 rfl rfl ?_
      refine V_callSpi (pc := 25) (As := [.int q19]) (rest := [.int a9_1]) (c_J6_bitCount_0f7a4 w q19 σ) cs_X12_318 rfl rfl dX12_circles_25 ⟨Nat.le_of_ble_eq_true rfl, Nat.le_of_ble_eq_true rfl⟩ rfl rfl (Nat.le_of_ble_eq_true rfl) (Nat.le_of_ble_eq_true rfl) (Nat.le_of_ble_eq_true rfl) rfl (fun q25 => ?_)
      refine V_iconst (pc := 28) dX12_circles_28 ic_1 ?_
      refine V_icmp_le (pc := 29) (tgt := 44) dX12_circles_29 (by decide +kernel) ?_ ?_
      · refine V_sub (vs' := [some (.ref (wB w + 171)), none, some (.int a9_2), none]) (show vless _ _ from ⟨rfl, ⟨rfl, trivial⟩⟩) rfl ?_
        exact hJ44 a9_2 a9_1
      · refine V_iload_n (pc := 32) dX12_circles_32 rfl rfl ?_
        refine V_callSpi (pc := 33) (As := [.int q19]) (rest := [.int a9_1]) (c_J6_numberOfTrailingZeros_0f7a4 w q19 σ) cs_X12_369 rfl rfl dX12_circles_33 ⟨Nat.le_of_ble_eq_true rfl, Nat.le_of_ble_eq_true rfl⟩ rfl rfl (Nat.le_of_ble_eq_true rfl) (Nat.le_of_ble_eq_true rfl) (Nat.le_of_ble_eq_true rfl) rfl (fun q33 => ?_)
        refine V_iload_n (pc := 36) dX12_circles_36 rfl rfl ?_
        refine V_icmp_ne (pc := 37) (tgt := 44) dX12_circles_37 (by decide +kernel) ?_ ?_
        · refine V_sub (vs' := [some (.ref (wB w + 171)), none, some (.int a9_2), none]) (show vless _ _ from ⟨rfl, ⟨rfl, trivial⟩⟩) rfl ?_
          exact hJ44 a9_2 a9_1
        · refine V_iconst (pc := 40) dX12_circles_40 ic_1 ?_
          refine V_goto (pc := 41) (tgt := 45) dX12_circles_41 (by decide +kernel) ?_
          refine V_sub (vs' := [some (.ref (wB w + 171)), none, some (.int a9_2), none]) (show vless _ _ from ⟨rfl, ⟨rfl, trivial⟩⟩) rfl ?_
          exact hJ45 a9_2 (1 : Int32) a9_1
  refine V_aload_n (pc := 0) dX12_circles_0 rfl rfl ?_
  refine V_iconst (pc := 1) dX12_circles_1 ic_0 ?_
  refine V_puti (pc := 2) fp_X12_3 rfl dX12_circles_2 kc_171 rf_12_0_171 (fun s2 => ?_)
  refine V_iconst (pc := 5) dX12_circles_5 ic_0 ?_
  refine V_istore_n (pc := 6) (vs' := [some (.ref (wB w + 171)), some (.int (0 : Int32)), none, none]) dX12_circles_6 rfl (Nat.le_of_ble_eq_true rfl) (Nat.le_of_ble_eq_true rfl) rfl ?_
  refine V_iconst (pc := 7) dX12_circles_7 ic_0 ?_
  refine V_istore_n (pc := 8) (vs' := [some (.ref (wB w + 171)), some (.int (0 : Int32)), some (.int (0 : Int32)), none]) dX12_circles_8 rfl (Nat.le_of_ble_eq_true rfl) (Nat.le_of_ble_eq_true rfl) rfl ?_
  exact hL9 s2 n ((0 : Int32), (0 : Int32))
def J_X12_ends_60 (n : Nat) (v2 : Int32) (v3 : Int32) (t0 : Int32) (σ : MS) : Option ((Int32 × Int32) ⊕ ((Int32 × Int32) ⊕ (Int32 × MS))) := some (.inl (t0, (v3 + (1 : Int32))))
def L_X12_ends_24 (n : Nat) (v2 : Int32) (σ : MS) (a24 : Int32 × Int32) : Option ((Int32 × Int32) ⊕ ((Int32 × Int32) ⊕ (Int32 × MS))) := (if v2 ≤ a24.2 then (some (.inl (a24.1, (v2 + (1 : Int32))))).map Sum.inr else ((f_X12_holds v2 a24.2 σ).bind (fun q32 => (if q32 = 0 then J_X12_ends_60 n v2 a24.2 a24.1 σ else ((f_X12_both v2 a24.2 σ).bind (fun q48 => (if inb ((170 : Int32) + q48) 2172 then J_X12_ends_60 n v2 a24.2 (mxI a24.1 (σ 172 (ix ((170 : Int32) + q48)))) σ else none)))))))
def L_X12_ends_14 (n : Nat)  (σ : MS) (a14 : Int32 × Int32) : Option ((Int32 × Int32) ⊕ (Int32 × MS)) := ((f_X12_people  σ).bind (fun q16 => (if q16 ≤ a14.2 then (some (a14.1, σ)).map Sum.inr else itr (L_X12_ends_24 n a14.2 σ) n (a14.1, (0 : Int32)))))
def f_X12_ends (n : Nat)  (σ : MS) : Option (Int32 × MS) := (ltM (mu σ 171 0 (0 : Int32)) (fun s2 => itr (L_X12_ends_14 n  s2) n ((s2 172 3), (0 : Int32))))
set_option maxRecDepth 20000 in
set_option maxHeartbeats 2000000 in
theorem c_X12_ends (w : TG) (n : Nat)  (σ : MS) : MC m_X12_ends w [.ref (wB w + 171)] σ (f_X12_ends n  σ) := by
  refine V_meth (by decide +kernel) (Nat.le_of_ble_eq_true rfl) (by intro v hv; simp only [List.mem_cons, List.not_mem_nil, or_false] at hv; subst hv; rfl) (fun g x => ?_)
  show VV m_X12_ends w g 0 0 (QM m_X12_ends w g x) (fun b : Int32 × MS => b = x) 0 [some (.ref (wB w + 171)), none, none, none] [] σ (f_X12_ends n  σ)
  have hL14 : ∀ (σ : MS) (n0 : Nat) (a : Int32 × Int32), VV m_X12_ends w g 0 0 (QM m_X12_ends w g x) (fun b : Int32 × MS => b = x) 14 [some (.ref (wB w + 171)), some (.int a.1), some (.int a.2), none] [] σ (itr (L_X12_ends_14 n  σ) n0 a) := by
    intro σ
    refine V_itr (vf := fun a : Int32 × Int32 => [some (.ref (wB w + 171)), some (.int a.1), some (.int a.2), none]) (sf := fun a : Int32 × Int32 => σ) (fun κ14 b14 r14 a14 => ?_)
    obtain ⟨a14_1, a14_2⟩ := a14
    show VV m_X12_ends w g 0 0 (QM m_X12_ends w g x) κ14 14 [some (.ref (wB w + 171)), some (.int a14_1), some (.int a14_2), none] [] σ (L_X12_ends_14 n  σ (a14_1, a14_2))
    have hL24 : ∀ (v2 : Int32) (n0 : Nat) (a : Int32 × Int32), VV m_X12_ends w g 0 0 (QM m_X12_ends w g x) κ14 24 [some (.ref (wB w + 171)), some (.int a.1), some (.int v2), some (.int a.2)] [] σ (itr (L_X12_ends_24 n v2 σ) n0 a) := by
      intro v2
      refine V_itr (vf := fun a : Int32 × Int32 => [some (.ref (wB w + 171)), some (.int a.1), some (.int v2), some (.int a.2)]) (sf := fun a : Int32 × Int32 => σ) (fun κ24 b24 r24 a24 => ?_)
      obtain ⟨a24_1, a24_2⟩ := a24
      show VV m_X12_ends w g 0 0 (QM m_X12_ends w g x) κ24 24 [some (.ref (wB w + 171)), some (.int a24_1), some (.int v2), some (.int a24_2)] [] σ (L_X12_ends_24 n v2 σ (a24_1, a24_2))
      have hJ60 : ∀ (v3 : Int32) (t0 : Int32), VV m_X12_ends w g 0 0 (QM m_X12_ends w g x) κ24 60 [some (.ref (wB w + 171)), none, some (.int v2), some (.int v3)] [.int t0] σ (J_X12_ends_60 n v2 v3 t0 σ) := by
        intro v3 t0
        refine V_istore_n (pc := 60) (vs' := [some (.ref (wB w + 171)), some (.int t0), some (.int v2), some (.int v3)]) dX12_ends_60 rfl (Nat.le_of_ble_eq_true rfl) (Nat.le_of_ble_eq_true rfl) rfl ?_
        refine V_iincC (pc := 61) (vs' := [some (.ref (wB w + 171)), some (.int t0), some (.int v2), some (.int (v3 + (1 : Int32)))]) dX12_ends_61 (Nat.le_of_ble_eq_true rfl) rfl ic_1 rfl ?_
        refine V_goto (pc := 64) (tgt := 24) dX12_ends_64 (by decide +kernel) ?_
        exact V_back (b24 (t0, (v3 + (1 : Int32))))
      refine V_iload_n (pc := 24) dX12_ends_24 rfl rfl ?_
      refine V_iload_n (pc := 25) dX12_ends_25 rfl rfl ?_
      refine V_icmp_ge (pc := 26) (tgt := 67) dX12_ends_26 (by decide +kernel) ?_ ?_
      · refine V_exit r24 ?_
        refine V_iincC (pc := 67) (vs' := [some (.ref (wB w + 171)), some (.int a24_1), some (.int (v2 + (1 : Int32))), some (.int a24_2)]) dX12_ends_67 (Nat.le_of_ble_eq_true rfl) rfl ic_1 rfl ?_
        refine V_goto (pc := 70) (tgt := 14) dX12_ends_70 (by decide +kernel) ?_
        refine V_sub (vs' := [some (.ref (wB w + 171)), some (.int a24_1), some (.int (v2 + (1 : Int32))), none]) (show vless _ _ from ⟨rfl, ⟨rfl, ⟨rfl, trivial⟩⟩⟩) rfl ?_
        exact V_back (b14 (a24_1, (v2 + (1 : Int32))))
      · refine V_aload_n (pc := 29) dX12_ends_29 rfl rfl ?_
        refine V_iload_n (pc := 30) dX12_ends_30 rfl rfl ?_
        refine V_iload_n (pc := 31) dX12_ends_31 rfl rfl ?_
        refine V_callVpi (pc := 32) (As := [.int v2, .int a24_2]) (rest := []) (c_X12_holds w v2 a24_2 σ) cw_X12_69 rfl rfl dX12_ends_32 kc_171 ci_12 ⟨Nat.le_of_ble_eq_true rfl, Nat.le_of_ble_eq_true rfl⟩ rfl rfl (Nat.le_of_ble_eq_true rfl) (Nat.le_of_ble_eq_true rfl) (Nat.le_of_ble_eq_true rfl) rfl (fun q32 => ?_)
        refine V_if_eq (pc := 35) (tgt := 59) dX12_ends_35 (by decide +kernel) ?_ ?_
        · refine V_iload_n (pc := 59) dX12_ends_59 rfl rfl ?_
          refine V_sub (vs' := [some (.ref (wB w + 171)), none, some (.int v2), some (.int a24_2)]) (show vless _ _ from ⟨rfl, ⟨rfl, ⟨rfl, trivial⟩⟩⟩) rfl ?_
          exact hJ60 a24_2 a24_1
        · refine V_iload_n (pc := 38) dX12_ends_38 rfl rfl ?_
          refine V_aload_n (pc := 39) dX12_ends_39 rfl rfl ?_
          refine V_getr (pc := 40) (t := 172) fk_X12_13 rfl dX12_ends_40 kc_171 rf_12_1_171 ?_
          refine V_sipush (pc := 43) dX12_ends_43 sp_170 ?_
          refine V_iload_n (pc := 46) dX12_ends_46 rfl rfl ?_
          refine V_iload_n (pc := 47) dX12_ends_47 rfl rfl ?_
          refine V_callSpi (pc := 48) (As := [.int v2, .int a24_2]) (rest := [.int (170 : Int32), .ref (wB w + 172), .int a24_1]) (c_X12_both w v2 a24_2 σ) cs_X12_66 rfl rfl dX12_ends_48 ⟨Nat.le_of_ble_eq_true rfl, Nat.le_of_ble_eq_true rfl⟩ rfl rfl (Nat.le_of_ble_eq_true rfl) (Nat.le_of_ble_eq_true rfl) (Nat.le_of_ble_eq_true rfl) rfl (fun q48 => ?_)
          refine V_iadd (pc := 51) dX12_ends_51 ?_
          refine V_iald (pc := 52) (n := 2172) dX12_ends_52 kc_172 lc_172 ?_
          refine V_mmax (pc := 53) dX12_ends_53 rfl mw_X12_288 (Nat.le_of_ble_eq_true rfl) (Nat.le_of_ble_eq_true rfl) (Nat.le_of_ble_eq_true rfl) (Nat.le_of_ble_eq_true rfl) ?_
          refine V_goto (pc := 56) (tgt := 60) dX12_ends_56 (by decide +kernel) ?_
          refine V_sub (vs' := [some (.ref (wB w + 171)), none, some (.int v2), some (.int a24_2)]) (show vless _ _ from ⟨rfl, ⟨rfl, ⟨rfl, trivial⟩⟩⟩) rfl ?_
          exact hJ60 a24_2 (mxI a24_1 (σ 172 (ix ((170 : Int32) + q48))))
    refine V_iload_n (pc := 14) dX12_ends_14 rfl rfl ?_
    refine V_aload_n (pc := 15) dX12_ends_15 rfl rfl ?_
    refine V_callVpi (pc := 16) (As := []) (rest := [.int a14_2]) (c_X12_people w  σ) cw_X12_58 rfl rfl dX12_ends_16 kc_171 ci_12 ⟨Nat.le_of_ble_eq_true rfl, Nat.le_of_ble_eq_true rfl⟩ rfl rfl (Nat.le_of_ble_eq_true rfl) (Nat.le_of_ble_eq_true rfl) (Nat.le_of_ble_eq_true rfl) rfl (fun q16 => ?_)
    refine V_icmp_ge (pc := 19) (tgt := 73) dX12_ends_19 (by decide +kernel) ?_ ?_
    · refine V_exit r14 ?_
      refine V_iload_n (pc := 73) dX12_ends_73 rfl rfl ?_
      exact V_ireti (pc := 74) dX12_ends_74 rfl (hk := fun h => h)
    · refine V_iconst (pc := 22) dX12_ends_22 ic_0 ?_
      refine V_istore_n (pc := 23) (vs' := [some (.ref (wB w + 171)), some (.int a14_1), some (.int a14_2), some (.int (0 : Int32))]) dX12_ends_23 rfl (Nat.le_of_ble_eq_true rfl) (Nat.le_of_ble_eq_true rfl) rfl ?_
      exact hL24 a14_2 n (a14_1, (0 : Int32))
  refine V_aload_n (pc := 0) dX12_ends_0 rfl rfl ?_
  refine V_iconst (pc := 1) dX12_ends_1 ic_0 ?_
  refine V_puti (pc := 2) fp_X12_3 rfl dX12_ends_2 kc_171 rf_12_0_171 (fun s2 => ?_)
  refine V_aload_n (pc := 5) dX12_ends_5 rfl rfl ?_
  refine V_getr (pc := 6) (t := 172) fk_X12_13 rfl dX12_ends_6 kc_171 rf_12_1_171 ?_
  refine V_iconst (pc := 9) dX12_ends_9 ic_3 ?_
  refine V_ialdC (pc := 10) (n := 2172) dX12_ends_10 kc_172 lc_172 inb_3_2172 ?_
  refine V_istore_n (pc := 11) (vs' := [some (.ref (wB w + 171)), some (.int (s2 172 3)), none, none]) dX12_ends_11 rfl (Nat.le_of_ble_eq_true rfl) (Nat.le_of_ble_eq_true rfl) rfl ?_
  refine V_iconst (pc := 12) dX12_ends_12 ic_0 ?_
  refine V_istore_n (pc := 13) (vs' := [some (.ref (wB w + 171)), some (.int (s2 172 3)), some (.int (0 : Int32)), none]) dX12_ends_13 rfl (Nat.le_of_ble_eq_true rfl) (Nat.le_of_ble_eq_true rfl) rfl ?_
  exact hL14 s2 n ((s2 172 3), (0 : Int32))
def J_X12_free_108 (n : Nat) (v1 : Int32) (v3 : Int32) (v2 : Int32) (v4 : Int32) (σ : MS) : Option ((Int32 × Int32) ⊕ ((Int32 × Int32) ⊕ (Int32 × MS))) := some (.inl (v2, (v4 + (1 : Int32))))
def L_X12_free_49 (n : Nat) (v1 : Int32) (v3 : Int32) (σ : MS) (a49 : Int32 × Int32) : Option ((Int32 × Int32) ⊕ ((Int32 × Int32) ⊕ (Int32 × MS))) := ((f_X12_people  σ).bind (fun q52 => (if q52 ≤ a49.2 then (some (.inl (a49.1, (v3 + (1 : Int32))))).map Sum.inr else (if v3 = a49.2 then J_X12_free_108 n v1 v3 a49.1 a49.2 σ else ((f_X12_both v3 a49.2 σ).bind (fun q73 => (if inb ((106 : Int32) + q73) 2172 then (if (σ 172 (ix ((106 : Int32) + q73))) ≤ 0 then J_X12_free_108 n v1 v3 a49.1 a49.2 σ else ((f_X12_both v3 a49.2 σ).bind (fun q91 => (if inb ((170 : Int32) + q91) 2172 then (if (σ 172 (ix ((170 : Int32) + q91))) ≤ v1 then J_X12_free_108 n v1 v3 a49.1 a49.2 σ else J_X12_free_108 n v1 v3 (a49.1 &&& ((shlI (1 : Int32) v3) ^^^ (-1 : Int32))) a49.2 σ) else none)))) else none)))))))
def L_X12_free_38 (n : Nat) (v1 : Int32) (σ : MS) (a38 : Int32 × Int32) : Option ((Int32 × Int32) ⊕ (Int32 × MS)) := ((f_X12_people  σ).bind (fun q40 => (if q40 ≤ a38.2 then (some (a38.1, σ)).map Sum.inr else itr (L_X12_free_49 n v1 a38.2 σ) n (a38.1, (0 : Int32)))))
def J_X12_free_22 (n : Nat) (v1 : Int32) (t0 : Int32) (σ : MS) : Option (Int32 × MS) := ((f_X12_throwsIf t0 (1 : Int32) σ).bind (fun q23 => (if q23.1 = 0 then ((f_X12_everybody  q23.2).bind (fun q32 => itr (L_X12_free_38 n v1 q23.2) n (q32, (0 : Int32)))) else some ((0 : Int32), q23.2))))
def f_X12_free (n : Nat) (p1 : Int32) (σ : MS) : Option (Int32 × MS) := (ltM (mu σ 171 0 (0 : Int32)) (fun s2 => ((f_X12_in p1 (0 : Int32) (9999 : Int32) s2).bind (fun q11 => (if q11 = 0 then J_X12_free_22 n p1 (1 : Int32) s2 else J_X12_free_22 n p1 (0 : Int32) s2)))))
set_option maxRecDepth 20000 in
set_option maxHeartbeats 2000000 in
theorem c_X12_free (w : TG) (n : Nat) (p1 : Int32) (σ : MS) : MC m_X12_free w [.ref (wB w + 171), .int p1] σ (f_X12_free n p1 σ) := by
  refine V_meth (by decide +kernel) (Nat.le_of_ble_eq_true rfl) (by intro v hv; simp only [List.mem_cons, List.not_mem_nil, or_false] at hv; rcases hv with rfl | rfl <;> rfl) (fun g x => ?_)
  show VV m_X12_free w g 0 0 (QM m_X12_free w g x) (fun b : Int32 × MS => b = x) 0 [some (.ref (wB w + 171)), some (.int p1), none, none, none] [] σ (f_X12_free n p1 σ)
  have hL38 : ∀ (σ : MS) (n0 : Nat) (a : Int32 × Int32), VV m_X12_free w g 0 0 (QM m_X12_free w g x) (fun b : Int32 × MS => b = x) 38 [some (.ref (wB w + 171)), some (.int p1), some (.int a.1), some (.int a.2), none] [] σ (itr (L_X12_free_38 n p1 σ) n0 a) := by
    intro σ
    refine V_itr (vf := fun a : Int32 × Int32 => [some (.ref (wB w + 171)), some (.int p1), some (.int a.1), some (.int a.2), none]) (sf := fun a : Int32 × Int32 => σ) (fun κ38 b38 r38 a38 => ?_)
    obtain ⟨a38_1, a38_2⟩ := a38
    show VV m_X12_free w g 0 0 (QM m_X12_free w g x) κ38 38 [some (.ref (wB w + 171)), some (.int p1), some (.int a38_1), some (.int a38_2), none] [] σ (L_X12_free_38 n p1 σ (a38_1, a38_2))
    have hL49 : ∀ (v3 : Int32) (n0 : Nat) (a : Int32 × Int32), VV m_X12_free w g 0 0 (QM m_X12_free w g x) κ38 49 [some (.ref (wB w + 171)), some (.int p1), some (.int a.1), some (.int v3), some (.int a.2)] [] σ (itr (L_X12_free_49 n p1 v3 σ) n0 a) := by
      intro v3
      refine V_itr (vf := fun a : Int32 × Int32 => [some (.ref (wB w + 171)), some (.int p1), some (.int a.1), some (.int v3), some (.int a.2)]) (sf := fun a : Int32 × Int32 => σ) (fun κ49 b49 r49 a49 => ?_)
      obtain ⟨a49_1, a49_2⟩ := a49
      show VV m_X12_free w g 0 0 (QM m_X12_free w g x) κ49 49 [some (.ref (wB w + 171)), some (.int p1), some (.int a49_1), some (.int v3), some (.int a49_2)] [] σ (L_X12_free_49 n p1 v3 σ (a49_1, a49_2))
      have hJ108 : ∀ (v2 : Int32) (v4 : Int32), VV m_X12_free w g 0 0 (QM m_X12_free w g x) κ49 108 [some (.ref (wB w + 171)), some (.int p1), some (.int v2), some (.int v3), some (.int v4)] [] σ (J_X12_free_108 n p1 v3 v2 v4 σ) := by
        intro v2 v4
        refine V_iincC (pc := 108) (vs' := [some (.ref (wB w + 171)), some (.int p1), some (.int v2), some (.int v3), some (.int (v4 + (1 : Int32)))]) dX12_free_108 (Nat.le_of_ble_eq_true rfl) rfl ic_1 rfl ?_
        refine V_goto (pc := 111) (tgt := 49) dX12_free_111 (by decide +kernel) ?_
        exact V_back (b49 (v2, (v4 + (1 : Int32))))
      refine V_iload (pc := 49) dX12_free_49 rfl ?_
      refine V_aload_n (pc := 51) dX12_free_51 rfl rfl ?_
      refine V_callVpi (pc := 52) (As := []) (rest := [.int a49_2]) (c_X12_people w  σ) cw_X12_58 rfl rfl dX12_free_52 kc_171 ci_12 ⟨Nat.le_of_ble_eq_true rfl, Nat.le_of_ble_eq_true rfl⟩ rfl rfl (Nat.le_of_ble_eq_true rfl) (Nat.le_of_ble_eq_true rfl) (Nat.le_of_ble_eq_true rfl) rfl (fun q52 => ?_)
      refine V_icmp_ge (pc := 55) (tgt := 114) dX12_free_55 (by decide +kernel) ?_ ?_
      · refine V_exit r49 ?_
        refine V_iincC (pc := 114) (vs' := [some (.ref (wB w + 171)), some (.int p1), some (.int a49_1), some (.int (v3 + (1 : Int32))), some (.int a49_2)]) dX12_free_114 (Nat.le_of_ble_eq_true rfl) rfl ic_1 rfl ?_
        refine V_goto (pc := 117) (tgt := 38) dX12_free_117 (by decide +kernel) ?_
        refine V_sub (vs' := [some (.ref (wB w + 171)), some (.int p1), some (.int a49_1), some (.int (v3 + (1 : Int32))), none]) (show vless _ _ from ⟨rfl, ⟨rfl, ⟨rfl, ⟨rfl, trivial⟩⟩⟩⟩) rfl ?_
        exact V_back (b38 (a49_1, (v3 + (1 : Int32))))
      · refine V_iload_n (pc := 58) dX12_free_58 rfl rfl ?_
        refine V_iload (pc := 59) dX12_free_59 rfl ?_
        refine V_icmp_eq (pc := 61) (tgt := 108) dX12_free_61 (by decide +kernel) ?_ ?_
        · exact hJ108 a49_1 a49_2
        · refine V_aload_n (pc := 64) dX12_free_64 rfl rfl ?_
          refine V_getr (pc := 65) (t := 172) fk_X12_13 rfl dX12_free_65 kc_171 rf_12_1_171 ?_
          refine V_bipush (pc := 68) dX12_free_68 bp_106 ?_
          refine V_iload_n (pc := 70) dX12_free_70 rfl rfl ?_
          refine V_iload (pc := 71) dX12_free_71 rfl ?_
          refine V_callSpi (pc := 73) (As := [.int v3, .int a49_2]) (rest := [.int (106 : Int32), .ref (wB w + 172)]) (c_X12_both w v3 a49_2 σ) cs_X12_66 rfl rfl dX12_free_73 ⟨Nat.le_of_ble_eq_true rfl, Nat.le_of_ble_eq_true rfl⟩ rfl rfl (Nat.le_of_ble_eq_true rfl) (Nat.le_of_ble_eq_true rfl) (Nat.le_of_ble_eq_true rfl) rfl (fun q73 => ?_)
          refine V_iadd (pc := 76) dX12_free_76 ?_
          refine V_iald (pc := 77) (n := 2172) dX12_free_77 kc_172 lc_172 ?_
          refine V_if_le (pc := 78) (tgt := 108) dX12_free_78 (by decide +kernel) ?_ ?_
          · exact hJ108 a49_1 a49_2
          · refine V_aload_n (pc := 81) dX12_free_81 rfl rfl ?_
            refine V_getr (pc := 82) (t := 172) fk_X12_13 rfl dX12_free_82 kc_171 rf_12_1_171 ?_
            refine V_sipush (pc := 85) dX12_free_85 sp_170 ?_
            refine V_iload_n (pc := 88) dX12_free_88 rfl rfl ?_
            refine V_iload (pc := 89) dX12_free_89 rfl ?_
            refine V_callSpi (pc := 91) (As := [.int v3, .int a49_2]) (rest := [.int (170 : Int32), .ref (wB w + 172)]) (c_X12_both w v3 a49_2 σ) cs_X12_66 rfl rfl dX12_free_91 ⟨Nat.le_of_ble_eq_true rfl, Nat.le_of_ble_eq_true rfl⟩ rfl rfl (Nat.le_of_ble_eq_true rfl) (Nat.le_of_ble_eq_true rfl) (Nat.le_of_ble_eq_true rfl) rfl (fun q91 => ?_)
            refine V_iadd (pc := 94) dX12_free_94 ?_
            refine V_iald (pc := 95) (n := 2172) dX12_free_95 kc_172 lc_172 ?_
            refine V_iload_n (pc := 96) dX12_free_96 rfl rfl ?_
            refine V_icmp_le (pc := 97) (tgt := 108) dX12_free_97 (by decide +kernel) ?_ ?_
            · exact hJ108 a49_1 a49_2
            · refine V_iload_n (pc := 100) dX12_free_100 rfl rfl ?_
              refine V_iconst (pc := 101) dX12_free_101 ic_1 ?_
              refine V_iload_n (pc := 102) dX12_free_102 rfl rfl ?_
              refine V_ishl (pc := 103) dX12_free_103 ?_
              refine V_iconst (pc := 104) dX12_free_104 ic_m1 ?_
              refine V_ixor (pc := 105) dX12_free_105 ?_
              refine V_iand (pc := 106) dX12_free_106 ?_
              refine V_istore_n (pc := 107) (vs' := [some (.ref (wB w + 171)), some (.int p1), some (.int (a49_1 &&& ((shlI (1 : Int32) v3) ^^^ (-1 : Int32)))), some (.int v3), some (.int a49_2)]) dX12_free_107 rfl (Nat.le_of_ble_eq_true rfl) (Nat.le_of_ble_eq_true rfl) rfl ?_
              exact hJ108 (a49_1 &&& ((shlI (1 : Int32) v3) ^^^ (-1 : Int32))) a49_2
    refine V_iload_n (pc := 38) dX12_free_38 rfl rfl ?_
    refine V_aload_n (pc := 39) dX12_free_39 rfl rfl ?_
    refine V_callVpi (pc := 40) (As := []) (rest := [.int a38_2]) (c_X12_people w  σ) cw_X12_58 rfl rfl dX12_free_40 kc_171 ci_12 ⟨Nat.le_of_ble_eq_true rfl, Nat.le_of_ble_eq_true rfl⟩ rfl rfl (Nat.le_of_ble_eq_true rfl) (Nat.le_of_ble_eq_true rfl) (Nat.le_of_ble_eq_true rfl) rfl (fun q40 => ?_)
    refine V_icmp_ge (pc := 43) (tgt := 120) dX12_free_43 (by decide +kernel) ?_ ?_
    · refine V_exit r38 ?_
      refine V_iload_n (pc := 120) dX12_free_120 rfl rfl ?_
      exact V_ireti (pc := 121) dX12_free_121 rfl (hk := fun h => h)
    · refine V_iconst (pc := 46) dX12_free_46 ic_0 ?_
      refine V_istore (pc := 47) (vs' := [some (.ref (wB w + 171)), some (.int p1), some (.int a38_1), some (.int a38_2), some (.int (0 : Int32))]) dX12_free_47 (Nat.le_of_ble_eq_true rfl) (Nat.le_of_ble_eq_true rfl) rfl ?_
      exact hL49 a38_2 n (a38_1, (0 : Int32))
  have hJ22 : ∀ (t0 : Int32) (σ : MS), VV m_X12_free w g 0 0 (QM m_X12_free w g x) (fun b : Int32 × MS => b = x) 22 [some (.ref (wB w + 171)), some (.int p1), none, none, none] [.int t0, .ref (wB w + 171)] σ (J_X12_free_22 n p1 t0 σ) := by
    intro t0 σ
    refine V_iconst (pc := 22) dX12_free_22 ic_1 ?_
    refine V_callVi (pc := 23) (As := [.int t0, .int (1 : Int32)]) (rest := []) (c_X12_throwsIf w t0 (1 : Int32) σ) cw_X12_257 rfl rfl dX12_free_23 kc_171 ci_12 ⟨Nat.le_of_ble_eq_true rfl, Nat.le_of_ble_eq_true rfl⟩ rfl rfl (Nat.le_of_ble_eq_true rfl) (Nat.le_of_ble_eq_true rfl) (Nat.le_of_ble_eq_true rfl) rfl (fun q23 => ?_)
    refine V_if_eq (pc := 26) (tgt := 31) dX12_free_26 (by decide +kernel) ?_ ?_
    · refine V_aload_n (pc := 31) dX12_free_31 rfl rfl ?_
      refine V_callVpi (pc := 32) (As := []) (rest := []) (c_X12_everybody w  q23.2) cw_X12_327 rfl rfl dX12_free_32 kc_171 ci_12 ⟨Nat.le_of_ble_eq_true rfl, Nat.le_of_ble_eq_true rfl⟩ rfl rfl (Nat.le_of_ble_eq_true rfl) (Nat.le_of_ble_eq_true rfl) (Nat.le_of_ble_eq_true rfl) rfl (fun q32 => ?_)
      refine V_istore_n (pc := 35) (vs' := [some (.ref (wB w + 171)), some (.int p1), some (.int q32), none, none]) dX12_free_35 rfl (Nat.le_of_ble_eq_true rfl) (Nat.le_of_ble_eq_true rfl) rfl ?_
      refine V_iconst (pc := 36) dX12_free_36 ic_0 ?_
      refine V_istore_n (pc := 37) (vs' := [some (.ref (wB w + 171)), some (.int p1), some (.int q32), some (.int (0 : Int32)), none]) dX12_free_37 rfl (Nat.le_of_ble_eq_true rfl) (Nat.le_of_ble_eq_true rfl) rfl ?_
      exact hL38 q23.2 n (q32, (0 : Int32))
    · refine V_iconst (pc := 29) dX12_free_29 ic_0 ?_
      exact V_ireti (pc := 30) dX12_free_30 rfl (hk := fun h => h)
  refine V_aload_n (pc := 0) dX12_free_0 rfl rfl ?_
  refine V_iconst (pc := 1) dX12_free_1 ic_0 ?_
  refine V_puti (pc := 2) fp_X12_3 rfl dX12_free_2 kc_171 rf_12_0_171 (fun s2 => ?_)
  refine V_aload_n (pc := 5) dX12_free_5 rfl rfl ?_
  refine V_iload_n (pc := 6) dX12_free_6 rfl rfl ?_
  refine V_iconst (pc := 7) dX12_free_7 ic_0 ?_
  refine V_sipush (pc := 8) dX12_free_8 sp_9999 ?_
  refine V_callSpi (pc := 11) (As := [.int p1, .int (0 : Int32), .int (9999 : Int32)]) (rest := [.ref (wB w + 171)]) (c_X12_in w p1 (0 : Int32) (9999 : Int32) s2) cs_X12_79 rfl rfl dX12_free_11 ⟨Nat.le_of_ble_eq_true rfl, Nat.le_of_ble_eq_true rfl⟩ rfl rfl (Nat.le_of_ble_eq_true rfl) (Nat.le_of_ble_eq_true rfl) (Nat.le_of_ble_eq_true rfl) rfl (fun q11 => ?_)
  refine V_if_ne (pc := 14) (tgt := 21) dX12_free_14 (by decide +kernel) ?_ ?_
  · refine V_iconst (pc := 21) dX12_free_21 ic_0 ?_
    exact hJ22 (0 : Int32) s2
  · refine V_iconst (pc := 17) dX12_free_17 ic_1 ?_
    refine V_goto (pc := 18) (tgt := 22) dX12_free_18 (by decide +kernel) ?_
    exact hJ22 (1 : Int32) s2
def J_X12_isSecret_23 (t0 : Int32) (σ : MS) : Option (Int32) := (if t0 = 0 ∨ t0 = 1 then some t0 else none)
def J_X12_isSecret_22  (σ : MS) : Option (Int32) := J_X12_isSecret_23 (0 : Int32) σ
def f_X12_isSecret (p1 : Int32) (p2 : Int32) (σ : MS) : Option (Int32) := ((f_X12_holds p1 p2 σ).bind (fun q3 => (if q3 = 0 then J_X12_isSecret_22  σ else ((f_X12_areWed p1 p2 σ).bind (fun q12 => (if q12 = 0 then J_X12_isSecret_23 (1 : Int32) σ else J_X12_isSecret_22  σ))))))
set_option maxRecDepth 20000 in
set_option maxHeartbeats 2000000 in
theorem c_X12_isSecret (w : TG) (p1 : Int32) (p2 : Int32) (σ : MS) : MC m_X12_isSecret w [.ref (wB w + 171), .int p1, .int p2] σ ((f_X12_isSecret p1 p2 σ).map (fun r => (r, σ))) := by
  refine V_methp (by decide +kernel) (Nat.le_of_ble_eq_true rfl) (by intro v hv; simp only [List.mem_cons, List.not_mem_nil, or_false] at hv; rcases hv with rfl | rfl | rfl <;> rfl) (fun g x => ?_)
  show VV m_X12_isSecret w g 0 0 (QM m_X12_isSecret w g x) (fun b : Int32 => (b, σ) = x) 0 [some (.ref (wB w + 171)), some (.int p1), some (.int p2)] [] σ (f_X12_isSecret p1 p2 σ)
  have hJ23 : ∀ (t0 : Int32), VV m_X12_isSecret w g 0 0 (QM m_X12_isSecret w g x) (fun b : Int32 => (b, σ) = x) 23 [none, none, none] [.int t0] σ (J_X12_isSecret_23 t0 σ) := by
    intro t0
    exact V_iretZ (pc := 23) dX12_isSecret_23 rfl (hk := fun h => h)
  have hJ22 : ∀ (_ : Unit), VV m_X12_isSecret w g 0 0 (QM m_X12_isSecret w g x) (fun b : Int32 => (b, σ) = x) 22 [none, none, none] [] σ (J_X12_isSecret_22  σ) := by
    intro _
    refine V_iconst (pc := 22) dX12_isSecret_22 ic_0 ?_
    exact hJ23 (0 : Int32)
  refine V_aload_n (pc := 0) dX12_isSecret_0 rfl rfl ?_
  refine V_iload_n (pc := 1) dX12_isSecret_1 rfl rfl ?_
  refine V_iload_n (pc := 2) dX12_isSecret_2 rfl rfl ?_
  refine V_callVpi (pc := 3) (As := [.int p1, .int p2]) (rest := []) (c_X12_holds w p1 p2 σ) cw_X12_69 rfl rfl dX12_isSecret_3 kc_171 ci_12 ⟨Nat.le_of_ble_eq_true rfl, Nat.le_of_ble_eq_true rfl⟩ rfl rfl (Nat.le_of_ble_eq_true rfl) (Nat.le_of_ble_eq_true rfl) (Nat.le_of_ble_eq_true rfl) rfl (fun q3 => ?_)
  refine V_if_eq (pc := 6) (tgt := 22) dX12_isSecret_6 (by decide +kernel) ?_ ?_
  · refine V_sub (vs' := [none, none, none]) (show vless _ _ from trivial) rfl ?_
    exact hJ22 ()
  · refine V_aload_n (pc := 9) dX12_isSecret_9 rfl rfl ?_
    refine V_iload_n (pc := 10) dX12_isSecret_10 rfl rfl ?_
    refine V_iload_n (pc := 11) dX12_isSecret_11 rfl rfl ?_
    refine V_callVpi (pc := 12) (As := [.int p1, .int p2]) (rest := []) (c_X12_areWed w p1 p2 σ) cw_X12_274 rfl rfl dX12_isSecret_12 kc_171 ci_12 ⟨Nat.le_of_ble_eq_true rfl, Nat.le_of_ble_eq_true rfl⟩ rfl rfl (Nat.le_of_ble_eq_true rfl) (Nat.le_of_ble_eq_true rfl) (Nat.le_of_ble_eq_true rfl) rfl (fun q12 => ?_)
    refine V_if_ne (pc := 15) (tgt := 22) dX12_isSecret_15 (by decide +kernel) ?_ ?_
    · refine V_sub (vs' := [none, none, none]) (show vless _ _ from trivial) rfl ?_
      exact hJ22 ()
    · refine V_iconst (pc := 18) dX12_isSecret_18 ic_1 ?_
      refine V_goto (pc := 19) (tgt := 23) dX12_isSecret_19 (by decide +kernel) ?_
      refine V_sub (vs' := [none, none, none]) (show vless _ _ from trivial) rfl ?_
      exact hJ23 (1 : Int32)
