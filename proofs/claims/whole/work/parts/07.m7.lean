def m_X12_count : MD := (yX12_count, cX12_count, 2, (some .int), 3, 66, 0, 0)
theorem wm_X12_pairsWed : wmp m_X12_pairsWed 0 := ⟨gx 2149 (by decide +kernel) (by decide +kernel), gx 125 (by decide +kernel) (by decide +kernel), gx 138 (by decide +kernel) (by decide +kernel), gx 2150 (by decide +kernel) (by decide +kernel), by decide +kernel, by decide +kernel, by decide +kernel⟩
theorem cw_X12_437 : cwp RX12 437 m_X12_pairsWed 0 := cwp_of wm_X12_pairsWed (gx 2147 (by decide +kernel) (by decide +kernel))
def J_X12_count_143 (n : Nat) (t0 : Int32) (σ : MS) : Option (Int32 × MS) := some (t0, σ)
def J_X12_count_86 (n : Nat) (t0 : Int32) (σ : MS) : Option (Int32 × MS) := some (t0, σ)
def f_X12_count (n : Nat) (p1 : Int32) (σ : MS) : Option (Int32 × MS) := (ltM (mu σ 171 0 (0 : Int32)) (fun s2 => (if p1 = (2 : Int32) then (if (s2 172 2) = (1 : Int32) then J_X12_count_86 n (s2 172 474) s2 else J_X12_count_86 n (-1 : Int32) s2) else (if p1 = (7 : Int32) then ((f_X12_suspectedOfAll n  s2).bind (fun q88 => some (q88, s2))) else (if p1 = (8 : Int32) then ((f_X12_pairsWed n  s2).bind (fun q93 => some (q93, s2))) else (if p1 = (9 : Int32) then ((f_X12_bondsThatHold n  s2).bind (fun q98 => some (q98, s2))) else (if p1 = (10 : Int32) then some ((s2 172 7), s2) else (if p1 = (11 : Int32) then some ((s2 172 8), s2) else (if p1 = (12 : Int32) then some ((s2 171 7), s2) else ((f_X12_in p1 (0 : Int32) (6 : Int32) s2).bind (fun q127 => (if q127 = 0 then J_X12_count_143 n (-1 : Int32) s2 else (if inb p1 2172 then J_X12_count_143 n (s2 172 (ix p1)) s2 else none)))))))))))))
set_option maxRecDepth 20000 in
set_option maxHeartbeats 2000000 in
theorem c_X12_count (w : TG) (n : Nat) (p1 : Int32) (σ : MS) : MC m_X12_count w [.ref (wB w + 171), .int p1] σ (f_X12_count n p1 σ) := by
  refine V_meth (by decide +kernel) (Nat.le_of_ble_eq_true rfl) (by intro v hv; simp only [List.mem_cons, List.not_mem_nil, or_false] at hv; rcases hv with rfl | rfl <;> rfl) (fun g x => ?_)
  show VV m_X12_count w g 0 0 (QM m_X12_count w g x) (fun b : Int32 × MS => b = x) 0 [some (.ref (wB w + 171)), some (.int p1)] [] σ (f_X12_count n p1 σ)
  have hJ143 : ∀ (t0 : Int32) (σ : MS), VV m_X12_count w g 0 0 (QM m_X12_count w g x) (fun b : Int32 × MS => b = x) 143 [none, none] [.int t0] σ (J_X12_count_143 n t0 σ) := by
    intro t0 σ
    exact V_ireti (pc := 143) dX12_count_143 rfl (hk := fun h => h)
  have hJ86 : ∀ (t0 : Int32) (σ : MS), VV m_X12_count w g 0 0 (QM m_X12_count w g x) (fun b : Int32 × MS => b = x) 86 [none, none] [.int t0] σ (J_X12_count_86 n t0 σ) := by
    intro t0 σ
    exact V_ireti (pc := 86) dX12_count_86 rfl (hk := fun h => h)
  refine V_aload_n (pc := 0) dX12_count_0 rfl rfl ?_
  refine V_iconst (pc := 1) dX12_count_1 ic_0 ?_
  refine V_puti (pc := 2) fp_X12_3 rfl dX12_count_2 kc_171 rf_12_0_171 (fun s2 => ?_)
  refine V_iload_n (pc := 5) dX12_count_5 rfl rfl ?_
  refine V_ite (c := p1 = (2 : Int32)) (fun hx => ?_) (fun hx2 => ?_)
  · refine V_tabIn (pc := 6) (x := p1) (tgt := 64) dX12_count_6 (by rw [hx]; decide) (by rw [hx]; decide) (by rw [hx]; rfl) (by decide) ?_
    refine V_aload_n (pc := 64) dX12_count_64 rfl rfl ?_
    refine V_getr (pc := 65) (t := 172) fk_X12_13 rfl dX12_count_65 kc_171 rf_12_1_171 ?_
    refine V_iconst (pc := 68) dX12_count_68 ic_2 ?_
    refine V_ialdC (pc := 69) (n := 2172) dX12_count_69 kc_172 lc_172 inb_2_2172 ?_
    refine V_iconst (pc := 70) dX12_count_70 ic_1 ?_
    refine V_icmp_ne (pc := 71) (tgt := 85) dX12_count_71 (by decide +kernel) ?_ ?_
    · refine V_iconst (pc := 85) dX12_count_85 ic_m1 ?_
      refine V_sub (vs' := [none, none]) (show vless _ _ from trivial) rfl ?_
      exact hJ86 (-1 : Int32) s2
    · refine V_aload_n (pc := 74) dX12_count_74 rfl rfl ?_
      refine V_getr (pc := 75) (t := 172) fk_X12_13 rfl dX12_count_75 kc_171 rf_12_1_171 ?_
      refine V_sipush (pc := 78) dX12_count_78 sp_474 ?_
      refine V_ialdC (pc := 81) (n := 2172) dX12_count_81 kc_172 lc_172 inb_474_2172 ?_
      refine V_goto (pc := 82) (tgt := 86) dX12_count_82 (by decide +kernel) ?_
      refine V_sub (vs' := [none, none]) (show vless _ _ from trivial) rfl ?_
      exact hJ86 (s2 172 474) s2
  refine V_ite (c := p1 = (7 : Int32)) (fun hx => ?_) (fun hx7 => ?_)
  · refine V_tabIn (pc := 6) (x := p1) (tgt := 87) dX12_count_6 (by rw [hx]; decide) (by rw [hx]; decide) (by rw [hx]; rfl) (by decide) ?_
    refine V_aload_n (pc := 87) dX12_count_87 rfl rfl ?_
    refine V_callVpi (pc := 88) (As := []) (rest := []) (c_X12_suspectedOfAll w n  s2) cw_X12_431 rfl rfl dX12_count_88 kc_171 ci_12 ⟨Nat.le_of_ble_eq_true rfl, Nat.le_of_ble_eq_true rfl⟩ rfl rfl (Nat.le_of_ble_eq_true rfl) (Nat.le_of_ble_eq_true rfl) (Nat.le_of_ble_eq_true rfl) rfl (fun q88 => ?_)
    exact V_ireti (pc := 91) dX12_count_91 rfl (hk := fun h => h)
  refine V_ite (c := p1 = (8 : Int32)) (fun hx => ?_) (fun hx8 => ?_)
  · refine V_tabIn (pc := 6) (x := p1) (tgt := 92) dX12_count_6 (by rw [hx]; decide) (by rw [hx]; decide) (by rw [hx]; rfl) (by decide) ?_
    refine V_aload_n (pc := 92) dX12_count_92 rfl rfl ?_
    refine V_callVpi (pc := 93) (As := []) (rest := []) (c_X12_pairsWed w n  s2) cw_X12_437 rfl rfl dX12_count_93 kc_171 ci_12 ⟨Nat.le_of_ble_eq_true rfl, Nat.le_of_ble_eq_true rfl⟩ rfl rfl (Nat.le_of_ble_eq_true rfl) (Nat.le_of_ble_eq_true rfl) (Nat.le_of_ble_eq_true rfl) rfl (fun q93 => ?_)
    exact V_ireti (pc := 96) dX12_count_96 rfl (hk := fun h => h)
  refine V_ite (c := p1 = (9 : Int32)) (fun hx => ?_) (fun hx9 => ?_)
  · refine V_tabIn (pc := 6) (x := p1) (tgt := 97) dX12_count_6 (by rw [hx]; decide) (by rw [hx]; decide) (by rw [hx]; rfl) (by decide) ?_
    refine V_aload_n (pc := 97) dX12_count_97 rfl rfl ?_
    refine V_callVpi (pc := 98) (As := []) (rest := []) (c_X12_bondsThatHold w n  s2) cw_X12_345 rfl rfl dX12_count_98 kc_171 ci_12 ⟨Nat.le_of_ble_eq_true rfl, Nat.le_of_ble_eq_true rfl⟩ rfl rfl (Nat.le_of_ble_eq_true rfl) (Nat.le_of_ble_eq_true rfl) (Nat.le_of_ble_eq_true rfl) rfl (fun q98 => ?_)
    exact V_ireti (pc := 101) dX12_count_101 rfl (hk := fun h => h)
  refine V_ite (c := p1 = (10 : Int32)) (fun hx => ?_) (fun hx10 => ?_)
  · refine V_tabIn (pc := 6) (x := p1) (tgt := 102) dX12_count_6 (by rw [hx]; decide) (by rw [hx]; decide) (by rw [hx]; rfl) (by decide) ?_
    refine V_aload_n (pc := 102) dX12_count_102 rfl rfl ?_
    refine V_getr (pc := 103) (t := 172) fk_X12_13 rfl dX12_count_103 kc_171 rf_12_1_171 ?_
    refine V_bipush (pc := 106) dX12_count_106 bp_7 ?_
    refine V_ialdC (pc := 108) (n := 2172) dX12_count_108 kc_172 lc_172 inb_7_2172 ?_
    exact V_ireti (pc := 109) dX12_count_109 rfl (hk := fun h => h)
  refine V_ite (c := p1 = (11 : Int32)) (fun hx => ?_) (fun hx11 => ?_)
  · refine V_tabIn (pc := 6) (x := p1) (tgt := 110) dX12_count_6 (by rw [hx]; decide) (by rw [hx]; decide) (by rw [hx]; rfl) (by decide) ?_
    refine V_aload_n (pc := 110) dX12_count_110 rfl rfl ?_
    refine V_getr (pc := 111) (t := 172) fk_X12_13 rfl dX12_count_111 kc_171 rf_12_1_171 ?_
    refine V_bipush (pc := 114) dX12_count_114 bp_8 ?_
    refine V_ialdC (pc := 116) (n := 2172) dX12_count_116 kc_172 lc_172 inb_8_2172 ?_
    exact V_ireti (pc := 117) dX12_count_117 rfl (hk := fun h => h)
  refine V_ite (c := p1 = (12 : Int32)) (fun hx => ?_) (fun hx12 => ?_)
  · refine V_tabIn (pc := 6) (x := p1) (tgt := 118) dX12_count_6 (by rw [hx]; decide) (by rw [hx]; decide) (by rw [hx]; rfl) (by decide) ?_
    refine V_aload_n (pc := 118) dX12_count_118 rfl rfl ?_
    refine V_geti (pc := 119) fk_X12_55 rfl dX12_count_119 kc_171 rf_12_7_171 ?_
    exact V_ireti (pc := 122) dX12_count_122 rfl (hk := fun h => h)
  by_cases hd3 : p1 = (3 : Int32)
  · refine V_tabIn (pc := 6) (x := p1) (tgt := 123) dX12_count_6 (by rw [hd3]; decide) (by rw [hd3]; decide) (by rw [hd3]; rfl) (by decide) ?_
    refine V_iload_n (pc := 123) dX12_count_123 rfl rfl ?_
    refine V_iconst (pc := 124) dX12_count_124 ic_0 ?_
    refine V_bipush (pc := 125) dX12_count_125 bp_6 ?_
    refine V_callSpi (pc := 127) (As := [.int p1, .int (0 : Int32), .int (6 : Int32)]) (rest := []) (c_X12_in w p1 (0 : Int32) (6 : Int32) s2) cs_X12_79 rfl rfl dX12_count_127 ⟨Nat.le_of_ble_eq_true rfl, Nat.le_of_ble_eq_true rfl⟩ rfl rfl (Nat.le_of_ble_eq_true rfl) (Nat.le_of_ble_eq_true rfl) (Nat.le_of_ble_eq_true rfl) rfl (fun q127 => ?_)
    refine V_if_eq (pc := 130) (tgt := 142) dX12_count_130 (by decide +kernel) ?_ ?_
    · refine V_iconst (pc := 142) dX12_count_142 ic_m1 ?_
      refine V_sub (vs' := [none, none]) (show vless _ _ from trivial) rfl ?_
      exact hJ143 (-1 : Int32) s2
    · refine V_aload_n (pc := 133) dX12_count_133 rfl rfl ?_
      refine V_getr (pc := 134) (t := 172) fk_X12_13 rfl dX12_count_134 kc_171 rf_12_1_171 ?_
      refine V_iload_n (pc := 137) dX12_count_137 rfl rfl ?_
      refine V_iald (pc := 138) (n := 2172) dX12_count_138 kc_172 lc_172 ?_
      refine V_goto (pc := 139) (tgt := 143) dX12_count_139 (by decide +kernel) ?_
      refine V_sub (vs' := [none, none]) (show vless _ _ from trivial) rfl ?_
      exact hJ143 (s2 172 (ix p1)) s2
  by_cases hd4 : p1 = (4 : Int32)
  · refine V_tabIn (pc := 6) (x := p1) (tgt := 123) dX12_count_6 (by rw [hd4]; decide) (by rw [hd4]; decide) (by rw [hd4]; rfl) (by decide) ?_
    refine V_iload_n (pc := 123) dX12_count_123 rfl rfl ?_
    refine V_iconst (pc := 124) dX12_count_124 ic_0 ?_
    refine V_bipush (pc := 125) dX12_count_125 bp_6 ?_
    refine V_callSpi (pc := 127) (As := [.int p1, .int (0 : Int32), .int (6 : Int32)]) (rest := []) (c_X12_in w p1 (0 : Int32) (6 : Int32) s2) cs_X12_79 rfl rfl dX12_count_127 ⟨Nat.le_of_ble_eq_true rfl, Nat.le_of_ble_eq_true rfl⟩ rfl rfl (Nat.le_of_ble_eq_true rfl) (Nat.le_of_ble_eq_true rfl) (Nat.le_of_ble_eq_true rfl) rfl (fun q127 => ?_)
    refine V_if_eq (pc := 130) (tgt := 142) dX12_count_130 (by decide +kernel) ?_ ?_
    · refine V_iconst (pc := 142) dX12_count_142 ic_m1 ?_
      refine V_sub (vs' := [none, none]) (show vless _ _ from trivial) rfl ?_
      exact hJ143 (-1 : Int32) s2
    · refine V_aload_n (pc := 133) dX12_count_133 rfl rfl ?_
      refine V_getr (pc := 134) (t := 172) fk_X12_13 rfl dX12_count_134 kc_171 rf_12_1_171 ?_
      refine V_iload_n (pc := 137) dX12_count_137 rfl rfl ?_
      refine V_iald (pc := 138) (n := 2172) dX12_count_138 kc_172 lc_172 ?_
      refine V_goto (pc := 139) (tgt := 143) dX12_count_139 (by decide +kernel) ?_
      refine V_sub (vs' := [none, none]) (show vless _ _ from trivial) rfl ?_
      exact hJ143 (s2 172 (ix p1)) s2
  by_cases hd5 : p1 = (5 : Int32)
  · refine V_tabIn (pc := 6) (x := p1) (tgt := 123) dX12_count_6 (by rw [hd5]; decide) (by rw [hd5]; decide) (by rw [hd5]; rfl) (by decide) ?_
    refine V_iload_n (pc := 123) dX12_count_123 rfl rfl ?_
    refine V_iconst (pc := 124) dX12_count_124 ic_0 ?_
    refine V_bipush (pc := 125) dX12_count_125 bp_6 ?_
    refine V_callSpi (pc := 127) (As := [.int p1, .int (0 : Int32), .int (6 : Int32)]) (rest := []) (c_X12_in w p1 (0 : Int32) (6 : Int32) s2) cs_X12_79 rfl rfl dX12_count_127 ⟨Nat.le_of_ble_eq_true rfl, Nat.le_of_ble_eq_true rfl⟩ rfl rfl (Nat.le_of_ble_eq_true rfl) (Nat.le_of_ble_eq_true rfl) (Nat.le_of_ble_eq_true rfl) rfl (fun q127 => ?_)
    refine V_if_eq (pc := 130) (tgt := 142) dX12_count_130 (by decide +kernel) ?_ ?_
    · refine V_iconst (pc := 142) dX12_count_142 ic_m1 ?_
      refine V_sub (vs' := [none, none]) (show vless _ _ from trivial) rfl ?_
      exact hJ143 (-1 : Int32) s2
    · refine V_aload_n (pc := 133) dX12_count_133 rfl rfl ?_
      refine V_getr (pc := 134) (t := 172) fk_X12_13 rfl dX12_count_134 kc_171 rf_12_1_171 ?_
      refine V_iload_n (pc := 137) dX12_count_137 rfl rfl ?_
      refine V_iald (pc := 138) (n := 2172) dX12_count_138 kc_172 lc_172 ?_
      refine V_goto (pc := 139) (tgt := 143) dX12_count_139 (by decide +kernel) ?_
      refine V_sub (vs' := [none, none]) (show vless _ _ from trivial) rfl ?_
      exact hJ143 (s2 172 (ix p1)) s2
  by_cases hd6 : p1 = (6 : Int32)
  · refine V_tabIn (pc := 6) (x := p1) (tgt := 123) dX12_count_6 (by rw [hd6]; decide) (by rw [hd6]; decide) (by rw [hd6]; rfl) (by decide) ?_
    refine V_iload_n (pc := 123) dX12_count_123 rfl rfl ?_
    refine V_iconst (pc := 124) dX12_count_124 ic_0 ?_
    refine V_bipush (pc := 125) dX12_count_125 bp_6 ?_
    refine V_callSpi (pc := 127) (As := [.int p1, .int (0 : Int32), .int (6 : Int32)]) (rest := []) (c_X12_in w p1 (0 : Int32) (6 : Int32) s2) cs_X12_79 rfl rfl dX12_count_127 ⟨Nat.le_of_ble_eq_true rfl, Nat.le_of_ble_eq_true rfl⟩ rfl rfl (Nat.le_of_ble_eq_true rfl) (Nat.le_of_ble_eq_true rfl) (Nat.le_of_ble_eq_true rfl) rfl (fun q127 => ?_)
    refine V_if_eq (pc := 130) (tgt := 142) dX12_count_130 (by decide +kernel) ?_ ?_
    · refine V_iconst (pc := 142) dX12_count_142 ic_m1 ?_
      refine V_sub (vs' := [none, none]) (show vless _ _ from trivial) rfl ?_
      exact hJ143 (-1 : Int32) s2
    · refine V_aload_n (pc := 133) dX12_count_133 rfl rfl ?_
      refine V_getr (pc := 134) (t := 172) fk_X12_13 rfl dX12_count_134 kc_171 rf_12_1_171 ?_
      refine V_iload_n (pc := 137) dX12_count_137 rfl rfl ?_
      refine V_iald (pc := 138) (n := 2172) dX12_count_138 kc_172 lc_172 ?_
      refine V_goto (pc := 139) (tgt := 143) dX12_count_139 (by decide +kernel) ?_
      refine V_sub (vs' := [none, none]) (show vless _ _ from trivial) rfl ?_
      exact hJ143 (s2 172 (ix p1)) s2
  refine V_tabOut (pc := 6) (tgt := 123) dX12_count_6 (tabout p1 2 12 (by decide) (by decide) (fun k h1 h2 => ?_)) (by decide) ?_
  · rcases (show k = 2 ∨ k = 3 ∨ k = 4 ∨ k = 5 ∨ k = 6 ∨ k = 7 ∨ k = 8 ∨ k = 9 ∨ k = 10 ∨ k = 11 ∨ k = 12 by omega) with rfl | rfl | rfl | rfl | rfl | rfl | rfl | rfl | rfl | rfl | rfl
    · exact hx2
    · exact hd3
    · exact hd4
    · exact hd5
    · exact hd6
    · exact hx7
    · exact hx8
    · exact hx9
    · exact hx10
    · exact hx11
    · exact hx12
  · refine V_iload_n (pc := 123) dX12_count_123 rfl rfl ?_
    refine V_iconst (pc := 124) dX12_count_124 ic_0 ?_
    refine V_bipush (pc := 125) dX12_count_125 bp_6 ?_
    refine V_callSpi (pc := 127) (As := [.int p1, .int (0 : Int32), .int (6 : Int32)]) (rest := []) (c_X12_in w p1 (0 : Int32) (6 : Int32) s2) cs_X12_79 rfl rfl dX12_count_127 ⟨Nat.le_of_ble_eq_true rfl, Nat.le_of_ble_eq_true rfl⟩ rfl rfl (Nat.le_of_ble_eq_true rfl) (Nat.le_of_ble_eq_true rfl) (Nat.le_of_ble_eq_true rfl) rfl (fun q127 => ?_)
    refine V_if_eq (pc := 130) (tgt := 142) dX12_count_130 (by decide +kernel) ?_ ?_
    · refine V_iconst (pc := 142) dX12_count_142 ic_m1 ?_
      refine V_sub (vs' := [none, none]) (show vless _ _ from trivial) rfl ?_
      exact hJ143 (-1 : Int32) s2
    · refine V_aload_n (pc := 133) dX12_count_133 rfl rfl ?_
      refine V_getr (pc := 134) (t := 172) fk_X12_13 rfl dX12_count_134 kc_171 rf_12_1_171 ?_
      refine V_iload_n (pc := 137) dX12_count_137 rfl rfl ?_
      refine V_iald (pc := 138) (n := 2172) dX12_count_138 kc_172 lc_172 ?_
      refine V_goto (pc := 139) (tgt := 143) dX12_count_139 (by decide +kernel) ?_
      refine V_sub (vs' := [none, none]) (show vless _ _ from trivial) rfl ?_
      exact hJ143 (s2 172 (ix p1)) s2
