def m_X9_append : MD := (yX9_append, cX9_append, 3, none, 0, 0, 0, 0)
def m_X9_kindAt : MD := (yX9_kindAt, cX9_kindAt, 2, (some .int), 0, 0, 0, 0)
def m_X9_advance : MD := (yX9_advance, cX9_advance, 2, none, 1, 21, 0, 0)
def m_X9_begin : MD := (yX9_begin, cX9_begin, 1, none, 2, 42, 0, 0)
def m_X9_isOver : MD := (yX9_isOver, cX9_isOver, 1, (some .boolean), 0, 0, 0, 0)
def m_X9_wordAmong : MD := (yX9_wordAmong, cX9_wordAmong, 7, (some .int), 4, 200, 0, 0)
def m_X9_skipWord : MD := (yX9_skipWord, cX9_skipWord, 2, (some .boolean), 5, 226, 0, 0)
def m_X9_number : MD := (yX9_number, cX9_number, 5, (some .int), 0, 0, 0, 0)
def m_X9_isFigures : MD := (yX9_isFigures, cX9_isFigures, 2, (some .boolean), 0, 0, 0, 0)
def m_X9_isWord : MD := (yX9_isWord, cX9_isWord, 1, (some .boolean), 0, 0, 0, 0)
def m_X9_isSign : MD := (yX9_isSign, cX9_isSign, 2, (some .boolean), 0, 0, 0, 0)
def m_X9_skipSign : MD := (yX9_skipSign, cX9_skipSign, 2, (some .boolean), 2, 42, 0, 0)
def m_X10_widened : MD := (yX10_widened, cX10_widened, 4, (some .int), 3, 69, 0, 0)
def m_X10_around : MD := (yX10_around, cX10_around, 4, (some .int), 4, 92, 0, 0)
def m_X10_groups : MD := (yX10_groups, cX10_groups, 4, (some .int), 5, 115, 0, 0)
def m_X10_lastDay : MD := (yX10_lastDay, cX10_lastDay, 4, (some .int), 4, 200, 0, 0)
def m_X10_unboundOn : MD := (yX10_unboundOn, cX10_unboundOn, 5, (some .int), 1, 24, 0, 0)
def m_X10_hidden : MD := (yX10_hidden, cX10_hidden, 4, (some .int), 3, 68, 0, 0)
def m_X10_leaving : MD := (yX10_leaving, cX10_leaving, 4, (some .int), 3, 69, 0, 0)
def m_X10_cut : MD := (yX10_cut, cX10_cut, 5, (some .int), 4, 200, 0, 0)
def m_X10_knowsAll : MD := (yX10_knowsAll, cX10_knowsAll, 4, (some .boolean), 3, 68, 0, 0)
def m_X10_cover : MD := (yX10_cover, cX10_cover, 3, (some .int), 4, 91, 0, 0)
def m_X10_steps : MD := (yX10_steps, cX10_steps, 5, (some .int), 4, 92, 0, 0)
def m_X10_centre : MD := (yX10_centre, cX10_centre, 5, (some .int), 3, 69, 0, 0)
def m_X3_stepsRound : MD := (yX3_stepsRound, cX3_stepsRound, 6, (some .int), 0, 0, 0, 0)
def m_X3_steps : MD := (yX3_steps, cX3_steps, 5, (some .int), 4, 200, 0, 0)
def m_X3_meeting : MD := (yX3_meeting, cX3_meeting, 9, (some .int), 5, 224, 0, 0)
def m_X3_caught : MD := (yX3_caught, cX3_caught, 6, (some .int), 3, 68, 0, 0)
def m_X3_catching : MD := (yX3_catching, cX3_catching, 5, (some .int), 4, 93, 0, 0)
def m_X10_holding : MD := (yX10_holding, cX10_holding, 3, (some .int), 3, 69, 0, 0)
theorem fk_X9_15 : fk RX9 15 9 1 := ⟨_, _, _, rfl, in_9, by decide, rfl, by decide, gx 173 (by decide +kernel) (by decide +kernel)⟩
theorem fk_X9_9 : fk RX9 9 9 0 := ⟨_, _, _, rfl, in_9, by decide, rfl, by decide, gx 169 (by decide +kernel) (by decide +kernel)⟩
theorem fp_X9_15 : fp RX9 15 9 1 .int := ⟨_, _, _, tyX9, rfl, in_9, by decide, rfl, by decide, gx 173 (by decide +kernel) (by decide +kernel), rfl, by decide +kernel, tyX9_ok, nmX9⟩
theorem fp_X9_19 : fp RX9 19 9 3 .int := ⟨_, _, _, tyX9, rfl, in_9, by decide, rfl, by decide, gx 178 (by decide +kernel) (by decide +kernel), rfl, by decide +kernel, tyX9_ok, nmX9⟩
theorem fk_X9_32 : fk RX9 32 9 4 := ⟨_, _, _, rfl, in_9, by decide, rfl, by decide, gx 180 (by decide +kernel) (by decide +kernel)⟩
theorem wm_X9_kindAt : wmp m_X9_kindAt 1 := ⟨gx 702 (by decide +kernel) (by decide +kernel), gx 4 (by decide +kernel) (by decide +kernel), gx 128 (by decide +kernel) (by decide +kernel), gx 703 (by decide +kernel) (by decide +kernel), by decide +kernel, by decide +kernel, by decide +kernel⟩
theorem cw_X9_28 : cwp RX9 28 m_X9_kindAt 1 := cwp_of wm_X9_kindAt (gx 700 (by decide +kernel) (by decide +kernel))
theorem fp_X9_25 : fp RX9 25 9 2 .int := ⟨_, _, _, tyX9, rfl, in_9, by decide, rfl, by decide, gx 175 (by decide +kernel) (by decide +kernel), rfl, by decide +kernel, tyX9_ok, nmX9⟩
theorem fp_X9_32 : fp RX9 32 9 4 .int := ⟨_, _, _, tyX9, rfl, in_9, by decide, rfl, by decide, gx 180 (by decide +kernel) (by decide +kernel), rfl, by decide +kernel, tyX9_ok, nmX9⟩
theorem fk_X9_19 : fk RX9 19 9 3 := ⟨_, _, _, rfl, in_9, by decide, rfl, by decide, gx 178 (by decide +kernel) (by decide +kernel)⟩
theorem wm_X9_advance : wmp m_X9_advance 0 := ⟨gx 697 (by decide +kernel) (by decide +kernel), gx 698 (by decide +kernel) (by decide +kernel), gx 128 (by decide +kernel) (by decide +kernel), gx 699 (by decide +kernel) (by decide +kernel), by decide +kernel, by decide +kernel, by decide +kernel⟩
theorem cw_X9_22 : cwp RX9 22 m_X9_advance 0 := cwp_of wm_X9_advance (gx 696 (by decide +kernel) (by decide +kernel))
theorem fk_X9_25 : fk RX9 25 9 2 := ⟨_, _, _, rfl, in_9, by decide, rfl, by decide, gx 175 (by decide +kernel) (by decide +kernel)⟩
theorem wm_J0_length_8abf5 : wmp m_J0_length_8abf5 0 := ⟨gx 718 (by decide +kernel) (by decide +kernel), gx 719 (by decide +kernel) (by decide +kernel), gx 140 (by decide +kernel) (by decide +kernel), gx 720 (by decide +kernel) (by decide +kernel), by decide +kernel, by decide +kernel, by decide +kernel⟩
theorem cw_X9_35 : cwp RX9 35 m_J0_length_8abf5 0 := cwp_of wm_J0_length_8abf5 (gx 717 (by decide +kernel) (by decide +kernel))
theorem wm_J0_charAt_5068e : wmp m_J0_charAt_5068e 1 := ⟨gx 728 (by decide +kernel) (by decide +kernel), gx 729 (by decide +kernel) (by decide +kernel), gx 140 (by decide +kernel) (by decide +kernel), gx 730 (by decide +kernel) (by decide +kernel), by decide +kernel, by decide +kernel, by decide +kernel⟩
theorem cw_X9_40 : cwp RX9 40 m_J0_charAt_5068e 1 := cwp_of wm_J0_charAt_5068e (gx 727 (by decide +kernel) (by decide +kernel))
theorem wm_X9_wordAmong : wmp m_X9_wordAmong 1 := ⟨gx 714 (by decide +kernel) (by decide +kernel), gx 715 (by decide +kernel) (by decide +kernel), gx 128 (by decide +kernel) (by decide +kernel), gx 716 (by decide +kernel) (by decide +kernel), by decide +kernel, by decide +kernel, by decide +kernel⟩
theorem cw_X9_44 : cwp RX9 44 m_X9_wordAmong 1 := cwp_of wm_X9_wordAmong (gx 775 (by decide +kernel) (by decide +kernel))
theorem wm_X9_isSign : wmp m_X9_isSign 1 := ⟨gx 830 (by decide +kernel) (by decide +kernel), gx 831 (by decide +kernel) (by decide +kernel), gx 128 (by decide +kernel) (by decide +kernel), gx 832 (by decide +kernel) (by decide +kernel), by decide +kernel, by decide +kernel, by decide +kernel⟩
theorem cw_X9_48 : cwp RX9 48 m_X9_isSign 1 := cwp_of wm_X9_isSign (gx 829 (by decide +kernel) (by decide +kernel))
theorem fk_X10_9 : fk RX10 9 10 0 := ⟨_, _, _, rfl, in_10, by decide, rfl, by decide, gx 360 (by decide +kernel) (by decide +kernel)⟩
theorem fk_X10_15 : fk RX10 15 4 0 := ⟨_, _, _, rfl, in_4, by decide, rfl, by decide, gx 200 (by decide +kernel) (by decide +kernel)⟩
theorem wm_X4_boundTo : wmp m_X4_boundTo 1 := ⟨gx 511 (by decide +kernel) (by decide +kernel), gx 512 (by decide +kernel) (by decide +kernel), gx 129 (by decide +kernel) (by decide +kernel), gx 513 (by decide +kernel) (by decide +kernel), by decide +kernel, by decide +kernel, by decide +kernel⟩
theorem cw_X10_21 : cwp RX10 21 m_X4_boundTo 1 := cwp_of wm_X4_boundTo (gx 510 (by decide +kernel) (by decide +kernel))
theorem wm_X10_widened : wmp m_X10_widened 1 := ⟨gx 508 (by decide +kernel) (by decide +kernel), gx 0 (by decide +kernel) (by decide +kernel), gx 134 (by decide +kernel) (by decide +kernel), gx 509 (by decide +kernel) (by decide +kernel), by decide +kernel, by decide +kernel, by decide +kernel⟩
theorem cw_X10_25 : cwp RX10 25 m_X10_widened 1 := cwp_of wm_X10_widened (gx 506 (by decide +kernel) (by decide +kernel))
theorem wm_X10_around : wmp m_X10_around 1 := ⟨gx 503 (by decide +kernel) (by decide +kernel), gx 504 (by decide +kernel) (by decide +kernel), gx 134 (by decide +kernel) (by decide +kernel), gx 505 (by decide +kernel) (by decide +kernel), by decide +kernel, by decide +kernel, by decide +kernel⟩
theorem cw_X10_28 : cwp RX10 28 m_X10_around 1 := cwp_of wm_X10_around (gx 502 (by decide +kernel) (by decide +kernel))
theorem wm_J6_lowestOneBit_0f7a4 : wms m_J6_lowestOneBit_0f7a4 1 := ⟨gx 523 (by decide +kernel) (by decide +kernel), gx 152 (by decide +kernel) (by decide +kernel), gx 524 (by decide +kernel) (by decide +kernel), by decide +kernel, by decide +kernel, by decide +kernel⟩
theorem cs_X10_31 : csp RX10 31 m_J6_lowestOneBit_0f7a4 1 := csp_of wm_J6_lowestOneBit_0f7a4 (gx 522 (by decide +kernel) (by decide +kernel))
theorem wm_X4_heldTill : wmp m_X4_heldTill 2 := ⟨gx 534 (by decide +kernel) (by decide +kernel), gx 535 (by decide +kernel) (by decide +kernel), gx 129 (by decide +kernel) (by decide +kernel), gx 536 (by decide +kernel) (by decide +kernel), by decide +kernel, by decide +kernel, by decide +kernel⟩
theorem cw_X10_46 : cwp RX10 46 m_X4_heldTill 2 := cwp_of wm_X4_heldTill (gx 533 (by decide +kernel) (by decide +kernel))
theorem mw_X10_50 : Cond.methodLink RX10 50 Lib.Math.max.name ∈ gtb ∧ Cond.static Lib.Math.max.name ∈ gtb ∧ Cond.initialized "java/lang/Math" ∈ gtb ∧ Cond.code Lib.Math.max.name Lib.Math.max.code 2 (some .int) ∈ gtb := ⟨gx 537 (by decide +kernel) (by decide +kernel), math_max⟩
theorem fk_X10_43 : fk RX10 43 4 5 := ⟨_, _, _, rfl, in_4, by decide, rfl, by decide, gx 227 (by decide +kernel) (by decide +kernel)⟩
theorem cw_X10_55 : cwp RX10 55 m_X4_holdsOn 3 := cwp_of wm_X4_holdsOn (gx 1226 (by decide +kernel) (by decide +kernel))
theorem wm_X4_everybody : wmp m_X4_everybody 0 := ⟨gx 593 (by decide +kernel) (by decide +kernel), gx 594 (by decide +kernel) (by decide +kernel), gx 129 (by decide +kernel) (by decide +kernel), gx 595 (by decide +kernel) (by decide +kernel), by decide +kernel, by decide +kernel, by decide +kernel⟩
theorem cw_X10_59 : cwp RX10 59 m_X4_everybody 0 := cwp_of wm_X4_everybody (gx 609 (by decide +kernel) (by decide +kernel))
theorem wm_X4_isSecret : wmp m_X4_isSecret 2 := ⟨gx 549 (by decide +kernel) (by decide +kernel), gx 550 (by decide +kernel) (by decide +kernel), gx 129 (by decide +kernel) (by decide +kernel), gx 551 (by decide +kernel) (by decide +kernel), by decide +kernel, by decide +kernel, by decide +kernel⟩
theorem cw_X10_39 : cwp RX10 39 m_X4_isSecret 2 := cwp_of wm_X4_isSecret (gx 548 (by decide +kernel) (by decide +kernel))
theorem wm_J6_bitCount_0f7a4 : wms m_J6_bitCount_0f7a4 1 := ⟨gx 611 (by decide +kernel) (by decide +kernel), gx 152 (by decide +kernel) (by decide +kernel), gx 612 (by decide +kernel) (by decide +kernel), by decide +kernel, by decide +kernel, by decide +kernel⟩
theorem cs_X10_36 : csp RX10 36 m_J6_bitCount_0f7a4 1 := csp_of wm_J6_bitCount_0f7a4 (gx 610 (by decide +kernel) (by decide +kernel))
theorem wm_X10_leaving : wmp m_X10_leaving 1 := ⟨gx 1268 (by decide +kernel) (by decide +kernel), gx 33 (by decide +kernel) (by decide +kernel), gx 134 (by decide +kernel) (by decide +kernel), gx 1269 (by decide +kernel) (by decide +kernel), by decide +kernel, by decide +kernel, by decide +kernel⟩
theorem cw_X10_63 : cwp RX10 63 m_X10_leaving 1 := cwp_of wm_X10_leaving (gx 1266 (by decide +kernel) (by decide +kernel))
theorem mw_X10_66 : Cond.methodLink RX10 66 Lib.Math.min.name ∈ gtb ∧ Cond.static Lib.Math.min.name ∈ gtb ∧ Cond.initialized "java/lang/Math" ∈ gtb ∧ Cond.code Lib.Math.min.name Lib.Math.min.code 2 (some .int) ∈ gtb := ⟨gx 1270 (by decide +kernel) (by decide +kernel), math_min⟩
theorem wm_X10_knowsAll : wmp m_X10_knowsAll 1 := ⟨gx 618 (by decide +kernel) (by decide +kernel), gx 3 (by decide +kernel) (by decide +kernel), gx 134 (by decide +kernel) (by decide +kernel), gx 619 (by decide +kernel) (by decide +kernel), by decide +kernel, by decide +kernel, by decide +kernel⟩
theorem cw_X10_69 : cwp RX10 69 m_X10_knowsAll 1 := cwp_of wm_X10_knowsAll (gx 616 (by decide +kernel) (by decide +kernel))
theorem fk_X3_9 : fk RX3 9 3 0 := ⟨_, _, _, rfl, in_3, by decide, rfl, by decide, gx 391 (by decide +kernel) (by decide +kernel)⟩
theorem fk_X3_28 : fk RX3 28 4 2 := ⟨_, _, _, rfl, in_4, by decide, rfl, by decide, gx 211 (by decide +kernel) (by decide +kernel)⟩
theorem mw_X3_19 : Cond.methodLink RX3 19 Lib.Math.max.name ∈ gtb ∧ Cond.static Lib.Math.max.name ∈ gtb ∧ Cond.initialized "java/lang/Math" ∈ gtb ∧ Cond.code Lib.Math.max.name Lib.Math.max.code 2 (some .int) ∈ gtb := ⟨gx 1363 (by decide +kernel) (by decide +kernel), math_max⟩
theorem wm_X3_stepsRound : wmp m_X3_stepsRound 3 := ⟨gx 1361 (by decide +kernel) (by decide +kernel), gx 41 (by decide +kernel) (by decide +kernel), gx 136 (by decide +kernel) (by decide +kernel), gx 1362 (by decide +kernel) (by decide +kernel), by decide +kernel, by decide +kernel, by decide +kernel⟩
theorem cw_X3_15 : cwp RX3 15 m_X3_stepsRound 3 := cwp_of wm_X3_stepsRound (gx 1359 (by decide +kernel) (by decide +kernel))
theorem mw_X3_25 : Cond.methodLink RX3 25 Lib.Math.min.name ∈ gtb ∧ Cond.static Lib.Math.min.name ∈ gtb ∧ Cond.initialized "java/lang/Math" ∈ gtb ∧ Cond.code Lib.Math.min.name Lib.Math.min.code 2 (some .int) ∈ gtb := ⟨gx 1364 (by decide +kernel) (by decide +kernel), math_min⟩
theorem wm_X3_steps : wmp m_X3_steps 2 := ⟨gx 1356 (by decide +kernel) (by decide +kernel), gx 1357 (by decide +kernel) (by decide +kernel), gx 136 (by decide +kernel) (by decide +kernel), gx 1358 (by decide +kernel) (by decide +kernel), by decide +kernel, by decide +kernel, by decide +kernel⟩
theorem cw_X3_34 : cwp RX3 34 m_X3_steps 2 := cwp_of wm_X3_steps (gx 1376 (by decide +kernel) (by decide +kernel))
theorem fk_X3_46 : fk RX3 46 4 0 := ⟨_, _, _, rfl, in_4, by decide, rfl, by decide, gx 206 (by decide +kernel) (by decide +kernel)⟩
theorem fk_X3_49 : fk RX3 49 4 8 := ⟨_, _, _, rfl, in_4, by decide, rfl, by decide, gx 237 (by decide +kernel) (by decide +kernel)⟩
theorem cw_X3_53 : cwp RX3 53 m_X4_isSecret 2 := cwp_of wm_X4_isSecret (gx 1393 (by decide +kernel) (by decide +kernel))
theorem cs_X3_37 : csp RX3 37 m_J6_bitCount_0f7a4 1 := csp_of wm_J6_bitCount_0f7a4 (gx 1388 (by decide +kernel) (by decide +kernel))
theorem wm_X3_caught : wmp m_X3_caught 1 := ⟨gx 1390 (by decide +kernel) (by decide +kernel), gx 1391 (by decide +kernel) (by decide +kernel), gx 136 (by decide +kernel) (by decide +kernel), gx 1392 (by decide +kernel) (by decide +kernel), by decide +kernel, by decide +kernel, by decide +kernel⟩
theorem cw_X3_43 : cwp RX3 43 m_X3_caught 1 := cwp_of wm_X3_caught (gx 1389 (by decide +kernel) (by decide +kernel))
def J_X9_append_49 (n : Nat)  (σ : MS) : Option (Int32 × MS) := some (0, σ)
def L_X9_append_3 (n : Nat) (v1 : Int32) (σ : MS) (a3 : Int32 × MS) : Option ((Int32 × MS) ⊕ (Int32 × MS)) := (if a3.1 < 0 then (J_X9_append_49 n  a3.2).map Sum.inr else (if (400 : Int32) ≤ (a3.2 1 1) then (J_X9_append_49 n  a3.2).map Sum.inr else (if inb (a3.2 1 1) 400 then ltM (mu a3.2 2 (ix (a3.2 1 1)) ((ushI v1 a3.1) &&& (255 : Int32))) (fun s32 => (ltM (mu s32 1 1 ((s32 1 1) + (1 : Int32))) (fun s40 => some (.inl ((a3.1 + (-8 : Int32)), s40))))) else none)))
def f_X9_append (n : Nat) (p1 : Int32) (σ : MS) : Option (Int32 × MS) := itr (L_X9_append_3 n p1 σ) n ((24 : Int32), σ)
set_option maxRecDepth 20000 in
set_option maxHeartbeats 2000000 in
theorem c_X9_append (w : TG) (n : Nat) (p1 : Int32) (σ : MS) : MC m_X9_append w [.ref (wB w + 1), .int p1] σ (f_X9_append n p1 σ) := by
  refine V_meth (by decide +kernel) (Nat.le_of_ble_eq_true rfl) (by intro v hv; simp only [List.mem_cons, List.not_mem_nil, or_false] at hv; rcases hv with rfl | rfl <;> rfl) (fun g x => ?_)
  show VV m_X9_append w g 0 0 (QM m_X9_append w g x) (fun b : Int32 × MS => b = x) 0 [some (.ref (wB w + 1)), some (.int p1), none] [] σ (f_X9_append n p1 σ)
  have hJ49 : ∀ (σ : MS), VV m_X9_append w g 0 0 (QM m_X9_append w g x) (fun b : Int32 × MS => b = x) 49 [none, none, none] [] σ (J_X9_append_49 n  σ) := by
    intro σ
    exact V_ret (pc := 49) dX9_append_49 rfl (hk := fun h => h)
  have hL3 : ∀  (n0 : Nat) (a : Int32 × MS), VV m_X9_append w g 0 0 (QM m_X9_append w g x) (fun b : Int32 × MS => b = x) 3 [some (.ref (wB w + 1)), some (.int p1), some (.int a.1)] [] a.2 (itr (L_X9_append_3 n p1 σ) n0 a) := by
    refine V_itr (vf := fun a : Int32 × MS => [some (.ref (wB w + 1)), some (.int p1), some (.int a.1)]) (sf := fun a : Int32 × MS => a.2) (fun κ3 b3 r3 a3 => ?_)
    obtain ⟨a3_1, a3_2⟩ := a3
    show VV m_X9_append w g 0 0 (QM m_X9_append w g x) κ3 3 [some (.ref (wB w + 1)), some (.int p1), some (.int a3_1)] [] a3_2 (L_X9_append_3 n p1 σ (a3_1, a3_2))
    refine V_iload_n (pc := 3) dX9_append_3 rfl rfl ?_
    refine V_if_lt (pc := 4) (tgt := 49) dX9_append_4 (by decide +kernel) ?_ ?_
    · refine V_exit r3 ?_
      refine V_sub (vs' := [none, none, none]) (show vless _ _ from trivial) rfl ?_
      exact hJ49 a3_2
    · refine V_aload_n (pc := 7) dX9_append_7 rfl rfl ?_
      refine V_geti (pc := 8) fk_X9_15 rfl dX9_append_8 kc_1 rf_9_1_1 ?_
      refine V_sipush (pc := 11) dX9_append_11 sp_400 ?_
      refine V_icmp_ge (pc := 14) (tgt := 49) dX9_append_14 (by decide +kernel) ?_ ?_
      · refine V_exit r3 ?_
        refine V_sub (vs' := [none, none, none]) (show vless _ _ from trivial) rfl ?_
        exact hJ49 a3_2
      · refine V_aload_n (pc := 17) dX9_append_17 rfl rfl ?_
        refine V_getr (pc := 18) (t := 2) fk_X9_9 rfl dX9_append_18 kc_1 rf_9_0_1 ?_
        refine V_aload_n (pc := 21) dX9_append_21 rfl rfl ?_
        refine V_geti (pc := 22) fk_X9_15 rfl dX9_append_22 kc_1 rf_9_1_1 ?_
        refine V_iload_n (pc := 25) dX9_append_25 rfl rfl ?_
        refine V_iload_n (pc := 26) dX9_append_26 rfl rfl ?_
        refine V_iushr (pc := 27) dX9_append_27 ?_
        refine V_sipush (pc := 28) dX9_append_28 sp_255 ?_
        refine V_iand (pc := 31) dX9_append_31 ?_
        refine V_iast (pc := 32) (n := 400) dX9_append_32 kc_2 lc_2 (fun s32 => ?_)
        refine V_aload_n (pc := 33) dX9_append_33 rfl rfl ?_
        refine V_dup (pc := 34) dX9_append_34 rfl ?_
        refine V_geti (pc := 35) fk_X9_15 rfl dX9_append_35 kc_1 rf_9_1_1 ?_
        refine V_iconst (pc := 38) dX9_append_38 ic_1 ?_
        refine V_iadd (pc := 39) dX9_append_39 ?_
        refine V_puti (pc := 40) fp_X9_15 rfl dX9_append_40 kc_1 rf_9_1_1 (fun s40 => ?_)
        refine V_iincC (pc := 43) (vs' := [some (.ref (wB w + 1)), some (.int p1), some (.int (a3_1 + (-8 : Int32)))]) dX9_append_43 (Nat.le_of_ble_eq_true rfl) rfl ic_m8 rfl ?_
        refine V_goto (pc := 46) (tgt := 3) dX9_append_46 (by decide +kernel) ?_
        exact V_back (b3 ((a3_1 + (-8 : Int32)), s40))
  refine V_bipush (pc := 0) dX9_append_0 bp_24 ?_
  refine V_istore_n (pc := 2) (vs' := [some (.ref (wB w + 1)), some (.int p1), some (.int (24 : Int32))]) dX9_append_2 rfl (Nat.le_of_ble_eq_true rfl) (Nat.le_of_ble_eq_true rfl) rfl ?_
  exact hL3 n ((24 : Int32), σ)
def J_X9_kindAt_61 (t0 : Int32) (σ : MS) : Option (Int32) := some t0
def J_X9_kindAt_60  (σ : MS) : Option (Int32) := J_X9_kindAt_61 (3 : Int32) σ
def J_X9_kindAt_34 (v1 : Int32) (σ : MS) : Option (Int32) := (if inb v1 400 then (if (σ 2 (ix v1)) < (48 : Int32) then J_X9_kindAt_60  σ else (if inb v1 400 then (if (57 : Int32) < (σ 2 (ix v1)) then J_X9_kindAt_60  σ else J_X9_kindAt_61 (2 : Int32) σ) else none)) else none)
def f_X9_kindAt (p1 : Int32) (σ : MS) : Option (Int32) := (if p1 < (σ 1 1) then (if inb p1 400 then (if (σ 2 (ix p1)) < (97 : Int32) then J_X9_kindAt_34 p1 σ else (if inb p1 400 then (if (122 : Int32) < (σ 2 (ix p1)) then J_X9_kindAt_34 p1 σ else some (1 : Int32)) else none)) else none) else some (0 : Int32))
set_option maxRecDepth 20000 in
set_option maxHeartbeats 2000000 in
theorem c_X9_kindAt (w : TG) (p1 : Int32) (σ : MS) : MC m_X9_kindAt w [.ref (wB w + 1), .int p1] σ ((f_X9_kindAt p1 σ).map (fun r => (r, σ))) := by
  refine V_methp (by decide +kernel) (Nat.le_of_ble_eq_true rfl) (by intro v hv; simp only [List.mem_cons, List.not_mem_nil, or_false] at hv; rcases hv with rfl | rfl <;> rfl) (fun g x => ?_)
  show VV m_X9_kindAt w g 0 0 (QM m_X9_kindAt w g x) (fun b : Int32 => (b, σ) = x) 0 [some (.ref (wB w + 1)), some (.int p1)] [] σ (f_X9_kindAt p1 σ)
  have hJ61 : ∀ (t0 : Int32), VV m_X9_kindAt w g 0 0 (QM m_X9_kindAt w g x) (fun b : Int32 => (b, σ) = x) 61 [none, none] [.int t0] σ (J_X9_kindAt_61 t0 σ) := by
    intro t0
    exact V_ireti (pc := 61) dX9_kindAt_61 rfl (hk := fun h => h)
  have hJ60 : ∀ (_ : Unit), VV m_X9_kindAt w g 0 0 (QM m_X9_kindAt w g x) (fun b : Int32 => (b, σ) = x) 60 [none, none] [] σ (J_X9_kindAt_60  σ) := by
    intro _
    refine V_iconst (pc := 60) dX9_kindAt_60 ic_3 ?_
    exact hJ61 (3 : Int32)
  have hJ34 : ∀ (_ : Unit), VV m_X9_kindAt w g 0 0 (QM m_X9_kindAt w g x) (fun b : Int32 => (b, σ) = x) 34 [some (.ref (wB w + 1)), some (.int p1)] [] σ (J_X9_kindAt_34 p1 σ) := by
    intro _
    refine V_aload_n (pc := 34) dX9_kindAt_34 rfl rfl ?_
    refine V_getr (pc := 35) (t := 2) fk_X9_9 rfl dX9_kindAt_35 kc_1 rf_9_0_1 ?_
    refine V_iload_n (pc := 38) dX9_kindAt_38 rfl rfl ?_
    refine V_iald (pc := 39) (n := 400) dX9_kindAt_39 kc_2 lc_2 ?_
    refine V_bipush (pc := 40) dX9_kindAt_40 bp_48 ?_
    refine V_icmp_lt (pc := 42) (tgt := 60) dX9_kindAt_42 (by decide +kernel) ?_ ?_
    · refine V_sub (vs' := [none, none]) (show vless _ _ from trivial) rfl ?_
      exact hJ60 ()
    · refine V_aload_n (pc := 45) dX9_kindAt_45 rfl rfl ?_
      refine V_getr (pc := 46) (t := 2) fk_X9_9 rfl dX9_kindAt_46 kc_1 rf_9_0_1 ?_
      refine V_iload_n (pc := 49) dX9_kindAt_49 rfl rfl ?_
      refine V_iald (pc := 50) (n := 400) dX9_kindAt_50 kc_2 lc_2 ?_
      refine V_bipush (pc := 51) dX9_kindAt_51 bp_57 ?_
      refine V_icmp_gt (pc := 53) (tgt := 60) dX9_kindAt_53 (by decide +kernel) ?_ ?_
      · refine V_sub (vs' := [none, none]) (show vless _ _ from trivial) rfl ?_
        exact hJ60 ()
      · refine V_iconst (pc := 56) dX9_kindAt_56 ic_2 ?_
        refine V_goto (pc := 57) (tgt := 61) dX9_kindAt_57 (by decide +kernel) ?_
        refine V_sub (vs' := [none, none]) (show vless _ _ from trivial) rfl ?_
        exact hJ61 (2 : Int32)
  refine V_iload_n (pc := 0) dX9_kindAt_0 rfl rfl ?_
  refine V_aload_n (pc := 1) dX9_kindAt_1 rfl rfl ?_
  refine V_geti (pc := 2) fk_X9_15 rfl dX9_kindAt_2 kc_1 rf_9_1_1 ?_
  refine V_icmp_lt (pc := 5) (tgt := 10) dX9_kindAt_5 (by decide +kernel) ?_ ?_
  · refine V_aload_n (pc := 10) dX9_kindAt_10 rfl rfl ?_
    refine V_getr (pc := 11) (t := 2) fk_X9_9 rfl dX9_kindAt_11 kc_1 rf_9_0_1 ?_
    refine V_iload_n (pc := 14) dX9_kindAt_14 rfl rfl ?_
    refine V_iald (pc := 15) (n := 400) dX9_kindAt_15 kc_2 lc_2 ?_
    refine V_bipush (pc := 16) dX9_kindAt_16 bp_97 ?_
    refine V_icmp_lt (pc := 18) (tgt := 34) dX9_kindAt_18 (by decide +kernel) ?_ ?_
    · exact hJ34 ()
    · refine V_aload_n (pc := 21) dX9_kindAt_21 rfl rfl ?_
      refine V_getr (pc := 22) (t := 2) fk_X9_9 rfl dX9_kindAt_22 kc_1 rf_9_0_1 ?_
      refine V_iload_n (pc := 25) dX9_kindAt_25 rfl rfl ?_
      refine V_iald (pc := 26) (n := 400) dX9_kindAt_26 kc_2 lc_2 ?_
      refine V_bipush (pc := 27) dX9_kindAt_27 bp_122 ?_
      refine V_icmp_gt (pc := 29) (tgt := 34) dX9_kindAt_29 (by decide +kernel) ?_ ?_
      · exact hJ34 ()
      · refine V_iconst (pc := 32) dX9_kindAt_32 ic_1 ?_
        exact V_ireti (pc := 33) dX9_kindAt_33 rfl (hk := fun h => h)
  · refine V_iconst (pc := 8) dX9_kindAt_8 ic_0 ?_
    exact V_ireti (pc := 9) dX9_kindAt_9 rfl (hk := fun h => h)
def J_X9_advance_89 (n : Nat) (v1 : Int32) (σ : MS) : Option (Int32 × MS) := (ltM (mu σ 1 3 v1) (fun s91 => some (0, s91)))
def L_X9_advance_55 (n : Nat)  (σ : MS) (a55 : Int32) : Option ((Int32) ⊕ (Int32 × MS)) := (if (σ 1 4) = (3 : Int32) then (J_X9_advance_89 n a55 σ).map Sum.inr else (if (σ 1 1) ≤ a55 then (J_X9_advance_89 n a55 σ).map Sum.inr else ((f_X9_kindAt a55 σ).bind (fun q73 => (if q73 = (σ 1 4) then some (.inl ((a55 + (1 : Int32)))) else (J_X9_advance_89 n a55 σ).map Sum.inr)))))
def J_X9_advance_30 (n : Nat) (v1 : Int32) (σ : MS) : Option (Int32 × MS) := (ltM (mu σ 1 2 v1) (fun s32 => ((f_X9_kindAt v1 s32).bind (fun q38 => (ltM (mu s32 1 4 q38) (fun s41 => (if (s41 1 1) ≤ v1 then itr (L_X9_advance_55 n  s41) n (v1) else itr (L_X9_advance_55 n  s41) n ((v1 + (1 : Int32))))))))))
def L_X9_advance_5 (n : Nat)  (σ : MS) (a5 : Int32) : Option ((Int32) ⊕ (Int32 × MS)) := (if (σ 1 1) ≤ a5 then (J_X9_advance_30 n a5 σ).map Sum.inr else (if inb a5 400 then (if (σ 2 (ix a5)) = (32 : Int32) then some (.inl ((a5 + (1 : Int32)))) else (J_X9_advance_30 n a5 σ).map Sum.inr) else none))
def f_X9_advance (n : Nat)  (σ : MS) : Option (Int32 × MS) := itr (L_X9_advance_5 n  σ) n ((σ 1 3))
set_option maxRecDepth 20000 in
set_option maxHeartbeats 2000000 in
theorem c_X9_advance (w : TG) (n : Nat)  (σ : MS) : MC m_X9_advance w [.ref (wB w + 1)] σ (f_X9_advance n  σ) := by
  refine V_meth (by decide +kernel) (Nat.le_of_ble_eq_true rfl) (by intro v hv; simp only [List.mem_cons, List.not_mem_nil, or_false] at hv; subst hv; rfl) (fun g x => ?_)
  show VV m_X9_advance w g 0 0 (QM m_X9_advance w g x) (fun b : Int32 × MS => b = x) 0 [some (.ref (wB w + 1)), none] [] σ (f_X9_advance n  σ)
  have hJ89 : ∀ (v1 : Int32) (σ : MS), VV m_X9_advance w g 0 0 (QM m_X9_advance w g x) (fun b : Int32 × MS => b = x) 89 [some (.ref (wB w + 1)), some (.int v1)] [] σ (J_X9_advance_89 n v1 σ) := by
    intro v1 σ
    refine V_aload_n (pc := 89) dX9_advance_89 rfl rfl ?_
    refine V_iload_n (pc := 90) dX9_advance_90 rfl rfl ?_
    refine V_puti (pc := 91) fp_X9_19 rfl dX9_advance_91 kc_1 rf_9_3_1 (fun s91 => ?_)
    exact V_ret (pc := 94) dX9_advance_94 rfl (hk := fun h => h)
  have hL55 : ∀ (σ : MS) (n0 : Nat) (a : Int32), VV m_X9_advance w g 0 0 (QM m_X9_advance w g x) (fun b : Int32 × MS => b = x) 55 [some (.ref (wB w + 1)), some (.int a)] [] σ (itr (L_X9_advance_55 n  σ) n0 a) := by
    intro σ
    refine V_itr (vf := fun a : Int32 => [some (.ref (wB w + 1)), some (.int a)]) (sf := fun a : Int32 => σ) (fun κ55 b55 r55 a55 => ?_)
    show VV m_X9_advance w g 0 0 (QM m_X9_advance w g x) κ55 55 [some (.ref (wB w + 1)), some (.int a55)] [] σ (L_X9_advance_55 n  σ a55)
    refine V_aload_n (pc := 55) dX9_advance_55 rfl rfl ?_
    refine V_geti (pc := 56) fk_X9_32 rfl dX9_advance_56 kc_1 rf_9_4_1 ?_
    refine V_iconst (pc := 59) dX9_advance_59 ic_3 ?_
    refine V_icmp_eq (pc := 60) (tgt := 89) dX9_advance_60 (by decide +kernel) ?_ ?_
    · refine V_exit r55 ?_
      exact hJ89 a55 σ
    · refine V_iload_n (pc := 63) dX9_advance_63 rfl rfl ?_
      refine V_aload_n (pc := 64) dX9_advance_64 rfl rfl ?_
      refine V_geti (pc := 65) fk_X9_15 rfl dX9_advance_65 kc_1 rf_9_1_1 ?_
      refine V_icmp_ge (pc := 68) (tgt := 89) dX9_advance_68 (by decide +kernel) ?_ ?_
      · refine V_exit r55 ?_
        exact hJ89 a55 σ
      · refine V_aload_n (pc := 71) dX9_advance_71 rfl rfl ?_
        refine V_iload_n (pc := 72) dX9_advance_72 rfl rfl ?_
        refine V_callVpi (pc := 73) (As := [.int a55]) (rest := []) (c_X9_kindAt w a55 σ) cw_X9_28 rfl rfl dX9_advance_73 kc_1 ci_9 ⟨Nat.le_of_ble_eq_true rfl, Nat.le_of_ble_eq_true rfl⟩ rfl rfl (Nat.le_of_ble_eq_true rfl) (Nat.le_of_ble_eq_true rfl) (Nat.le_of_ble_eq_true rfl) rfl (fun q73 => ?_)
        refine V_aload_n (pc := 76) dX9_advance_76 rfl rfl ?_
        refine V_geti (pc := 77) fk_X9_32 rfl dX9_advance_77 kc_1 rf_9_4_1 ?_
        refine V_icmp_ne (pc := 80) (tgt := 89) dX9_advance_80 (by decide +kernel) ?_ ?_
        · refine V_exit r55 ?_
          exact hJ89 a55 σ
        · refine V_iincC (pc := 83) (vs' := [some (.ref (wB w + 1)), some (.int (a55 + (1 : Int32)))]) dX9_advance_83 (Nat.le_of_ble_eq_true rfl) rfl ic_1 rfl ?_
          refine V_goto (pc := 86) (tgt := 55) dX9_advance_86 (by decide +kernel) ?_
          exact V_back (b55 ((a55 + (1 : Int32))))
  have hJ30 : ∀ (v1 : Int32) (σ : MS), VV m_X9_advance w g 0 0 (QM m_X9_advance w g x) (fun b : Int32 × MS => b = x) 30 [some (.ref (wB w + 1)), some (.int v1)] [] σ (J_X9_advance_30 n v1 σ) := by
    intro v1 σ
    refine V_aload_n (pc := 30) dX9_advance_30 rfl rfl ?_
    refine V_iload_n (pc := 31) dX9_advance_31 rfl rfl ?_
    refine V_puti (pc := 32) fp_X9_25 rfl dX9_advance_32 kc_1 rf_9_2_1 (fun s32 => ?_)
    refine V_aload_n (pc := 35) dX9_advance_35 rfl rfl ?_
    refine V_aload_n (pc := 36) dX9_advance_36 rfl rfl ?_
    refine V_iload_n (pc := 37) dX9_advance_37 rfl rfl ?_
    refine V_callVpi (pc := 38) (As := [.int v1]) (rest := [.ref (wB w + 1)]) (c_X9_kindAt w v1 s32) cw_X9_28 rfl rfl dX9_advance_38 kc_1 ci_9 ⟨Nat.le_of_ble_eq_true rfl, Nat.le_of_ble_eq_true rfl⟩ rfl rfl (Nat.le_of_ble_eq_true rfl) (Nat.le_of_ble_eq_true rfl) (Nat.le_of_ble_eq_true rfl) rfl (fun q38 => ?_)
    refine V_puti (pc := 41) fp_X9_32 rfl dX9_advance_41 kc_1 rf_9_4_1 (fun s41 => ?_)
    refine V_iload_n (pc := 44) dX9_advance_44 rfl rfl ?_
    refine V_aload_n (pc := 45) dX9_advance_45 rfl rfl ?_
    refine V_geti (pc := 46) fk_X9_15 rfl dX9_advance_46 kc_1 rf_9_1_1 ?_
    refine V_icmp_ge (pc := 49) (tgt := 55) dX9_advance_49 (by decide +kernel) ?_ ?_
    · exact hL55 s41 n (v1)
    · refine V_iincC (pc := 52) (vs' := [some (.ref (wB w + 1)), some (.int (v1 + (1 : Int32)))]) dX9_advance_52 (Nat.le_of_ble_eq_true rfl) rfl ic_1 rfl ?_
      exact hL55 s41 n ((v1 + (1 : Int32)))
  have hL5 : ∀ (σ : MS) (n0 : Nat) (a : Int32), VV m_X9_advance w g 0 0 (QM m_X9_advance w g x) (fun b : Int32 × MS => b = x) 5 [some (.ref (wB w + 1)), some (.int a)] [] σ (itr (L_X9_advance_5 n  σ) n0 a) := by
    intro σ
    refine V_itr (vf := fun a : Int32 => [some (.ref (wB w + 1)), some (.int a)]) (sf := fun a : Int32 => σ) (fun κ5 b5 r5 a5 => ?_)
    show VV m_X9_advance w g 0 0 (QM m_X9_advance w g x) κ5 5 [some (.ref (wB w + 1)), some (.int a5)] [] σ (L_X9_advance_5 n  σ a5)
    refine V_iload_n (pc := 5) dX9_advance_5 rfl rfl ?_
    refine V_aload_n (pc := 6) dX9_advance_6 rfl rfl ?_
    refine V_geti (pc := 7) fk_X9_15 rfl dX9_advance_7 kc_1 rf_9_1_1 ?_
    refine V_icmp_ge (pc := 10) (tgt := 30) dX9_advance_10 (by decide +kernel) ?_ ?_
    · refine V_exit r5 ?_
      exact hJ30 a5 σ
    · refine V_aload_n (pc := 13) dX9_advance_13 rfl rfl ?_
      refine V_getr (pc := 14) (t := 2) fk_X9_9 rfl dX9_advance_14 kc_1 rf_9_0_1 ?_
      refine V_iload_n (pc := 17) dX9_advance_17 rfl rfl ?_
      refine V_iald (pc := 18) (n := 400) dX9_advance_18 kc_2 lc_2 ?_
      refine V_bipush (pc := 19) dX9_advance_19 bp_32 ?_
      refine V_icmp_ne (pc := 21) (tgt := 30) dX9_advance_21 (by decide +kernel) ?_ ?_
      · refine V_exit r5 ?_
        exact hJ30 a5 σ
      · refine V_iincC (pc := 24) (vs' := [some (.ref (wB w + 1)), some (.int (a5 + (1 : Int32)))]) dX9_advance_24 (Nat.le_of_ble_eq_true rfl) rfl ic_1 rfl ?_
        refine V_goto (pc := 27) (tgt := 5) dX9_advance_27 (by decide +kernel) ?_
        exact V_back (b5 ((a5 + (1 : Int32))))
  refine V_aload_n (pc := 0) dX9_advance_0 rfl rfl ?_
  refine V_geti (pc := 1) fk_X9_19 rfl dX9_advance_1 kc_1 rf_9_3_1 ?_
  refine V_istore_n (pc := 4) (vs' := [some (.ref (wB w + 1)), some (.int (σ 1 3))]) dX9_advance_4 rfl (Nat.le_of_ble_eq_true rfl) (Nat.le_of_ble_eq_true rfl) rfl ?_
  exact hL5 σ n ((σ 1 3))
def f_X9_begin (n : Nat)  (σ : MS) : Option (Int32 × MS) := (ltM (mu σ 1 3 (0 : Int32)) (fun s2 => ((f_X9_advance n  s2).bind (fun q6 => some (0, q6.2)))))
set_option maxRecDepth 20000 in
set_option maxHeartbeats 2000000 in
theorem c_X9_begin (w : TG) (n : Nat)  (σ : MS) : MC m_X9_begin w [.ref (wB w + 1)] σ (f_X9_begin n  σ) := by
  refine V_meth (by decide +kernel) (Nat.le_of_ble_eq_true rfl) (by intro v hv; simp only [List.mem_cons, List.not_mem_nil, or_false] at hv; subst hv; rfl) (fun g x => ?_)
  show VV m_X9_begin w g 0 0 (QM m_X9_begin w g x) (fun b : Int32 × MS => b = x) 0 [some (.ref (wB w + 1))] [] σ (f_X9_begin n  σ)
  refine V_aload_n (pc := 0) dX9_begin_0 rfl rfl ?_
  refine V_iconst (pc := 1) dX9_begin_1 ic_0 ?_
  refine V_puti (pc := 2) fp_X9_19 rfl dX9_begin_2 kc_1 rf_9_3_1 (fun s2 => ?_)
  refine V_aload_n (pc := 5) dX9_begin_5 rfl rfl ?_
  refine V_callVv (pc := 6) (As := []) (rest := []) (c_X9_advance w n  s2) cw_X9_22 rfl rfl dX9_begin_6 kc_1 ci_9 ⟨Nat.le_of_ble_eq_true rfl, Nat.le_of_ble_eq_true rfl⟩ rfl rfl (Nat.le_of_ble_eq_true rfl) (Nat.le_of_ble_eq_true rfl) (Nat.le_of_ble_eq_true rfl) rfl (fun q6 => ?_)
  exact V_ret (pc := 9) dX9_begin_9 rfl (hk := fun h => h)
def J_X9_isOver_12 (t0 : Int32) (σ : MS) : Option (Int32) := (if t0 = 0 ∨ t0 = 1 then some t0 else none)
def f_X9_isOver  (σ : MS) : Option (Int32) := (if (σ 1 4) = 0 then J_X9_isOver_12 (1 : Int32) σ else J_X9_isOver_12 (0 : Int32) σ)
set_option maxRecDepth 20000 in
set_option maxHeartbeats 2000000 in
theorem c_X9_isOver (w : TG)  (σ : MS) : MC m_X9_isOver w [.ref (wB w + 1)] σ ((f_X9_isOver  σ).map (fun r => (r, σ))) := by
  refine V_methp (by decide +kernel) (Nat.le_of_ble_eq_true rfl) (by intro v hv; simp only [List.mem_cons, List.not_mem_nil, or_false] at hv; subst hv; rfl) (fun g x => ?_)
  show VV m_X9_isOver w g 0 0 (QM m_X9_isOver w g x) (fun b : Int32 => (b, σ) = x) 0 [some (.ref (wB w + 1))] [] σ (f_X9_isOver  σ)
  have hJ12 : ∀ (t0 : Int32), VV m_X9_isOver w g 0 0 (QM m_X9_isOver w g x) (fun b : Int32 => (b, σ) = x) 12 [none] [.int t0] σ (J_X9_isOver_12 t0 σ) := by
    intro t0
    exact V_iretZ (pc := 12) dX9_isOver_12 rfl (hk := fun h => h)
  refine V_aload_n (pc := 0) dX9_isOver_0 rfl rfl ?_
  refine V_geti (pc := 1) fk_X9_32 rfl dX9_isOver_1 kc_1 rf_9_4_1 ?_
  refine V_if_ne (pc := 4) (tgt := 11) dX9_isOver_4 (by decide +kernel) ?_ ?_
  · refine V_iconst (pc := 11) dX9_isOver_11 ic_0 ?_
    refine V_sub (vs' := [none]) (show vless _ _ from trivial) rfl ?_
    exact hJ12 (0 : Int32)
  · refine V_iconst (pc := 7) dX9_isOver_7 ic_1 ?_
    refine V_goto (pc := 8) (tgt := 12) dX9_isOver_8 (by decide +kernel) ?_
    refine V_sub (vs' := [none]) (show vless _ _ from trivial) rfl ?_
    exact hJ12 (1 : Int32)
def J_X9_wordAmong_134 (n : Nat) (z1 : Nat) (t0 : Int32) (σ : MS) : Option (Int32) := some t0
def J_X9_wordAmong_133 (n : Nat) (z1 : Nat) (σ : MS) : Option (Int32) := J_X9_wordAmong_134 n z1 (-1 : Int32) σ
def J_X9_wordAmong_110 (n : Nat) (z1 : Nat) (v2 : Int32) (v3 : Int32) (v4 : Int32) (v5 : Int32) (σ : MS) : Option ((Int32 × Int32 × Int32 × Int32) ⊕ (Int32)) := some (.inl (v2, v3, v4, (v5 + (1 : Int32))))
def J_X9_wordAmong_99 (n : Nat) (z1 : Nat) (v2 : Int32) (v5 : Int32) (σ : MS) : Option ((Int32 × Int32 × Int32 × Int32) ⊕ (Int32)) := J_X9_wordAmong_110 n z1 (v2 + (1 : Int32)) (σ 1 2) (1 : Int32) v5 σ
def J_X9_wordAmong_76 (n : Nat) (z1 : Nat) (v2 : Int32) (v3 : Int32) (v5 : Int32) (t0 : Int32) (σ : MS) : Option ((Int32 × Int32 × Int32 × Int32) ⊕ (Int32)) := J_X9_wordAmong_110 n z1 v2 (v3 + (1 : Int32)) t0 v5 σ
def J_X9_wordAmong_75 (n : Nat) (z1 : Nat) (v2 : Int32) (v3 : Int32) (v5 : Int32) (σ : MS) : Option ((Int32 × Int32 × Int32 × Int32) ⊕ (Int32)) := J_X9_wordAmong_76 n z1 v2 v3 v5 (0 : Int32) σ
def L_X9_wordAmong_23 (n : Nat) (z1 : Nat) (σ : MS) (a23 : Int32 × Int32 × Int32 × Int32) : Option ((Int32 × Int32 × Int32 × Int32) ⊕ (Int32)) := ((fs_length z1).bind (fun q26 => (if q26 ≤ a23.2.2.2 then ((if a23.2.2.1 = 0 then J_X9_wordAmong_133 n z1 σ else (if a23.2.1 = (σ 1 3) then J_X9_wordAmong_134 n z1 a23.1 σ else J_X9_wordAmong_133 n z1 σ))).map Sum.inr else ((fs_charAt z1 a23.2.2.2).bind (fun q35 => (if q35 = (32 : Int32) then (if a23.2.2.1 = 0 then J_X9_wordAmong_99 n z1 a23.1 a23.2.2.2 σ else (if a23.2.1 = (σ 1 3) then (some a23.1).map Sum.inr else J_X9_wordAmong_99 n z1 a23.1 a23.2.2.2 σ)) else (if a23.2.2.1 = 0 then J_X9_wordAmong_75 n z1 a23.1 a23.2.1 a23.2.2.2 σ else (if (σ 1 3) ≤ a23.2.1 then J_X9_wordAmong_75 n z1 a23.1 a23.2.1 a23.2.2.2 σ else (if inb a23.2.1 400 then (if (σ 2 (ix a23.2.1)) = q35 then J_X9_wordAmong_76 n z1 a23.1 a23.2.1 a23.2.2.2 (1 : Int32) σ else J_X9_wordAmong_75 n z1 a23.1 a23.2.1 a23.2.2.2 σ) else none)))))))))
def f_X9_wordAmong (n : Nat) (z1 : Nat) (σ : MS) : Option (Int32) := (if (σ 1 4) = (1 : Int32) then itr (L_X9_wordAmong_23 n z1 σ) n ((0 : Int32), (σ 1 2), (1 : Int32), (0 : Int32)) else some (-1 : Int32))
set_option maxRecDepth 20000 in
set_option maxHeartbeats 2000000 in
theorem c_X9_wordAmong (w : TG) (n : Nat) (z1 : Nat) (k_z1 : z1 < 33) (σ : MS) : MC m_X9_wordAmong w [.ref (wB w + 1), .ref (wS w z1)] σ ((f_X9_wordAmong n z1 σ).map (fun r => (r, σ))) := by
  refine V_methp (by decide +kernel) (Nat.le_of_ble_eq_true rfl) (by intro v hv; simp only [List.mem_cons, List.not_mem_nil, or_false] at hv; rcases hv with rfl | rfl <;> rfl) (fun g x => ?_)
  show VV m_X9_wordAmong w g 0 0 (QM m_X9_wordAmong w g x) (fun b : Int32 => (b, σ) = x) 0 [some (.ref (wB w + 1)), some (.ref (wS w z1)), none, none, none, none, none] [] σ (f_X9_wordAmong n z1 σ)
  have hJ134 : ∀ (t0 : Int32), VV m_X9_wordAmong w g 0 0 (QM m_X9_wordAmong w g x) (fun b : Int32 => (b, σ) = x) 134 [none, none, none, none, none, none, none] [.int t0] σ (J_X9_wordAmong_134 n z1 t0 σ) := by
    intro t0
    exact V_ireti (pc := 134) dX9_wordAmong_134 rfl (hk := fun h => h)
  have hJ133 : ∀ (_ : Unit), VV m_X9_wordAmong w g 0 0 (QM m_X9_wordAmong w g x) (fun b : Int32 => (b, σ) = x) 133 [none, none, none, none, none, none, none] [] σ (J_X9_wordAmong_133 n z1 σ) := by
    intro _
    refine V_iconst (pc := 133) dX9_wordAmong_133 ic_m1 ?_
    exact hJ134 (-1 : Int32)
  have hL23 : ∀  (n0 : Nat) (a : Int32 × Int32 × Int32 × Int32), VV m_X9_wordAmong w g 0 0 (QM m_X9_wordAmong w g x) (fun b : Int32 => (b, σ) = x) 23 [some (.ref (wB w + 1)), some (.ref (wS w z1)), some (.int a.1), some (.int a.2.1), some (.int a.2.2.1), some (.int a.2.2.2), none] [] σ (itr (L_X9_wordAmong_23 n z1 σ) n0 a) := by
    refine V_itr (vf := fun a : Int32 × Int32 × Int32 × Int32 => [some (.ref (wB w + 1)), some (.ref (wS w z1)), some (.int a.1), some (.int a.2.1), some (.int a.2.2.1), some (.int a.2.2.2), none]) (sf := fun a : Int32 × Int32 × Int32 × Int32 => σ) (fun κ23 b23 r23 a23 => ?_)
    obtain ⟨a23_1, a23_2, a23_3, a23_4⟩ := a23
    show VV m_X9_wordAmong w g 0 0 (QM m_X9_wordAmong w g x) κ23 23 [some (.ref (wB w + 1)), some (.ref (wS w z1)), some (.int a23_1), some (.int a23_2), some (.int a23_3), some (.int a23_4), none] [] σ (L_X9_wordAmong_23 n z1 σ (a23_1, a23_2, a23_3, a23_4))
    have hJ110 : ∀ (v2 : Int32) (v3 : Int32) (v4 : Int32) (v5 : Int32), VV m_X9_wordAmong w g 0 0 (QM m_X9_wordAmong w g x) κ23 110 [some (.ref (wB w + 1)), some (.ref (wS w z1)), some (.int v2), some (.int v3), some (.int v4), some (.int v5), none] [] σ (J_X9_wordAmong_110 n z1 v2 v3 v4 v5 σ) := by
      intro v2 v3 v4 v5
      refine V_iincC (pc := 110) (vs' := [some (.ref (wB w + 1)), some (.ref (wS w z1)), some (.int v2), some (.int v3), some (.int v4), some (.int (v5 + (1 : Int32))), none]) dX9_wordAmong_110 (Nat.le_of_ble_eq_true rfl) rfl ic_1 rfl ?_
      refine V_goto (pc := 113) (tgt := 23) dX9_wordAmong_113 (by decide +kernel) ?_
      exact V_back (b23 (v2, v3, v4, (v5 + (1 : Int32))))
    have hJ99 : ∀ (v2 : Int32) (v5 : Int32), VV m_X9_wordAmong w g 0 0 (QM m_X9_wordAmong w g x) κ23 99 [some (.ref (wB w + 1)), some (.ref (wS w z1)), some (.int v2), none, none, some (.int v5), none] [] σ (J_X9_wordAmong_99 n z1 v2 v5 σ) := by
      intro v2 v5
      refine V_iincC (pc := 99) (vs' := [some (.ref (wB w + 1)), some (.ref (wS w z1)), some (.int (v2 + (1 : Int32))), none, none, some (.int v5), none]) dX9_wordAmong_99 (Nat.le_of_ble_eq_true rfl) rfl ic_1 rfl ?_
      refine V_aload_n (pc := 102) dX9_wordAmong_102 rfl rfl ?_
      refine V_geti (pc := 103) fk_X9_25 rfl dX9_wordAmong_103 kc_1 rf_9_2_1 ?_
      refine V_istore_n (pc := 106) (vs' := [some (.ref (wB w + 1)), some (.ref (wS w z1)), some (.int (v2 + (1 : Int32))), some (.int (σ 1 2)), none, some (.int v5), none]) dX9_wordAmong_106 rfl (Nat.le_of_ble_eq_true rfl) (Nat.le_of_ble_eq_true rfl) rfl ?_
      refine V_iconst (pc := 107) dX9_wordAmong_107 ic_1 ?_
      refine V_istore (pc := 108) (vs' := [some (.ref (wB w + 1)), some (.ref (wS w z1)), some (.int (v2 + (1 : Int32))), some (.int (σ 1 2)), some (.int (1 : Int32)), some (.int v5), none]) dX9_wordAmong_108 (Nat.le_of_ble_eq_true rfl) (Nat.le_of_ble_eq_true rfl) rfl ?_
      exact hJ110 (v2 + (1 : Int32)) (σ 1 2) (1 : Int32) v5
    have hJ76 : ∀ (v2 : Int32) (v3 : Int32) (v5 : Int32) (t0 : Int32), VV m_X9_wordAmong w g 0 0 (QM m_X9_wordAmong w g x) κ23 76 [some (.ref (wB w + 1)), some (.ref (wS w z1)), some (.int v2), some (.int v3), none, some (.int v5), none] [.int t0] σ (J_X9_wordAmong_76 n z1 v2 v3 v5 t0 σ) := by
      intro v2 v3 v5 t0
      refine V_istore (pc := 76) (vs' := [some (.ref (wB w + 1)), some (.ref (wS w z1)), some (.int v2), some (.int v3), some (.int t0), some (.int v5), none]) dX9_wordAmong_76 (Nat.le_of_ble_eq_true rfl) (Nat.le_of_ble_eq_true rfl) rfl ?_
      refine V_iincC (pc := 78) (vs' := [some (.ref (wB w + 1)), some (.ref (wS w z1)), some (.int v2), some (.int (v3 + (1 : Int32))), some (.int t0), some (.int v5), none]) dX9_wordAmong_78 (Nat.le_of_ble_eq_true rfl) rfl ic_1 rfl ?_
      refine V_goto (pc := 81) (tgt := 110) dX9_wordAmong_81 (by decide +kernel) ?_
      exact hJ110 v2 (v3 + (1 : Int32)) t0 v5
    have hJ75 : ∀ (v2 : Int32) (v3 : Int32) (v5 : Int32), VV m_X9_wordAmong w g 0 0 (QM m_X9_wordAmong w g x) κ23 75 [some (.ref (wB w + 1)), some (.ref (wS w z1)), some (.int v2), some (.int v3), none, some (.int v5), none] [] σ (J_X9_wordAmong_75 n z1 v2 v3 v5 σ) := by
      intro v2 v3 v5
      refine V_iconst (pc := 75) dX9_wordAmong_75 ic_0 ?_
      exact hJ76 v2 v3 v5 (0 : Int32)
    refine V_iload (pc := 23) dX9_wordAmong_23 rfl ?_
    refine V_aload_n (pc := 25) dX9_wordAmong_25 rfl rfl ?_
    refine V_callT (pc := 26) (As := []) (rest := [.int a23_4]) k_z1 rfl (cs_length w z1 k_z1 σ) cw_X9_35 rfl rfl dX9_wordAmong_26 ⟨Nat.le_of_ble_eq_true rfl, Nat.le_of_ble_eq_true rfl⟩ rfl rfl (Nat.le_of_ble_eq_true rfl) (Nat.le_of_ble_eq_true rfl) (Nat.le_of_ble_eq_true rfl) rfl (fun q26 => ?_)
    refine V_icmp_ge (pc := 29) (tgt := 116) dX9_wordAmong_29 (by decide +kernel) ?_ ?_
    · refine V_exit r23 ?_
      refine V_iload (pc := 116) dX9_wordAmong_116 rfl ?_
      refine V_if_eq (pc := 118) (tgt := 133) dX9_wordAmong_118 (by decide +kernel) ?_ ?_
      · refine V_sub (vs' := [none, none, none, none, none, none, none]) (show vless _ _ from trivial) rfl ?_
        exact hJ133 ()
      · refine V_iload_n (pc := 121) dX9_wordAmong_121 rfl rfl ?_
        refine V_aload_n (pc := 122) dX9_wordAmong_122 rfl rfl ?_
        refine V_geti (pc := 123) fk_X9_19 rfl dX9_wordAmong_123 kc_1 rf_9_3_1 ?_
        refine V_icmp_ne (pc := 126) (tgt := 133) dX9_wordAmong_126 (by decide +kernel) ?_ ?_
        · refine V_sub (vs' := [none, none, none, none, none, none, none]) (show vless _ _ from trivial) rfl ?_
          exact hJ133 ()
        · refine V_iload_n (pc := 129) dX9_wordAmong_129 rfl rfl ?_
          refine V_goto (pc := 130) (tgt := 134) dX9_wordAmong_130 (by decide +kernel) ?_
          refine V_sub (vs' := [none, none, none, none, none, none, none]) (show vless _ _ from trivial) rfl ?_
          exact hJ134 a23_1
    · refine V_aload_n (pc := 32) dX9_wordAmong_32 rfl rfl ?_
      refine V_iload (pc := 33) dX9_wordAmong_33 rfl ?_
      refine V_callT (pc := 35) (As := [.int a23_4]) (rest := []) k_z1 rfl (cs_charAt w z1 a23_4 k_z1 σ) cw_X9_40 rfl rfl dX9_wordAmong_35 ⟨Nat.le_of_ble_eq_true rfl, Nat.le_of_ble_eq_true rfl⟩ rfl rfl (Nat.le_of_ble_eq_true rfl) (Nat.le_of_ble_eq_true rfl) (Nat.le_of_ble_eq_true rfl) rfl (fun q35 => ?_)
      refine V_istore (pc := 38) (vs' := [some (.ref (wB w + 1)), some (.ref (wS w z1)), some (.int a23_1), some (.int a23_2), some (.int a23_3), some (.int a23_4), some (.int q35)]) dX9_wordAmong_38 (Nat.le_of_ble_eq_true rfl) (Nat.le_of_ble_eq_true rfl) rfl ?_
      refine V_iload (pc := 40) dX9_wordAmong_40 rfl ?_
      refine V_bipush (pc := 42) dX9_wordAmong_42 bp_32 ?_
      refine V_icmp_eq (pc := 44) (tgt := 84) dX9_wordAmong_44 (by decide +kernel) ?_ ?_
      · refine V_iload (pc := 84) dX9_wordAmong_84 rfl ?_
        refine V_if_eq (pc := 86) (tgt := 99) dX9_wordAmong_86 (by decide +kernel) ?_ ?_
        · refine V_sub (vs' := [some (.ref (wB w + 1)), some (.ref (wS w z1)), some (.int a23_1), none, none, some (.int a23_4), none]) (show vless _ _ from ⟨rfl, ⟨rfl, ⟨rfl, ⟨rfl, trivial⟩⟩⟩⟩) rfl ?_
          exact hJ99 a23_1 a23_4
        · refine V_iload_n (pc := 89) dX9_wordAmong_89 rfl rfl ?_
          refine V_aload_n (pc := 90) dX9_wordAmong_90 rfl rfl ?_
          refine V_geti (pc := 91) fk_X9_19 rfl dX9_wordAmong_91 kc_1 rf_9_3_1 ?_
          refine V_icmp_ne (pc := 94) (tgt := 99) dX9_wordAmong_94 (by decide +kernel) ?_ ?_
          · refine V_sub (vs' := [some (.ref (wB w + 1)), some (.ref (wS w z1)), some (.int a23_1), none, none, some (.int a23_4), none]) (show vless _ _ from ⟨rfl, ⟨rfl, ⟨rfl, ⟨rfl, trivial⟩⟩⟩⟩) rfl ?_
            exact hJ99 a23_1 a23_4
          · refine V_exit r23 ?_
            refine V_iload_n (pc := 97) dX9_wordAmong_97 rfl rfl ?_
            exact V_ireti (pc := 98) dX9_wordAmong_98 rfl (hk := fun h => h)
      · refine V_iload (pc := 47) dX9_wordAmong_47 rfl ?_
        refine V_if_eq (pc := 49) (tgt := 75) dX9_wordAmong_49 (by decide +kernel) ?_ ?_
        · refine V_sub (vs' := [some (.ref (wB w + 1)), some (.ref (wS w z1)), some (.int a23_1), some (.int a23_2), none, some (.int a23_4), none]) (show vless _ _ from ⟨rfl, ⟨rfl, ⟨rfl, ⟨rfl, ⟨rfl, trivial⟩⟩⟩⟩⟩) rfl ?_
          exact hJ75 a23_1 a23_2 a23_4
        · refine V_iload_n (pc := 52) dX9_wordAmong_52 rfl rfl ?_
          refine V_aload_n (pc := 53) dX9_wordAmong_53 rfl rfl ?_
          refine V_geti (pc := 54) fk_X9_19 rfl dX9_wordAmong_54 kc_1 rf_9_3_1 ?_
          refine V_icmp_ge (pc := 57) (tgt := 75) dX9_wordAmong_57 (by decide +kernel) ?_ ?_
          · refine V_sub (vs' := [some (.ref (wB w + 1)), some (.ref (wS w z1)), some (.int a23_1), some (.int a23_2), none, some (.int a23_4), none]) (show vless _ _ from ⟨rfl, ⟨rfl, ⟨rfl, ⟨rfl, ⟨rfl, trivial⟩⟩⟩⟩⟩) rfl ?_
            exact hJ75 a23_1 a23_2 a23_4
          · refine V_aload_n (pc := 60) dX9_wordAmong_60 rfl rfl ?_
            refine V_getr (pc := 61) (t := 2) fk_X9_9 rfl dX9_wordAmong_61 kc_1 rf_9_0_1 ?_
            refine V_iload_n (pc := 64) dX9_wordAmong_64 rfl rfl ?_
            refine V_iald (pc := 65) (n := 400) dX9_wordAmong_65 kc_2 lc_2 ?_
            refine V_iload (pc := 66) dX9_wordAmong_66 rfl ?_
            refine V_icmp_ne (pc := 68) (tgt := 75) dX9_wordAmong_68 (by decide +kernel) ?_ ?_
            · refine V_sub (vs' := [some (.ref (wB w + 1)), some (.ref (wS w z1)), some (.int a23_1), some (.int a23_2), none, some (.int a23_4), none]) (show vless _ _ from ⟨rfl, ⟨rfl, ⟨rfl, ⟨rfl, ⟨rfl, trivial⟩⟩⟩⟩⟩) rfl ?_
              exact hJ75 a23_1 a23_2 a23_4
            · refine V_iconst (pc := 71) dX9_wordAmong_71 ic_1 ?_
              refine V_goto (pc := 72) (tgt := 76) dX9_wordAmong_72 (by decide +kernel) ?_
              refine V_sub (vs' := [some (.ref (wB w + 1)), some (.ref (wS w z1)), some (.int a23_1), some (.int a23_2), none, some (.int a23_4), none]) (show vless _ _ from ⟨rfl, ⟨rfl, ⟨rfl, ⟨rfl, ⟨rfl, trivial⟩⟩⟩⟩⟩) rfl ?_
              exact hJ76 a23_1 a23_2 a23_4 (1 : Int32)
  refine V_aload_n (pc := 0) dX9_wordAmong_0 rfl rfl ?_
  refine V_geti (pc := 1) fk_X9_32 rfl dX9_wordAmong_1 kc_1 rf_9_4_1 ?_
  refine V_iconst (pc := 4) dX9_wordAmong_4 ic_1 ?_
  refine V_icmp_eq (pc := 5) (tgt := 10) dX9_wordAmong_5 (by decide +kernel) ?_ ?_
  · refine V_iconst (pc := 10) dX9_wordAmong_10 ic_0 ?_
    refine V_istore_n (pc := 11) (vs' := [some (.ref (wB w + 1)), some (.ref (wS w z1)), some (.int (0 : Int32)), none, none, none, none]) dX9_wordAmong_11 rfl (Nat.le_of_ble_eq_true rfl) (Nat.le_of_ble_eq_true rfl) rfl ?_
    refine V_aload_n (pc := 12) dX9_wordAmong_12 rfl rfl ?_
    refine V_geti (pc := 13) fk_X9_25 rfl dX9_wordAmong_13 kc_1 rf_9_2_1 ?_
    refine V_istore_n (pc := 16) (vs' := [some (.ref (wB w + 1)), some (.ref (wS w z1)), some (.int (0 : Int32)), some (.int (σ 1 2)), none, none, none]) dX9_wordAmong_16 rfl (Nat.le_of_ble_eq_true rfl) (Nat.le_of_ble_eq_true rfl) rfl ?_
    refine V_iconst (pc := 17) dX9_wordAmong_17 ic_1 ?_
    refine V_istore (pc := 18) (vs' := [some (.ref (wB w + 1)), some (.ref (wS w z1)), some (.int (0 : Int32)), some (.int (σ 1 2)), some (.int (1 : Int32)), none, none]) dX9_wordAmong_18 (Nat.le_of_ble_eq_true rfl) (Nat.le_of_ble_eq_true rfl) rfl ?_
    refine V_iconst (pc := 20) dX9_wordAmong_20 ic_0 ?_
    refine V_istore (pc := 21) (vs' := [some (.ref (wB w + 1)), some (.ref (wS w z1)), some (.int (0 : Int32)), some (.int (σ 1 2)), some (.int (1 : Int32)), some (.int (0 : Int32)), none]) dX9_wordAmong_21 (Nat.le_of_ble_eq_true rfl) (Nat.le_of_ble_eq_true rfl) rfl ?_
    exact hL23 n ((0 : Int32), (σ 1 2), (1 : Int32), (0 : Int32))
  · refine V_iconst (pc := 8) dX9_wordAmong_8 ic_m1 ?_
    exact V_ireti (pc := 9) dX9_wordAmong_9 rfl (hk := fun h => h)
def f_X9_skipWord (n : Nat) (z1 : Nat) (σ : MS) : Option (Int32 × MS) := ((f_X9_wordAmong n z1 σ).bind (fun q2 => (if q2 = 0 then ((f_X9_advance n  σ).bind (fun q11 => some ((1 : Int32), q11.2))) else some ((0 : Int32), σ))))
set_option maxRecDepth 20000 in
set_option maxHeartbeats 2000000 in
theorem c_X9_skipWord (w : TG) (n : Nat) (z1 : Nat) (k_z1 : z1 < 33) (σ : MS) : MC m_X9_skipWord w [.ref (wB w + 1), .ref (wS w z1)] σ (f_X9_skipWord n z1 σ) := by
  refine V_meth (by decide +kernel) (Nat.le_of_ble_eq_true rfl) (by intro v hv; simp only [List.mem_cons, List.not_mem_nil, or_false] at hv; rcases hv with rfl | rfl <;> rfl) (fun g x => ?_)
  show VV m_X9_skipWord w g 0 0 (QM m_X9_skipWord w g x) (fun b : Int32 × MS => b = x) 0 [some (.ref (wB w + 1)), some (.ref (wS w z1))] [] σ (f_X9_skipWord n z1 σ)
  refine V_aload_n (pc := 0) dX9_skipWord_0 rfl rfl ?_
  refine V_aload_n (pc := 1) dX9_skipWord_1 rfl rfl ?_
  refine V_callVpi (pc := 2) (As := [.ref (wS w z1)]) (rest := []) (c_X9_wordAmong w n z1 k_z1 σ) cw_X9_44 rfl rfl dX9_skipWord_2 kc_1 ci_9 ⟨Nat.le_of_ble_eq_true rfl, Nat.le_of_ble_eq_true rfl⟩ rfl rfl (Nat.le_of_ble_eq_true rfl) (Nat.le_of_ble_eq_true rfl) (Nat.le_of_ble_eq_true rfl) rfl (fun q2 => ?_)
  refine V_if_eq (pc := 5) (tgt := 10) dX9_skipWord_5 (by decide +kernel) ?_ ?_
  · refine V_aload_n (pc := 10) dX9_skipWord_10 rfl rfl ?_
    refine V_callVv (pc := 11) (As := []) (rest := []) (c_X9_advance w n  σ) cw_X9_22 rfl rfl dX9_skipWord_11 kc_1 ci_9 ⟨Nat.le_of_ble_eq_true rfl, Nat.le_of_ble_eq_true rfl⟩ rfl rfl (Nat.le_of_ble_eq_true rfl) (Nat.le_of_ble_eq_true rfl) (Nat.le_of_ble_eq_true rfl) rfl (fun q11 => ?_)
    refine V_iconst (pc := 14) dX9_skipWord_14 ic_1 ?_
    exact V_iretz (pc := 15) dX9_skipWord_15 rfl rfl (hk := fun h => h)
  · refine V_iconst (pc := 8) dX9_skipWord_8 ic_0 ?_
    exact V_iretz (pc := 9) dX9_skipWord_9 rfl rfl (hk := fun h => h)
def J_X9_number_77 (n : Nat) (t0 : Int32) (σ : MS) : Option (Int32) := some t0
def J_X9_number_76 (n : Nat)  (σ : MS) : Option (Int32) := J_X9_number_77 n (-1 : Int32) σ
def L_X9_number_31 (n : Nat) (v1 : Int32) (v2 : Int32) (σ : MS) (a31 : Int32 × Int32) : Option ((Int32 × Int32) ⊕ (Int32)) := (if (σ 1 3) ≤ a31.2 then ((if a31.1 < v1 then J_X9_number_76 n  σ else (if v2 < a31.1 then J_X9_number_76 n  σ else J_X9_number_77 n a31.1 σ))).map Sum.inr else (if inb a31.2 400 then some (.inl ((((a31.1 * (10 : Int32)) + (σ 2 (ix a31.2))) - (48 : Int32)), (a31.2 + (1 : Int32)))) else none))
def J_X9_number_21 (n : Nat)  (σ : MS) : Option (Int32) := some (-1 : Int32)
def f_X9_number (n : Nat) (p1 : Int32) (p2 : Int32) (σ : MS) : Option (Int32) := (if (σ 1 4) = (2 : Int32) then (if ((σ 1 3) - (σ 1 2)) ≤ (3 : Int32) then itr (L_X9_number_31 n p1 p2 σ) n ((0 : Int32), (σ 1 2)) else J_X9_number_21 n  σ) else J_X9_number_21 n  σ)
set_option maxRecDepth 20000 in
set_option maxHeartbeats 2000000 in
theorem c_X9_number (w : TG) (n : Nat) (p1 : Int32) (p2 : Int32) (σ : MS) : MC m_X9_number w [.ref (wB w + 1), .int p1, .int p2] σ ((f_X9_number n p1 p2 σ).map (fun r => (r, σ))) := by
  refine V_methp (by decide +kernel) (Nat.le_of_ble_eq_true rfl) (by intro v hv; simp only [List.mem_cons, List.not_mem_nil, or_false] at hv; rcases hv with rfl | rfl | rfl <;> rfl) (fun g x => ?_)
  show VV m_X9_number w g 0 0 (QM m_X9_number w g x) (fun b : Int32 => (b, σ) = x) 0 [some (.ref (wB w + 1)), some (.int p1), some (.int p2), none, none] [] σ (f_X9_number n p1 p2 σ)
  have hJ77 : ∀ (t0 : Int32), VV m_X9_number w g 0 0 (QM m_X9_number w g x) (fun b : Int32 => (b, σ) = x) 77 [none, none, none, none, none] [.int t0] σ (J_X9_number_77 n t0 σ) := by
    intro t0
    exact V_ireti (pc := 77) dX9_number_77 rfl (hk := fun h => h)
  have hJ76 : ∀ (_ : Unit), VV m_X9_number w g 0 0 (QM m_X9_number w g x) (fun b : Int32 => (b, σ) = x) 76 [none, none, none, none, none] [] σ (J_X9_number_76 n  σ) := by
    intro _
    refine V_iconst (pc := 76) dX9_number_76 ic_m1 ?_
    exact hJ77 (-1 : Int32)
  have hL31 : ∀  (n0 : Nat) (a : Int32 × Int32), VV m_X9_number w g 0 0 (QM m_X9_number w g x) (fun b : Int32 => (b, σ) = x) 31 [some (.ref (wB w + 1)), some (.int p1), some (.int p2), some (.int a.1), some (.int a.2)] [] σ (itr (L_X9_number_31 n p1 p2 σ) n0 a) := by
    refine V_itr (vf := fun a : Int32 × Int32 => [some (.ref (wB w + 1)), some (.int p1), some (.int p2), some (.int a.1), some (.int a.2)]) (sf := fun a : Int32 × Int32 => σ) (fun κ31 b31 r31 a31 => ?_)
    obtain ⟨a31_1, a31_2⟩ := a31
    show VV m_X9_number w g 0 0 (QM m_X9_number w g x) κ31 31 [some (.ref (wB w + 1)), some (.int p1), some (.int p2), some (.int a31_1), some (.int a31_2)] [] σ (L_X9_number_31 n p1 p2 σ (a31_1, a31_2))
    refine V_iload (pc := 31) dX9_number_31 rfl ?_
    refine V_aload_n (pc := 33) dX9_number_33 rfl rfl ?_
    refine V_geti (pc := 34) fk_X9_19 rfl dX9_number_34 kc_1 rf_9_3_1 ?_
    refine V_icmp_ge (pc := 37) (tgt := 62) dX9_number_37 (by decide +kernel) ?_ ?_
    · refine V_exit r31 ?_
      refine V_iload_n (pc := 62) dX9_number_62 rfl rfl ?_
      refine V_iload_n (pc := 63) dX9_number_63 rfl rfl ?_
      refine V_icmp_lt (pc := 64) (tgt := 76) dX9_number_64 (by decide +kernel) ?_ ?_
      · refine V_sub (vs' := [none, none, none, none, none]) (show vless _ _ from trivial) rfl ?_
        exact hJ76 ()
      · refine V_iload_n (pc := 67) dX9_number_67 rfl rfl ?_
        refine V_iload_n (pc := 68) dX9_number_68 rfl rfl ?_
        refine V_icmp_gt (pc := 69) (tgt := 76) dX9_number_69 (by decide +kernel) ?_ ?_
        · refine V_sub (vs' := [none, none, none, none, none]) (show vless _ _ from trivial) rfl ?_
          exact hJ76 ()
        · refine V_iload_n (pc := 72) dX9_number_72 rfl rfl ?_
          refine V_goto (pc := 73) (tgt := 77) dX9_number_73 (by decide +kernel) ?_
          refine V_sub (vs' := [none, none, none, none, none]) (show vless _ _ from trivial) rfl ?_
          exact hJ77 a31_1
    · refine V_iload_n (pc := 40) dX9_number_40 rfl rfl ?_
      refine V_bipush (pc := 41) dX9_number_41 bp_10 ?_
      refine V_imul (pc := 43) dX9_number_43 ?_
      refine V_aload_n (pc := 44) dX9_number_44 rfl rfl ?_
      refine V_getr (pc := 45) (t := 2) fk_X9_9 rfl dX9_number_45 kc_1 rf_9_0_1 ?_
      refine V_iload (pc := 48) dX9_number_48 rfl ?_
      refine V_iald (pc := 50) (n := 400) dX9_number_50 kc_2 lc_2 ?_
      refine V_iadd (pc := 51) dX9_number_51 ?_
      refine V_bipush (pc := 52) dX9_number_52 bp_48 ?_
      refine V_isub (pc := 54) dX9_number_54 ?_
      refine V_istore_n (pc := 55) (vs' := [some (.ref (wB w + 1)), some (.int p1), some (.int p2), some (.int (((a31_1 * (10 : Int32)) + (σ 2 (ix a31_2))) - (48 : Int32))), some (.int a31_2)]) dX9_number_55 rfl (Nat.le_of_ble_eq_true rfl) (Nat.le_of_ble_eq_true rfl) rfl ?_
      refine V_iincC (pc := 56) (vs' := [some (.ref (wB w + 1)), some (.int p1), some (.int p2), some (.int (((a31_1 * (10 : Int32)) + (σ 2 (ix a31_2))) - (48 : Int32))), some (.int (a31_2 + (1 : Int32)))]) dX9_number_56 (Nat.le_of_ble_eq_true rfl) rfl ic_1 rfl ?_
      refine V_goto (pc := 59) (tgt := 31) dX9_number_59 (by decide +kernel) ?_
      exact V_back (b31 ((((a31_1 * (10 : Int32)) + (σ 2 (ix a31_2))) - (48 : Int32)), (a31_2 + (1 : Int32))))
  have hJ21 : ∀ (_ : Unit), VV m_X9_number w g 0 0 (QM m_X9_number w g x) (fun b : Int32 => (b, σ) = x) 21 [none, none, none, none, none] [] σ (J_X9_number_21 n  σ) := by
    intro _
    refine V_iconst (pc := 21) dX9_number_21 ic_m1 ?_
    exact V_ireti (pc := 22) dX9_number_22 rfl (hk := fun h => h)
  refine V_aload_n (pc := 0) dX9_number_0 rfl rfl ?_
  refine V_geti (pc := 1) fk_X9_32 rfl dX9_number_1 kc_1 rf_9_4_1 ?_
  refine V_iconst (pc := 4) dX9_number_4 ic_2 ?_
  refine V_icmp_ne (pc := 5) (tgt := 21) dX9_number_5 (by decide +kernel) ?_ ?_
  · refine V_sub (vs' := [none, none, none, none, none]) (show vless _ _ from trivial) rfl ?_
    exact hJ21 ()
  · refine V_aload_n (pc := 8) dX9_number_8 rfl rfl ?_
    refine V_geti (pc := 9) fk_X9_19 rfl dX9_number_9 kc_1 rf_9_3_1 ?_
    refine V_aload_n (pc := 12) dX9_number_12 rfl rfl ?_
    refine V_geti (pc := 13) fk_X9_25 rfl dX9_number_13 kc_1 rf_9_2_1 ?_
    refine V_isub (pc := 16) dX9_number_16 ?_
    refine V_iconst (pc := 17) dX9_number_17 ic_3 ?_
    refine V_icmp_le (pc := 18) (tgt := 23) dX9_number_18 (by decide +kernel) ?_ ?_
    · refine V_iconst (pc := 23) dX9_number_23 ic_0 ?_
      refine V_istore_n (pc := 24) (vs' := [some (.ref (wB w + 1)), some (.int p1), some (.int p2), some (.int (0 : Int32)), none]) dX9_number_24 rfl (Nat.le_of_ble_eq_true rfl) (Nat.le_of_ble_eq_true rfl) rfl ?_
      refine V_aload_n (pc := 25) dX9_number_25 rfl rfl ?_
      refine V_geti (pc := 26) fk_X9_25 rfl dX9_number_26 kc_1 rf_9_2_1 ?_
      refine V_istore (pc := 29) (vs' := [some (.ref (wB w + 1)), some (.int p1), some (.int p2), some (.int (0 : Int32)), some (.int (σ 1 2))]) dX9_number_29 (Nat.le_of_ble_eq_true rfl) (Nat.le_of_ble_eq_true rfl) rfl ?_
      exact hL31 n ((0 : Int32), (σ 1 2))
    · refine V_sub (vs' := [none, none, none, none, none]) (show vless _ _ from trivial) rfl ?_
      exact hJ21 ()
def J_X9_isFigures_26 (t0 : Int32) (σ : MS) : Option (Int32) := (if t0 = 0 ∨ t0 = 1 then some t0 else none)
def J_X9_isFigures_25  (σ : MS) : Option (Int32) := J_X9_isFigures_26 (0 : Int32) σ
def f_X9_isFigures (p1 : Int32) (σ : MS) : Option (Int32) := (if (σ 1 4) = (2 : Int32) then (if ((σ 1 3) - (σ 1 2)) = p1 then J_X9_isFigures_26 (1 : Int32) σ else J_X9_isFigures_25  σ) else J_X9_isFigures_25  σ)
set_option maxRecDepth 20000 in
set_option maxHeartbeats 2000000 in
theorem c_X9_isFigures (w : TG) (p1 : Int32) (σ : MS) : MC m_X9_isFigures w [.ref (wB w + 1), .int p1] σ ((f_X9_isFigures p1 σ).map (fun r => (r, σ))) := by
  refine V_methp (by decide +kernel) (Nat.le_of_ble_eq_true rfl) (by intro v hv; simp only [List.mem_cons, List.not_mem_nil, or_false] at hv; rcases hv with rfl | rfl <;> rfl) (fun g x => ?_)
  show VV m_X9_isFigures w g 0 0 (QM m_X9_isFigures w g x) (fun b : Int32 => (b, σ) = x) 0 [some (.ref (wB w + 1)), some (.int p1)] [] σ (f_X9_isFigures p1 σ)
  have hJ26 : ∀ (t0 : Int32), VV m_X9_isFigures w g 0 0 (QM m_X9_isFigures w g x) (fun b : Int32 => (b, σ) = x) 26 [none, none] [.int t0] σ (J_X9_isFigures_26 t0 σ) := by
    intro t0
    exact V_iretZ (pc := 26) dX9_isFigures_26 rfl (hk := fun h => h)
  have hJ25 : ∀ (_ : Unit), VV m_X9_isFigures w g 0 0 (QM m_X9_isFigures w g x) (fun b : Int32 => (b, σ) = x) 25 [none, none] [] σ (J_X9_isFigures_25  σ) := by
    intro _
    refine V_iconst (pc := 25) dX9_isFigures_25 ic_0 ?_
    exact hJ26 (0 : Int32)
  refine V_aload_n (pc := 0) dX9_isFigures_0 rfl rfl ?_
  refine V_geti (pc := 1) fk_X9_32 rfl dX9_isFigures_1 kc_1 rf_9_4_1 ?_
  refine V_iconst (pc := 4) dX9_isFigures_4 ic_2 ?_
  refine V_icmp_ne (pc := 5) (tgt := 25) dX9_isFigures_5 (by decide +kernel) ?_ ?_
  · refine V_sub (vs' := [none, none]) (show vless _ _ from trivial) rfl ?_
    exact hJ25 ()
  · refine V_aload_n (pc := 8) dX9_isFigures_8 rfl rfl ?_
    refine V_geti (pc := 9) fk_X9_19 rfl dX9_isFigures_9 kc_1 rf_9_3_1 ?_
    refine V_aload_n (pc := 12) dX9_isFigures_12 rfl rfl ?_
    refine V_geti (pc := 13) fk_X9_25 rfl dX9_isFigures_13 kc_1 rf_9_2_1 ?_
    refine V_isub (pc := 16) dX9_isFigures_16 ?_
    refine V_iload_n (pc := 17) dX9_isFigures_17 rfl rfl ?_
    refine V_icmp_ne (pc := 18) (tgt := 25) dX9_isFigures_18 (by decide +kernel) ?_ ?_
    · refine V_sub (vs' := [none, none]) (show vless _ _ from trivial) rfl ?_
      exact hJ25 ()
    · refine V_iconst (pc := 21) dX9_isFigures_21 ic_1 ?_
      refine V_goto (pc := 22) (tgt := 26) dX9_isFigures_22 (by decide +kernel) ?_
      refine V_sub (vs' := [none, none]) (show vless _ _ from trivial) rfl ?_
      exact hJ26 (1 : Int32)
def J_X9_isWord_13 (t0 : Int32) (σ : MS) : Option (Int32) := (if t0 = 0 ∨ t0 = 1 then some t0 else none)
def f_X9_isWord  (σ : MS) : Option (Int32) := (if (σ 1 4) = (1 : Int32) then J_X9_isWord_13 (1 : Int32) σ else J_X9_isWord_13 (0 : Int32) σ)
set_option maxRecDepth 20000 in
set_option maxHeartbeats 2000000 in
theorem c_X9_isWord (w : TG)  (σ : MS) : MC m_X9_isWord w [.ref (wB w + 1)] σ ((f_X9_isWord  σ).map (fun r => (r, σ))) := by
  refine V_methp (by decide +kernel) (Nat.le_of_ble_eq_true rfl) (by intro v hv; simp only [List.mem_cons, List.not_mem_nil, or_false] at hv; subst hv; rfl) (fun g x => ?_)
  show VV m_X9_isWord w g 0 0 (QM m_X9_isWord w g x) (fun b : Int32 => (b, σ) = x) 0 [some (.ref (wB w + 1))] [] σ (f_X9_isWord  σ)
  have hJ13 : ∀ (t0 : Int32), VV m_X9_isWord w g 0 0 (QM m_X9_isWord w g x) (fun b : Int32 => (b, σ) = x) 13 [none] [.int t0] σ (J_X9_isWord_13 t0 σ) := by
    intro t0
    exact V_iretZ (pc := 13) dX9_isWord_13 rfl (hk := fun h => h)
  refine V_aload_n (pc := 0) dX9_isWord_0 rfl rfl ?_
  refine V_geti (pc := 1) fk_X9_32 rfl dX9_isWord_1 kc_1 rf_9_4_1 ?_
  refine V_iconst (pc := 4) dX9_isWord_4 ic_1 ?_
  refine V_icmp_ne (pc := 5) (tgt := 12) dX9_isWord_5 (by decide +kernel) ?_ ?_
  · refine V_iconst (pc := 12) dX9_isWord_12 ic_0 ?_
    refine V_sub (vs' := [none]) (show vless _ _ from trivial) rfl ?_
    exact hJ13 (0 : Int32)
  · refine V_iconst (pc := 8) dX9_isWord_8 ic_1 ?_
    refine V_goto (pc := 9) (tgt := 13) dX9_isWord_9 (by decide +kernel) ?_
    refine V_sub (vs' := [none]) (show vless _ _ from trivial) rfl ?_
    exact hJ13 (1 : Int32)
def J_X9_isSign_26 (t0 : Int32) (σ : MS) : Option (Int32) := (if t0 = 0 ∨ t0 = 1 then some t0 else none)
def J_X9_isSign_25  (σ : MS) : Option (Int32) := J_X9_isSign_26 (0 : Int32) σ
def f_X9_isSign (p1 : Int32) (σ : MS) : Option (Int32) := (if (σ 1 4) = (3 : Int32) then (if inb (σ 1 2) 400 then (if (σ 2 (ix (σ 1 2))) = p1 then J_X9_isSign_26 (1 : Int32) σ else J_X9_isSign_25  σ) else none) else J_X9_isSign_25  σ)
set_option maxRecDepth 20000 in
set_option maxHeartbeats 2000000 in
theorem c_X9_isSign (w : TG) (p1 : Int32) (σ : MS) : MC m_X9_isSign w [.ref (wB w + 1), .int p1] σ ((f_X9_isSign p1 σ).map (fun r => (r, σ))) := by
  refine V_methp (by decide +kernel) (Nat.le_of_ble_eq_true rfl) (by intro v hv; simp only [List.mem_cons, List.not_mem_nil, or_false] at hv; rcases hv with rfl | rfl <;> rfl) (fun g x => ?_)
  show VV m_X9_isSign w g 0 0 (QM m_X9_isSign w g x) (fun b : Int32 => (b, σ) = x) 0 [some (.ref (wB w + 1)), some (.int p1)] [] σ (f_X9_isSign p1 σ)
  have hJ26 : ∀ (t0 : Int32), VV m_X9_isSign w g 0 0 (QM m_X9_isSign w g x) (fun b : Int32 => (b, σ) = x) 26 [none, none] [.int t0] σ (J_X9_isSign_26 t0 σ) := by
    intro t0
    exact V_iretZ (pc := 26) dX9_isSign_26 rfl (hk := fun h => h)
  have hJ25 : ∀ (_ : Unit), VV m_X9_isSign w g 0 0 (QM m_X9_isSign w g x) (fun b : Int32 => (b, σ) = x) 25 [none, none] [] σ (J_X9_isSign_25  σ) := by
    intro _
    refine V_iconst (pc := 25) dX9_isSign_25 ic_0 ?_
    exact hJ26 (0 : Int32)
  refine V_aload_n (pc := 0) dX9_isSign_0 rfl rfl ?_
  refine V_geti (pc := 1) fk_X9_32 rfl dX9_isSign_1 kc_1 rf_9_4_1 ?_
  refine V_iconst (pc := 4) dX9_isSign_4 ic_3 ?_
  refine V_icmp_ne (pc := 5) (tgt := 25) dX9_isSign_5 (by decide +kernel) ?_ ?_
  · refine V_sub (vs' := [none, none]) (show vless _ _ from trivial) rfl ?_
    exact hJ25 ()
  · refine V_aload_n (pc := 8) dX9_isSign_8 rfl rfl ?_
    refine V_getr (pc := 9) (t := 2) fk_X9_9 rfl dX9_isSign_9 kc_1 rf_9_0_1 ?_
    refine V_aload_n (pc := 12) dX9_isSign_12 rfl rfl ?_
    refine V_geti (pc := 13) fk_X9_25 rfl dX9_isSign_13 kc_1 rf_9_2_1 ?_
    refine V_iald (pc := 16) (n := 400) dX9_isSign_16 kc_2 lc_2 ?_
    refine V_iload_n (pc := 17) dX9_isSign_17 rfl rfl ?_
    refine V_icmp_ne (pc := 18) (tgt := 25) dX9_isSign_18 (by decide +kernel) ?_ ?_
    · refine V_sub (vs' := [none, none]) (show vless _ _ from trivial) rfl ?_
      exact hJ25 ()
    · refine V_iconst (pc := 21) dX9_isSign_21 ic_1 ?_
      refine V_goto (pc := 22) (tgt := 26) dX9_isSign_22 (by decide +kernel) ?_
      refine V_sub (vs' := [none, none]) (show vless _ _ from trivial) rfl ?_
      exact hJ26 (1 : Int32)
def f_X9_skipSign (n : Nat) (p1 : Int32) (σ : MS) : Option (Int32 × MS) := ((f_X9_isSign p1 σ).bind (fun q2 => (if q2 = 0 then some ((0 : Int32), σ) else ((f_X9_advance n  σ).bind (fun q11 => some ((1 : Int32), q11.2))))))
set_option maxRecDepth 20000 in
set_option maxHeartbeats 2000000 in
theorem c_X9_skipSign (w : TG) (n : Nat) (p1 : Int32) (σ : MS) : MC m_X9_skipSign w [.ref (wB w + 1), .int p1] σ (f_X9_skipSign n p1 σ) := by
  refine V_meth (by decide +kernel) (Nat.le_of_ble_eq_true rfl) (by intro v hv; simp only [List.mem_cons, List.not_mem_nil, or_false] at hv; rcases hv with rfl | rfl <;> rfl) (fun g x => ?_)
  show VV m_X9_skipSign w g 0 0 (QM m_X9_skipSign w g x) (fun b : Int32 × MS => b = x) 0 [some (.ref (wB w + 1)), some (.int p1)] [] σ (f_X9_skipSign n p1 σ)
  refine V_aload_n (pc := 0) dX9_skipSign_0 rfl rfl ?_
  refine V_iload_n (pc := 1) dX9_skipSign_1 rfl rfl ?_
  refine V_callVpi (pc := 2) (As := [.int p1]) (rest := []) (c_X9_isSign w p1 σ) cw_X9_48 rfl rfl dX9_skipSign_2 kc_1 ci_9 ⟨Nat.le_of_ble_eq_true rfl, Nat.le_of_ble_eq_true rfl⟩ rfl rfl (Nat.le_of_ble_eq_true rfl) (Nat.le_of_ble_eq_true rfl) (Nat.le_of_ble_eq_true rfl) rfl (fun q2 => ?_)
  refine V_if_ne (pc := 5) (tgt := 10) dX9_skipSign_5 (by decide +kernel) ?_ ?_
  · refine V_aload_n (pc := 10) dX9_skipSign_10 rfl rfl ?_
    refine V_callVv (pc := 11) (As := []) (rest := []) (c_X9_advance w n  σ) cw_X9_22 rfl rfl dX9_skipSign_11 kc_1 ci_9 ⟨Nat.le_of_ble_eq_true rfl, Nat.le_of_ble_eq_true rfl⟩ rfl rfl (Nat.le_of_ble_eq_true rfl) (Nat.le_of_ble_eq_true rfl) (Nat.le_of_ble_eq_true rfl) rfl (fun q11 => ?_)
    refine V_iconst (pc := 14) dX9_skipSign_14 ic_1 ?_
    exact V_iretz (pc := 15) dX9_skipSign_15 rfl rfl (hk := fun h => h)
  · refine V_iconst (pc := 8) dX9_skipSign_8 ic_0 ?_
    exact V_iretz (pc := 9) dX9_skipSign_9 rfl rfl (hk := fun h => h)
def J_X10_widened_34 (n : Nat) (v1 : Int32) (v2 : Int32) (v3 : Int32) (σ : MS) : Option ((Int32 × Int32) ⊕ (Int32)) := some (.inl (v2, (v3 + (1 : Int32))))
def L_X10_widened_4 (n : Nat) (v1 : Int32) (σ : MS) (a4 : Int32 × Int32) : Option ((Int32 × Int32) ⊕ (Int32)) := (if (σ 3 0) ≤ a4.2 then (some a4.1).map Sum.inr else (if (v1 &&& (shlI (1 : Int32) a4.2)) = 0 then J_X10_widened_34 n v1 a4.1 a4.2 σ else ((f_X4_boundTo n 3 a4.2 σ).bind (fun q29 => J_X10_widened_34 n v1 (a4.1 ||| q29) a4.2 σ))))
def f_X10_widened (n : Nat) (p1 : Int32) (σ : MS) : Option (Int32) := itr (L_X10_widened_4 n p1 σ) n (p1, (0 : Int32))
set_option maxRecDepth 20000 in
set_option maxHeartbeats 2000000 in
theorem c_X10_widened (w : TG) (n : Nat) (p1 : Int32) (σ : MS) : MC m_X10_widened w [.ref (wB w + 55), .int p1] σ ((f_X10_widened n p1 σ).map (fun r => (r, σ))) := by
  refine V_methp (by decide +kernel) (Nat.le_of_ble_eq_true rfl) (by intro v hv; simp only [List.mem_cons, List.not_mem_nil, or_false] at hv; rcases hv with rfl | rfl <;> rfl) (fun g x => ?_)
  show VV m_X10_widened w g 0 0 (QM m_X10_widened w g x) (fun b : Int32 => (b, σ) = x) 0 [some (.ref (wB w + 55)), some (.int p1), none, none] [] σ (f_X10_widened n p1 σ)
  have hL4 : ∀  (n0 : Nat) (a : Int32 × Int32), VV m_X10_widened w g 0 0 (QM m_X10_widened w g x) (fun b : Int32 => (b, σ) = x) 4 [some (.ref (wB w + 55)), some (.int p1), some (.int a.1), some (.int a.2)] [] σ (itr (L_X10_widened_4 n p1 σ) n0 a) := by
    refine V_itr (vf := fun a : Int32 × Int32 => [some (.ref (wB w + 55)), some (.int p1), some (.int a.1), some (.int a.2)]) (sf := fun a : Int32 × Int32 => σ) (fun κ4 b4 r4 a4 => ?_)
    obtain ⟨a4_1, a4_2⟩ := a4
    show VV m_X10_widened w g 0 0 (QM m_X10_widened w g x) κ4 4 [some (.ref (wB w + 55)), some (.int p1), some (.int a4_1), some (.int a4_2)] [] σ (L_X10_widened_4 n p1 σ (a4_1, a4_2))
    have hJ34 : ∀ (v2 : Int32) (v3 : Int32), VV m_X10_widened w g 0 0 (QM m_X10_widened w g x) κ4 34 [some (.ref (wB w + 55)), some (.int p1), some (.int v2), some (.int v3)] [] σ (J_X10_widened_34 n p1 v2 v3 σ) := by
      intro v2 v3
      refine V_iincC (pc := 34) (vs' := [some (.ref (wB w + 55)), some (.int p1), some (.int v2), some (.int (v3 + (1 : Int32)))]) dX10_widened_34 (Nat.le_of_ble_eq_true rfl) rfl ic_1 rfl ?_
      refine V_goto (pc := 37) (tgt := 4) dX10_widened_37 (by decide +kernel) ?_
      exact V_back (b4 (v2, (v3 + (1 : Int32))))
    refine V_iload_n (pc := 4) dX10_widened_4 rfl rfl ?_
    refine V_aload_n (pc := 5) dX10_widened_5 rfl rfl ?_
    refine V_getr (pc := 6) (t := 3) fk_X10_9 rfl dX10_widened_6 kc_55 rf_10_0_55 ?_
    refine V_geti (pc := 9) fk_X10_15 rfl dX10_widened_9 kc_3 rf_4_0_3 ?_
    refine V_icmp_ge (pc := 12) (tgt := 40) dX10_widened_12 (by decide +kernel) ?_ ?_
    · refine V_exit r4 ?_
      refine V_iload_n (pc := 40) dX10_widened_40 rfl rfl ?_
      exact V_ireti (pc := 41) dX10_widened_41 rfl (hk := fun h => h)
    · refine V_iload_n (pc := 15) dX10_widened_15 rfl rfl ?_
      refine V_iconst (pc := 16) dX10_widened_16 ic_1 ?_
      refine V_iload_n (pc := 17) dX10_widened_17 rfl rfl ?_
      refine V_ishl (pc := 18) dX10_widened_18 ?_
      refine V_iand (pc := 19) dX10_widened_19 ?_
      refine V_if_eq (pc := 20) (tgt := 34) dX10_widened_20 (by decide +kernel) ?_ ?_
      · exact hJ34 a4_1 a4_2
      · refine V_iload_n (pc := 23) dX10_widened_23 rfl rfl ?_
        refine V_aload_n (pc := 24) dX10_widened_24 rfl rfl ?_
        refine V_getr (pc := 25) (t := 3) fk_X10_9 rfl dX10_widened_25 kc_55 rf_10_0_55 ?_
        refine V_iload_n (pc := 28) dX10_widened_28 rfl rfl ?_
        refine V_callVpi (pc := 29) (As := [.int a4_2]) (rest := [.int a4_1]) (c_X4_boundTo w n 3 a4_2 kc_3 σ) cw_X10_21 rfl rfl dX10_widened_29 kc_3 ci_4 ⟨Nat.le_of_ble_eq_true rfl, Nat.le_of_ble_eq_true rfl⟩ rfl rfl (Nat.le_of_ble_eq_true rfl) (Nat.le_of_ble_eq_true rfl) (Nat.le_of_ble_eq_true rfl) rfl (fun q29 => ?_)
        refine V_ior (pc := 32) dX10_widened_32 ?_
        refine V_istore_n (pc := 33) (vs' := [some (.ref (wB w + 55)), some (.int p1), some (.int (a4_1 ||| q29)), some (.int a4_2)]) dX10_widened_33 rfl (Nat.le_of_ble_eq_true rfl) (Nat.le_of_ble_eq_true rfl) rfl ?_
        exact hJ34 (a4_1 ||| q29) a4_2
  refine V_iload_n (pc := 0) dX10_widened_0 rfl rfl ?_
  refine V_istore_n (pc := 1) (vs' := [some (.ref (wB w + 55)), some (.int p1), some (.int p1), none]) dX10_widened_1 rfl (Nat.le_of_ble_eq_true rfl) (Nat.le_of_ble_eq_true rfl) rfl ?_
  refine V_iconst (pc := 2) dX10_widened_2 ic_0 ?_
  refine V_istore_n (pc := 3) (vs' := [some (.ref (wB w + 55)), some (.int p1), some (.int p1), some (.int (0 : Int32))]) dX10_widened_3 rfl (Nat.le_of_ble_eq_true rfl) (Nat.le_of_ble_eq_true rfl) rfl ?_
  exact hL4 n (p1, (0 : Int32))
def L_X10_around_6 (n : Nat)  (σ : MS) (a6 : Int32 × Int32) : Option ((Int32 × Int32) ⊕ (Int32)) := (if (σ 3 0) ≤ a6.2 then (some a6.1).map Sum.inr else ((f_X10_widened n a6.1 σ).bind (fun q19 => some (.inl (q19, (a6.2 + (1 : Int32)))))))
def f_X10_around (n : Nat) (p1 : Int32) (σ : MS) : Option (Int32) := itr (L_X10_around_6 n  σ) n ((shlI (1 : Int32) p1), (1 : Int32))
set_option maxRecDepth 20000 in
set_option maxHeartbeats 2000000 in
theorem c_X10_around (w : TG) (n : Nat) (p1 : Int32) (σ : MS) : MC m_X10_around w [.ref (wB w + 55), .int p1] σ ((f_X10_around n p1 σ).map (fun r => (r, σ))) := by
  refine V_methp (by decide +kernel) (Nat.le_of_ble_eq_true rfl) (by intro v hv; simp only [List.mem_cons, List.not_mem_nil, or_false] at hv; rcases hv with rfl | rfl <;> rfl) (fun g x => ?_)
  show VV m_X10_around w g 0 0 (QM m_X10_around w g x) (fun b : Int32 => (b, σ) = x) 0 [some (.ref (wB w + 55)), some (.int p1), none, none] [] σ (f_X10_around n p1 σ)
  have hL6 : ∀  (n0 : Nat) (a : Int32 × Int32), VV m_X10_around w g 0 0 (QM m_X10_around w g x) (fun b : Int32 => (b, σ) = x) 6 [some (.ref (wB w + 55)), none, some (.int a.1), some (.int a.2)] [] σ (itr (L_X10_around_6 n  σ) n0 a) := by
    refine V_itr (vf := fun a : Int32 × Int32 => [some (.ref (wB w + 55)), none, some (.int a.1), some (.int a.2)]) (sf := fun a : Int32 × Int32 => σ) (fun κ6 b6 r6 a6 => ?_)
    obtain ⟨a6_1, a6_2⟩ := a6
    show VV m_X10_around w g 0 0 (QM m_X10_around w g x) κ6 6 [some (.ref (wB w + 55)), none, some (.int a6_1), some (.int a6_2)] [] σ (L_X10_around_6 n  σ (a6_1, a6_2))
    refine V_iload_n (pc := 6) dX10_around_6 rfl rfl ?_
    refine V_aload_n (pc := 7) dX10_around_7 rfl rfl ?_
    refine V_getr (pc := 8) (t := 3) fk_X10_9 rfl dX10_around_8 kc_55 rf_10_0_55 ?_
    refine V_geti (pc := 11) fk_X10_15 rfl dX10_around_11 kc_3 rf_4_0_3 ?_
    refine V_icmp_ge (pc := 14) (tgt := 29) dX10_around_14 (by decide +kernel) ?_ ?_
    · refine V_exit r6 ?_
      refine V_iload_n (pc := 29) dX10_around_29 rfl rfl ?_
      exact V_ireti (pc := 30) dX10_around_30 rfl (hk := fun h => h)
    · refine V_aload_n (pc := 17) dX10_around_17 rfl rfl ?_
      refine V_iload_n (pc := 18) dX10_around_18 rfl rfl ?_
      refine V_callVpi (pc := 19) (As := [.int a6_1]) (rest := []) (c_X10_widened w n a6_1 σ) cw_X10_25 rfl rfl dX10_around_19 kc_55 ci_10 ⟨Nat.le_of_ble_eq_true rfl, Nat.le_of_ble_eq_true rfl⟩ rfl rfl (Nat.le_of_ble_eq_true rfl) (Nat.le_of_ble_eq_true rfl) (Nat.le_of_ble_eq_true rfl) rfl (fun q19 => ?_)
      refine V_istore_n (pc := 22) (vs' := [some (.ref (wB w + 55)), none, some (.int q19), some (.int a6_2)]) dX10_around_22 rfl (Nat.le_of_ble_eq_true rfl) (Nat.le_of_ble_eq_true rfl) rfl ?_
      refine V_iincC (pc := 23) (vs' := [some (.ref (wB w + 55)), none, some (.int q19), some (.int (a6_2 + (1 : Int32)))]) dX10_around_23 (Nat.le_of_ble_eq_true rfl) rfl ic_1 rfl ?_
      refine V_goto (pc := 26) (tgt := 6) dX10_around_26 (by decide +kernel) ?_
      exact V_back (b6 (q19, (a6_2 + (1 : Int32))))
  refine V_iconst (pc := 0) dX10_around_0 ic_1 ?_
  refine V_iload_n (pc := 1) dX10_around_1 rfl rfl ?_
  refine V_ishl (pc := 2) dX10_around_2 ?_
  refine V_istore_n (pc := 3) (vs' := [some (.ref (wB w + 55)), some (.int p1), some (.int (shlI (1 : Int32) p1)), none]) dX10_around_3 rfl (Nat.le_of_ble_eq_true rfl) (Nat.le_of_ble_eq_true rfl) rfl ?_
  refine V_iconst (pc := 4) dX10_around_4 ic_1 ?_
  refine V_istore_n (pc := 5) (vs' := [some (.ref (wB w + 55)), some (.int p1), some (.int (shlI (1 : Int32) p1)), some (.int (1 : Int32))]) dX10_around_5 rfl (Nat.le_of_ble_eq_true rfl) (Nat.le_of_ble_eq_true rfl) rfl ?_
  refine V_sub (vs' := [some (.ref (wB w + 55)), none, some (.int (shlI (1 : Int32) p1)), some (.int (1 : Int32))]) (show vless _ _ from ⟨rfl, ⟨rfl, ⟨rfl, trivial⟩⟩⟩) rfl ?_
  exact hL6 n ((shlI (1 : Int32) p1), (1 : Int32))
def J_X10_groups_41 (n : Nat) (v1 : Int32) (v2 : Int32) (σ : MS) : Option ((Int32 × Int32) ⊕ (Int32)) := some (.inl (v1, (v2 + (1 : Int32))))
def L_X10_groups_4 (n : Nat)  (σ : MS) (a4 : Int32 × Int32) : Option ((Int32 × Int32) ⊕ (Int32)) := (if (σ 3 0) ≤ a4.2 then (some a4.1).map Sum.inr else ((f_X10_around n a4.2 σ).bind (fun q17 => (if q17 = (shlI (1 : Int32) a4.2) then J_X10_groups_41 n a4.1 a4.2 σ else ((f_J6_lowestOneBit_0f7a4 q17 σ).bind (fun q29 => (if q29 = (shlI (1 : Int32) a4.2) then J_X10_groups_41 n (a4.1 + (1 : Int32)) a4.2 σ else J_X10_groups_41 n a4.1 a4.2 σ)))))))
def f_X10_groups (n : Nat)  (σ : MS) : Option (Int32) := itr (L_X10_groups_4 n  σ) n ((0 : Int32), (0 : Int32))
set_option maxRecDepth 20000 in
set_option maxHeartbeats 2000000 in
theorem c_X10_groups (w : TG) (n : Nat)  (σ : MS) : MC m_X10_groups w [.ref (wB w + 55)] σ ((f_X10_groups n  σ).map (fun r => (r, σ))) := by
  refine V_methp (by decide +kernel) (Nat.le_of_ble_eq_true rfl) (by intro v hv; simp only [List.mem_cons, List.not_mem_nil, or_false] at hv; subst hv; rfl) (fun g x => ?_)
  show VV m_X10_groups w g 0 0 (QM m_X10_groups w g x) (fun b : Int32 => (b, σ) = x) 0 [some (.ref (wB w + 55)), none, none, none] [] σ (f_X10_groups n  σ)
  have hL4 : ∀  (n0 : Nat) (a : Int32 × Int32), VV m_X10_groups w g 0 0 (QM m_X10_groups w g x) (fun b : Int32 => (b, σ) = x) 4 [some (.ref (wB w + 55)), some (.int a.1), some (.int a.2), none] [] σ (itr (L_X10_groups_4 n  σ) n0 a) := by
    refine V_itr (vf := fun a : Int32 × Int32 => [some (.ref (wB w + 55)), some (.int a.1), some (.int a.2), none]) (sf := fun a : Int32 × Int32 => σ) (fun κ4 b4 r4 a4 => ?_)
    obtain ⟨a4_1, a4_2⟩ := a4
    show VV m_X10_groups w g 0 0 (QM m_X10_groups w g x) κ4 4 [some (.ref (wB w + 55)), some (.int a4_1), some (.int a4_2), none] [] σ (L_X10_groups_4 n  σ (a4_1, a4_2))
    have hJ41 : ∀ (v1 : Int32) (v2 : Int32), VV m_X10_groups w g 0 0 (QM m_X10_groups w g x) κ4 41 [some (.ref (wB w + 55)), some (.int v1), some (.int v2), none] [] σ (J_X10_groups_41 n v1 v2 σ) := by
      intro v1 v2
      refine V_iincC (pc := 41) (vs' := [some (.ref (wB w + 55)), some (.int v1), some (.int (v2 + (1 : Int32))), none]) dX10_groups_41 (Nat.le_of_ble_eq_true rfl) rfl ic_1 rfl ?_
      refine V_goto (pc := 44) (tgt := 4) dX10_groups_44 (by decide +kernel) ?_
      exact V_back (b4 (v1, (v2 + (1 : Int32))))
    refine V_iload_n (pc := 4) dX10_groups_4 rfl rfl ?_
    refine V_aload_n (pc := 5) dX10_groups_5 rfl rfl ?_
    refine V_getr (pc := 6) (t := 3) fk_X10_9 rfl dX10_groups_6 kc_55 rf_10_0_55 ?_
    refine V_geti (pc := 9) fk_X10_15 rfl dX10_groups_9 kc_3 rf_4_0_3 ?_
    refine V_icmp_ge (pc := 12) (tgt := 47) dX10_groups_12 (by decide +kernel) ?_ ?_
    · refine V_exit r4 ?_
      refine V_iload_n (pc := 47) dX10_groups_47 rfl rfl ?_
      exact V_ireti (pc := 48) dX10_groups_48 rfl (hk := fun h => h)
    · refine V_aload_n (pc := 15) dX10_groups_15 rfl rfl ?_
      refine V_iload_n (pc := 16) dX10_groups_16 rfl rfl ?_
      refine V_callVpi (pc := 17) (As := [.int a4_2]) (rest := []) (c_X10_around w n a4_2 σ) cw_X10_28 rfl rfl dX10_groups_17 kc_55 ci_10 ⟨Nat.le_of_ble_eq_true rfl, Nat.le_of_ble_eq_true rfl⟩ rfl rfl (Nat.le_of_ble_eq_true rfl) (Nat.le_of_ble_eq_true rfl) (Nat.le_of_ble_eq_true rfl) rfl (fun q17 => ?_)
      refine V_istore_n (pc := 20) (vs' := [some (.ref (wB w + 55)), some (.int a4_1), some (.int a4_2), some (.int q17)]) dX10_groups_20 rfl (Nat.le_of_ble_eq_true rfl) (Nat.le_of_ble_eq_true rfl) rfl ?_
      refine V_iload_n (pc := 21) dX10_groups_21 rfl rfl ?_
      refine V_iconst (pc := 22) dX10_groups_22 ic_1 ?_
      refine V_iload_n (pc := 23) dX10_groups_23 rfl rfl ?_
      refine V_ishl (pc := 24) dX10_groups_24 ?_
      refine V_icmp_eq (pc := 25) (tgt := 41) dX10_groups_25 (by decide +kernel) ?_ ?_
      · refine V_sub (vs' := [some (.ref (wB w + 55)), some (.int a4_1), some (.int a4_2), none]) (show vless _ _ from ⟨rfl, ⟨rfl, ⟨rfl, trivial⟩⟩⟩) rfl ?_
        exact hJ41 a4_1 a4_2
      · refine V_iload_n (pc := 28) dX10_groups_28 rfl rfl ?_
        refine V_callSpi (pc := 29) (As := [.int q17]) (rest := []) (c_J6_lowestOneBit_0f7a4 w q17 σ) cs_X10_31 rfl rfl dX10_groups_29 ⟨Nat.le_of_ble_eq_true rfl, Nat.le_of_ble_eq_true rfl⟩ rfl rfl (Nat.le_of_ble_eq_true rfl) (Nat.le_of_ble_eq_true rfl) (Nat.le_of_ble_eq_true rfl) rfl (fun q29 => ?_)
        refine V_iconst (pc := 32) dX10_groups_32 ic_1 ?_
        refine V_iload_n (pc := 33) dX10_groups_33 rfl rfl ?_
        refine V_ishl (pc := 34) dX10_groups_34 ?_
        refine V_icmp_ne (pc := 35) (tgt := 41) dX10_groups_35 (by decide +kernel) ?_ ?_
        · refine V_sub (vs' := [some (.ref (wB w + 55)), some (.int a4_1), some (.int a4_2), none]) (show vless _ _ from ⟨rfl, ⟨rfl, ⟨rfl, trivial⟩⟩⟩) rfl ?_
          exact hJ41 a4_1 a4_2
        · refine V_iincC (pc := 38) (vs' := [some (.ref (wB w + 55)), some (.int (a4_1 + (1 : Int32))), some (.int a4_2), some (.int q17)]) dX10_groups_38 (Nat.le_of_ble_eq_true rfl) rfl ic_1 rfl ?_
          refine V_sub (vs' := [some (.ref (wB w + 55)), some (.int (a4_1 + (1 : Int32))), some (.int a4_2), none]) (show vless _ _ from ⟨rfl, ⟨rfl, ⟨rfl, trivial⟩⟩⟩) rfl ?_
          exact hJ41 (a4_1 + (1 : Int32)) a4_2
  refine V_iconst (pc := 0) dX10_groups_0 ic_0 ?_
  refine V_istore_n (pc := 1) (vs' := [some (.ref (wB w + 55)), some (.int (0 : Int32)), none, none]) dX10_groups_1 rfl (Nat.le_of_ble_eq_true rfl) (Nat.le_of_ble_eq_true rfl) rfl ?_
  refine V_iconst (pc := 2) dX10_groups_2 ic_0 ?_
  refine V_istore_n (pc := 3) (vs' := [some (.ref (wB w + 55)), some (.int (0 : Int32)), some (.int (0 : Int32)), none]) dX10_groups_3 rfl (Nat.le_of_ble_eq_true rfl) (Nat.le_of_ble_eq_true rfl) rfl ?_
  exact hL4 n ((0 : Int32), (0 : Int32))
def L_X10_lastDay_25 (n : Nat) (v2 : Int32) (σ : MS) (a25 : Int32 × Int32) : Option ((Int32 × Int32) ⊕ ((Int32 × Int32) ⊕ (Int32))) := (if (σ 3 0) ≤ a25.2 then (some (.inl (a25.1, (v2 + (1 : Int32))))).map Sum.inr else ((f_X4_heldTill 3 v2 a25.2 σ).bind (fun q43 => some (.inl ((mxI a25.1 q43), (a25.2 + (1 : Int32)))))))
def L_X10_lastDay_10 (n : Nat)  (σ : MS) (a10 : Int32 × Int32) : Option ((Int32 × Int32) ⊕ (Int32)) := (if (σ 3 0) ≤ a10.2 then (some a10.1).map Sum.inr else itr (L_X10_lastDay_25 n a10.2 σ) n (a10.1, (a10.2 + (1 : Int32))))
def f_X10_lastDay (n : Nat)  (σ : MS) : Option (Int32) := itr (L_X10_lastDay_10 n  σ) n ((σ 3 5), (0 : Int32))
set_option maxRecDepth 20000 in
set_option maxHeartbeats 2000000 in
theorem c_X10_lastDay (w : TG) (n : Nat)  (σ : MS) : MC m_X10_lastDay w [.ref (wB w + 55)] σ ((f_X10_lastDay n  σ).map (fun r => (r, σ))) := by
  refine V_methp (by decide +kernel) (Nat.le_of_ble_eq_true rfl) (by intro v hv; simp only [List.mem_cons, List.not_mem_nil, or_false] at hv; subst hv; rfl) (fun g x => ?_)
  show VV m_X10_lastDay w g 0 0 (QM m_X10_lastDay w g x) (fun b : Int32 => (b, σ) = x) 0 [some (.ref (wB w + 55)), none, none, none] [] σ (f_X10_lastDay n  σ)
  have hL10 : ∀  (n0 : Nat) (a : Int32 × Int32), VV m_X10_lastDay w g 0 0 (QM m_X10_lastDay w g x) (fun b : Int32 => (b, σ) = x) 10 [some (.ref (wB w + 55)), some (.int a.1), some (.int a.2), none] [] σ (itr (L_X10_lastDay_10 n  σ) n0 a) := by
    refine V_itr (vf := fun a : Int32 × Int32 => [some (.ref (wB w + 55)), some (.int a.1), some (.int a.2), none]) (sf := fun a : Int32 × Int32 => σ) (fun κ10 b10 r10 a10 => ?_)
    obtain ⟨a10_1, a10_2⟩ := a10
    show VV m_X10_lastDay w g 0 0 (QM m_X10_lastDay w g x) κ10 10 [some (.ref (wB w + 55)), some (.int a10_1), some (.int a10_2), none] [] σ (L_X10_lastDay_10 n  σ (a10_1, a10_2))
    have hL25 : ∀ (v2 : Int32) (n0 : Nat) (a : Int32 × Int32), VV m_X10_lastDay w g 0 0 (QM m_X10_lastDay w g x) κ10 25 [some (.ref (wB w + 55)), some (.int a.1), some (.int v2), some (.int a.2)] [] σ (itr (L_X10_lastDay_25 n v2 σ) n0 a) := by
      intro v2
      refine V_itr (vf := fun a : Int32 × Int32 => [some (.ref (wB w + 55)), some (.int a.1), some (.int v2), some (.int a.2)]) (sf := fun a : Int32 × Int32 => σ) (fun κ25 b25 r25 a25 => ?_)
      obtain ⟨a25_1, a25_2⟩ := a25
      show VV m_X10_lastDay w g 0 0 (QM m_X10_lastDay w g x) κ25 25 [some (.ref (wB w + 55)), some (.int a25_1), some (.int v2), some (.int a25_2)] [] σ (L_X10_lastDay_25 n v2 σ (a25_1, a25_2))
      refine V_iload_n (pc := 25) dX10_lastDay_25 rfl rfl ?_
      refine V_aload_n (pc := 26) dX10_lastDay_26 rfl rfl ?_
      refine V_getr (pc := 27) (t := 3) fk_X10_9 rfl dX10_lastDay_27 kc_55 rf_10_0_55 ?_
      refine V_geti (pc := 30) fk_X10_15 rfl dX10_lastDay_30 kc_3 rf_4_0_3 ?_
      refine V_icmp_ge (pc := 33) (tgt := 56) dX10_lastDay_33 (by decide +kernel) ?_ ?_
      · refine V_exit r25 ?_
        refine V_iincC (pc := 56) (vs' := [some (.ref (wB w + 55)), some (.int a25_1), some (.int (v2 + (1 : Int32))), some (.int a25_2)]) dX10_lastDay_56 (Nat.le_of_ble_eq_true rfl) rfl ic_1 rfl ?_
        refine V_goto (pc := 59) (tgt := 10) dX10_lastDay_59 (by decide +kernel) ?_
        refine V_sub (vs' := [some (.ref (wB w + 55)), some (.int a25_1), some (.int (v2 + (1 : Int32))), none]) (show vless _ _ from ⟨rfl, ⟨rfl, ⟨rfl, trivial⟩⟩⟩) rfl ?_
        exact V_back (b10 (a25_1, (v2 + (1 : Int32))))
      · refine V_iload_n (pc := 36) dX10_lastDay_36 rfl rfl ?_
        refine V_aload_n (pc := 37) dX10_lastDay_37 rfl rfl ?_
        refine V_getr (pc := 38) (t := 3) fk_X10_9 rfl dX10_lastDay_38 kc_55 rf_10_0_55 ?_
        refine V_iload_n (pc := 41) dX10_lastDay_41 rfl rfl ?_
        refine V_iload_n (pc := 42) dX10_lastDay_42 rfl rfl ?_
        refine V_callVpi (pc := 43) (As := [.int v2, .int a25_2]) (rest := [.int a25_1]) (c_X4_heldTill w 3 v2 a25_2 kc_3 σ) cw_X10_46 rfl rfl dX10_lastDay_43 kc_3 ci_4 ⟨Nat.le_of_ble_eq_true rfl, Nat.le_of_ble_eq_true rfl⟩ rfl rfl (Nat.le_of_ble_eq_true rfl) (Nat.le_of_ble_eq_true rfl) (Nat.le_of_ble_eq_true rfl) rfl (fun q43 => ?_)
        refine V_mmax (pc := 46) dX10_lastDay_46 rfl mw_X10_50 (Nat.le_of_ble_eq_true rfl) (Nat.le_of_ble_eq_true rfl) (Nat.le_of_ble_eq_true rfl) (Nat.le_of_ble_eq_true rfl) ?_
        refine V_istore_n (pc := 49) (vs' := [some (.ref (wB w + 55)), some (.int (mxI a25_1 q43)), some (.int v2), some (.int a25_2)]) dX10_lastDay_49 rfl (Nat.le_of_ble_eq_true rfl) (Nat.le_of_ble_eq_true rfl) rfl ?_
        refine V_iincC (pc := 50) (vs' := [some (.ref (wB w + 55)), some (.int (mxI a25_1 q43)), some (.int v2), some (.int (a25_2 + (1 : Int32)))]) dX10_lastDay_50 (Nat.le_of_ble_eq_true rfl) rfl ic_1 rfl ?_
        refine V_goto (pc := 53) (tgt := 25) dX10_lastDay_53 (by decide +kernel) ?_
        exact V_back (b25 ((mxI a25_1 q43), (a25_2 + (1 : Int32))))
    refine V_iload_n (pc := 10) dX10_lastDay_10 rfl rfl ?_
    refine V_aload_n (pc := 11) dX10_lastDay_11 rfl rfl ?_
    refine V_getr (pc := 12) (t := 3) fk_X10_9 rfl dX10_lastDay_12 kc_55 rf_10_0_55 ?_
    refine V_geti (pc := 15) fk_X10_15 rfl dX10_lastDay_15 kc_3 rf_4_0_3 ?_
    refine V_icmp_ge (pc := 18) (tgt := 62) dX10_lastDay_18 (by decide +kernel) ?_ ?_
    · refine V_exit r10 ?_
      refine V_iload_n (pc := 62) dX10_lastDay_62 rfl rfl ?_
      exact V_ireti (pc := 63) dX10_lastDay_63 rfl (hk := fun h => h)
    · refine V_iload_n (pc := 21) dX10_lastDay_21 rfl rfl ?_
      refine V_iconst (pc := 22) dX10_lastDay_22 ic_1 ?_
      refine V_iadd (pc := 23) dX10_lastDay_23 ?_
      refine V_istore_n (pc := 24) (vs' := [some (.ref (wB w + 55)), some (.int a10_1), some (.int a10_2), some (.int (a10_2 + (1 : Int32)))]) dX10_lastDay_24 rfl (Nat.le_of_ble_eq_true rfl) (Nat.le_of_ble_eq_true rfl) rfl ?_
      exact hL25 a10_2 n (a10_1, (a10_2 + (1 : Int32)))
  refine V_aload_n (pc := 0) dX10_lastDay_0 rfl rfl ?_
  refine V_getr (pc := 1) (t := 3) fk_X10_9 rfl dX10_lastDay_1 kc_55 rf_10_0_55 ?_
  refine V_geti (pc := 4) fk_X10_43 rfl dX10_lastDay_4 kc_3 rf_4_5_3 ?_
  refine V_istore_n (pc := 7) (vs' := [some (.ref (wB w + 55)), some (.int (σ 3 5)), none, none]) dX10_lastDay_7 rfl (Nat.le_of_ble_eq_true rfl) (Nat.le_of_ble_eq_true rfl) rfl ?_
  refine V_iconst (pc := 8) dX10_lastDay_8 ic_0 ?_
  refine V_istore_n (pc := 9) (vs' := [some (.ref (wB w + 55)), some (.int (σ 3 5)), some (.int (0 : Int32)), none]) dX10_lastDay_9 rfl (Nat.le_of_ble_eq_true rfl) (Nat.le_of_ble_eq_true rfl) rfl ?_
  exact hL10 n ((σ 3 5), (0 : Int32))
def J_X10_unboundOn_57 (n : Nat) (v1 : Int32) (v3 : Int32) (v2 : Int32) (v4 : Int32) (σ : MS) : Option ((Int32 × Int32) ⊕ ((Int32 × Int32) ⊕ (Int32))) := some (.inl (v2, (v4 + (1 : Int32))))
def L_X10_unboundOn_20 (n : Nat) (v1 : Int32) (v3 : Int32) (σ : MS) (a20 : Int32 × Int32) : Option ((Int32 × Int32) ⊕ ((Int32 × Int32) ⊕ (Int32))) := (if (σ 3 0) ≤ a20.2 then (some (.inl (a20.1, (v3 + (1 : Int32))))).map Sum.inr else ((f_X4_holdsOn 3 v3 a20.2 v1 σ).bind (fun q40 => (if q40 = 0 then J_X10_unboundOn_57 n v1 v3 a20.1 a20.2 σ else J_X10_unboundOn_57 n v1 v3 (a20.1 ||| ((shlI (1 : Int32) v3) ||| (shlI (1 : Int32) a20.2))) a20.2 σ))))
def L_X10_unboundOn_4 (n : Nat) (v1 : Int32) (σ : MS) (a4 : Int32 × Int32) : Option ((Int32 × Int32) ⊕ (Int32)) := (if (σ 3 0) ≤ a4.2 then (((f_X4_everybody 3 σ).bind (fun q73 => some (q73 &&& (a4.1 ^^^ (-1 : Int32)))))).map Sum.inr else itr (L_X10_unboundOn_20 n v1 a4.2 σ) n (a4.1, (a4.2 + (1 : Int32))))
def f_X10_unboundOn (n : Nat) (p1 : Int32) (σ : MS) : Option (Int32) := itr (L_X10_unboundOn_4 n p1 σ) n ((0 : Int32), (0 : Int32))
set_option maxRecDepth 20000 in
set_option maxHeartbeats 2000000 in
theorem c_X10_unboundOn (w : TG) (n : Nat) (p1 : Int32) (σ : MS) : MC m_X10_unboundOn w [.ref (wB w + 55), .int p1] σ ((f_X10_unboundOn n p1 σ).map (fun r => (r, σ))) := by
  refine V_methp (by decide +kernel) (Nat.le_of_ble_eq_true rfl) (by intro v hv; simp only [List.mem_cons, List.not_mem_nil, or_false] at hv; rcases hv with rfl | rfl <;> rfl) (fun g x => ?_)
  show VV m_X10_unboundOn w g 0 0 (QM m_X10_unboundOn w g x) (fun b : Int32 => (b, σ) = x) 0 [some (.ref (wB w + 55)), some (.int p1), none, none, none] [] σ (f_X10_unboundOn n p1 σ)
  have hL4 : ∀  (n0 : Nat) (a : Int32 × Int32), VV m_X10_unboundOn w g 0 0 (QM m_X10_unboundOn w g x) (fun b : Int32 => (b, σ) = x) 4 [some (.ref (wB w + 55)), some (.int p1), some (.int a.1), some (.int a.2), none] [] σ (itr (L_X10_unboundOn_4 n p1 σ) n0 a) := by
    refine V_itr (vf := fun a : Int32 × Int32 => [some (.ref (wB w + 55)), some (.int p1), some (.int a.1), some (.int a.2), none]) (sf := fun a : Int32 × Int32 => σ) (fun κ4 b4 r4 a4 => ?_)
    obtain ⟨a4_1, a4_2⟩ := a4
    show VV m_X10_unboundOn w g 0 0 (QM m_X10_unboundOn w g x) κ4 4 [some (.ref (wB w + 55)), some (.int p1), some (.int a4_1), some (.int a4_2), none] [] σ (L_X10_unboundOn_4 n p1 σ (a4_1, a4_2))
    have hL20 : ∀ (v3 : Int32) (n0 : Nat) (a : Int32 × Int32), VV m_X10_unboundOn w g 0 0 (QM m_X10_unboundOn w g x) κ4 20 [some (.ref (wB w + 55)), some (.int p1), some (.int a.1), some (.int v3), some (.int a.2)] [] σ (itr (L_X10_unboundOn_20 n p1 v3 σ) n0 a) := by
      intro v3
      refine V_itr (vf := fun a : Int32 × Int32 => [some (.ref (wB w + 55)), some (.int p1), some (.int a.1), some (.int v3), some (.int a.2)]) (sf := fun a : Int32 × Int32 => σ) (fun κ20 b20 r20 a20 => ?_)
      obtain ⟨a20_1, a20_2⟩ := a20
      show VV m_X10_unboundOn w g 0 0 (QM m_X10_unboundOn w g x) κ20 20 [some (.ref (wB w + 55)), some (.int p1), some (.int a20_1), some (.int v3), some (.int a20_2)] [] σ (L_X10_unboundOn_20 n p1 v3 σ (a20_1, a20_2))
      have hJ57 : ∀ (v2 : Int32) (v4 : Int32), VV m_X10_unboundOn w g 0 0 (QM m_X10_unboundOn w g x) κ20 57 [some (.ref (wB w + 55)), some (.int p1), some (.int v2), some (.int v3), some (.int v4)] [] σ (J_X10_unboundOn_57 n p1 v3 v2 v4 σ) := by
        intro v2 v4
        refine V_iincC (pc := 57) (vs' := [some (.ref (wB w + 55)), some (.int p1), some (.int v2), some (.int v3), some (.int (v4 + (1 : Int32)))]) dX10_unboundOn_57 (Nat.le_of_ble_eq_true rfl) rfl ic_1 rfl ?_
        refine V_goto (pc := 60) (tgt := 20) dX10_unboundOn_60 (by decide +kernel) ?_
        exact V_back (b20 (v2, (v4 + (1 : Int32))))
      refine V_iload (pc := 20) dX10_unboundOn_20 rfl ?_
      refine V_aload_n (pc := 22) dX10_unboundOn_22 rfl rfl ?_
      refine V_getr (pc := 23) (t := 3) fk_X10_9 rfl dX10_unboundOn_23 kc_55 rf_10_0_55 ?_
      refine V_geti (pc := 26) fk_X10_15 rfl dX10_unboundOn_26 kc_3 rf_4_0_3 ?_
      refine V_icmp_ge (pc := 29) (tgt := 63) dX10_unboundOn_29 (by decide +kernel) ?_ ?_
      · refine V_exit r20 ?_
        refine V_iincC (pc := 63) (vs' := [some (.ref (wB w + 55)), some (.int p1), some (.int a20_1), some (.int (v3 + (1 : Int32))), some (.int a20_2)]) dX10_unboundOn_63 (Nat.le_of_ble_eq_true rfl) rfl ic_1 rfl ?_
        refine V_goto (pc := 66) (tgt := 4) dX10_unboundOn_66 (by decide +kernel) ?_
        refine V_sub (vs' := [some (.ref (wB w + 55)), some (.int p1), some (.int a20_1), some (.int (v3 + (1 : Int32))), none]) (show vless _ _ from ⟨rfl, ⟨rfl, ⟨rfl, ⟨rfl, trivial⟩⟩⟩⟩) rfl ?_
        exact V_back (b4 (a20_1, (v3 + (1 : Int32))))
      · refine V_aload_n (pc := 32) dX10_unboundOn_32 rfl rfl ?_
        refine V_getr (pc := 33) (t := 3) fk_X10_9 rfl dX10_unboundOn_33 kc_55 rf_10_0_55 ?_
        refine V_iload_n (pc := 36) dX10_unboundOn_36 rfl rfl ?_
        refine V_iload (pc := 37) dX10_unboundOn_37 rfl ?_
        refine V_iload_n (pc := 39) dX10_unboundOn_39 rfl rfl ?_
        refine V_callVpi (pc := 40) (As := [.int v3, .int a20_2, .int p1]) (rest := []) (c_X4_holdsOn w 3 v3 a20_2 p1 kc_3 σ) cw_X10_55 rfl rfl dX10_unboundOn_40 kc_3 ci_4 ⟨Nat.le_of_ble_eq_true rfl, Nat.le_of_ble_eq_true rfl⟩ rfl rfl (Nat.le_of_ble_eq_true rfl) (Nat.le_of_ble_eq_true rfl) (Nat.le_of_ble_eq_true rfl) rfl (fun q40 => ?_)
        refine V_if_eq (pc := 43) (tgt := 57) dX10_unboundOn_43 (by decide +kernel) ?_ ?_
        · exact hJ57 a20_1 a20_2
        · refine V_iload_n (pc := 46) dX10_unboundOn_46 rfl rfl ?_
          refine V_iconst (pc := 47) dX10_unboundOn_47 ic_1 ?_
          refine V_iload_n (pc := 48) dX10_unboundOn_48 rfl rfl ?_
          refine V_ishl (pc := 49) dX10_unboundOn_49 ?_
          refine V_iconst (pc := 50) dX10_unboundOn_50 ic_1 ?_
          refine V_iload (pc := 51) dX10_unboundOn_51 rfl ?_
          refine V_ishl (pc := 53) dX10_unboundOn_53 ?_
          refine V_ior (pc := 54) dX10_unboundOn_54 ?_
          refine V_ior (pc := 55) dX10_unboundOn_55 ?_
          refine V_istore_n (pc := 56) (vs' := [some (.ref (wB w + 55)), some (.int p1), some (.int (a20_1 ||| ((shlI (1 : Int32) v3) ||| (shlI (1 : Int32) a20_2)))), some (.int v3), some (.int a20_2)]) dX10_unboundOn_56 rfl (Nat.le_of_ble_eq_true rfl) (Nat.le_of_ble_eq_true rfl) rfl ?_
          exact hJ57 (a20_1 ||| ((shlI (1 : Int32) v3) ||| (shlI (1 : Int32) a20_2))) a20_2
    refine V_iload_n (pc := 4) dX10_unboundOn_4 rfl rfl ?_
    refine V_aload_n (pc := 5) dX10_unboundOn_5 rfl rfl ?_
    refine V_getr (pc := 6) (t := 3) fk_X10_9 rfl dX10_unboundOn_6 kc_55 rf_10_0_55 ?_
    refine V_geti (pc := 9) fk_X10_15 rfl dX10_unboundOn_9 kc_3 rf_4_0_3 ?_
    refine V_icmp_ge (pc := 12) (tgt := 69) dX10_unboundOn_12 (by decide +kernel) ?_ ?_
    · refine V_exit r4 ?_
      refine V_aload_n (pc := 69) dX10_unboundOn_69 rfl rfl ?_
      refine V_getr (pc := 70) (t := 3) fk_X10_9 rfl dX10_unboundOn_70 kc_55 rf_10_0_55 ?_
      refine V_callVpi (pc := 73) (As := []) (rest := []) (c_X4_everybody w 3 kc_3 σ) cw_X10_59 rfl rfl dX10_unboundOn_73 kc_3 ci_4 ⟨Nat.le_of_ble_eq_true rfl, Nat.le_of_ble_eq_true rfl⟩ rfl rfl (Nat.le_of_ble_eq_true rfl) (Nat.le_of_ble_eq_true rfl) (Nat.le_of_ble_eq_true rfl) rfl (fun q73 => ?_)
      refine V_iload_n (pc := 76) dX10_unboundOn_76 rfl rfl ?_
      refine V_iconst (pc := 77) dX10_unboundOn_77 ic_m1 ?_
      refine V_ixor (pc := 78) dX10_unboundOn_78 ?_
      refine V_iand (pc := 79) dX10_unboundOn_79 ?_
      exact V_ireti (pc := 80) dX10_unboundOn_80 rfl (hk := fun h => h)
    · refine V_iload_n (pc := 15) dX10_unboundOn_15 rfl rfl ?_
      refine V_iconst (pc := 16) dX10_unboundOn_16 ic_1 ?_
      refine V_iadd (pc := 17) dX10_unboundOn_17 ?_
      refine V_istore (pc := 18) (vs' := [some (.ref (wB w + 55)), some (.int p1), some (.int a4_1), some (.int a4_2), some (.int (a4_2 + (1 : Int32)))]) dX10_unboundOn_18 (Nat.le_of_ble_eq_true rfl) (Nat.le_of_ble_eq_true rfl) rfl ?_
      exact hL20 a4_2 n (a4_1, (a4_2 + (1 : Int32)))
  refine V_iconst (pc := 0) dX10_unboundOn_0 ic_0 ?_
  refine V_istore_n (pc := 1) (vs' := [some (.ref (wB w + 55)), some (.int p1), some (.int (0 : Int32)), none, none]) dX10_unboundOn_1 rfl (Nat.le_of_ble_eq_true rfl) (Nat.le_of_ble_eq_true rfl) rfl ?_
  refine V_iconst (pc := 2) dX10_unboundOn_2 ic_0 ?_
  refine V_istore_n (pc := 3) (vs' := [some (.ref (wB w + 55)), some (.int p1), some (.int (0 : Int32)), some (.int (0 : Int32)), none]) dX10_unboundOn_3 rfl (Nat.le_of_ble_eq_true rfl) (Nat.le_of_ble_eq_true rfl) rfl ?_
  exact hL4 n ((0 : Int32), (0 : Int32))
def J_X10_hidden_45 (n : Nat) (v2 : Int32) (v1 : Int32) (v3 : Int32) (σ : MS) : Option ((Int32 × Int32) ⊕ ((Int32 × Int32) ⊕ (Int32))) := some (.inl (v1, (v3 + (1 : Int32))))
def L_X10_hidden_19 (n : Nat) (v2 : Int32) (σ : MS) (a19 : Int32 × Int32) : Option ((Int32 × Int32) ⊕ ((Int32 × Int32) ⊕ (Int32))) := (if (σ 3 0) ≤ a19.2 then (some (.inl (a19.1, (v2 + (1 : Int32))))).map Sum.inr else ((f_X4_isSecret 3 v2 a19.2 σ).bind (fun q36 => (if q36 = 0 then J_X10_hidden_45 n v2 a19.1 a19.2 σ else J_X10_hidden_45 n v2 (a19.1 + (1 : Int32)) a19.2 σ))))
def L_X10_hidden_4 (n : Nat)  (σ : MS) (a4 : Int32 × Int32) : Option ((Int32 × Int32) ⊕ (Int32)) := (if (σ 3 0) ≤ a4.2 then (some a4.1).map Sum.inr else itr (L_X10_hidden_19 n a4.2 σ) n (a4.1, (a4.2 + (1 : Int32))))
def f_X10_hidden (n : Nat)  (σ : MS) : Option (Int32) := itr (L_X10_hidden_4 n  σ) n ((0 : Int32), (0 : Int32))
set_option maxRecDepth 20000 in
set_option maxHeartbeats 2000000 in
theorem c_X10_hidden (w : TG) (n : Nat)  (σ : MS) : MC m_X10_hidden w [.ref (wB w + 55)] σ ((f_X10_hidden n  σ).map (fun r => (r, σ))) := by
  refine V_methp (by decide +kernel) (Nat.le_of_ble_eq_true rfl) (by intro v hv; simp only [List.mem_cons, List.not_mem_nil, or_false] at hv; subst hv; rfl) (fun g x => ?_)
  show VV m_X10_hidden w g 0 0 (QM m_X10_hidden w g x) (fun b : Int32 => (b, σ) = x) 0 [some (.ref (wB w + 55)), none, none, none] [] σ (f_X10_hidden n  σ)
  have hL4 : ∀  (n0 : Nat) (a : Int32 × Int32), VV m_X10_hidden w g 0 0 (QM m_X10_hidden w g x) (fun b : Int32 => (b, σ) = x) 4 [some (.ref (wB w + 55)), some (.int a.1), some (.int a.2), none] [] σ (itr (L_X10_hidden_4 n  σ) n0 a) := by
    refine V_itr (vf := fun a : Int32 × Int32 => [some (.ref (wB w + 55)), some (.int a.1), some (.int a.2), none]) (sf := fun a : Int32 × Int32 => σ) (fun κ4 b4 r4 a4 => ?_)
    obtain ⟨a4_1, a4_2⟩ := a4
    show VV m_X10_hidden w g 0 0 (QM m_X10_hidden w g x) κ4 4 [some (.ref (wB w + 55)), some (.int a4_1), some (.int a4_2), none] [] σ (L_X10_hidden_4 n  σ (a4_1, a4_2))
    have hL19 : ∀ (v2 : Int32) (n0 : Nat) (a : Int32 × Int32), VV m_X10_hidden w g 0 0 (QM m_X10_hidden w g x) κ4 19 [some (.ref (wB w + 55)), some (.int a.1), some (.int v2), some (.int a.2)] [] σ (itr (L_X10_hidden_19 n v2 σ) n0 a) := by
      intro v2
      refine V_itr (vf := fun a : Int32 × Int32 => [some (.ref (wB w + 55)), some (.int a.1), some (.int v2), some (.int a.2)]) (sf := fun a : Int32 × Int32 => σ) (fun κ19 b19 r19 a19 => ?_)
      obtain ⟨a19_1, a19_2⟩ := a19
      show VV m_X10_hidden w g 0 0 (QM m_X10_hidden w g x) κ19 19 [some (.ref (wB w + 55)), some (.int a19_1), some (.int v2), some (.int a19_2)] [] σ (L_X10_hidden_19 n v2 σ (a19_1, a19_2))
      have hJ45 : ∀ (v1 : Int32) (v3 : Int32), VV m_X10_hidden w g 0 0 (QM m_X10_hidden w g x) κ19 45 [some (.ref (wB w + 55)), some (.int v1), some (.int v2), some (.int v3)] [] σ (J_X10_hidden_45 n v2 v1 v3 σ) := by
        intro v1 v3
        refine V_iincC (pc := 45) (vs' := [some (.ref (wB w + 55)), some (.int v1), some (.int v2), some (.int (v3 + (1 : Int32)))]) dX10_hidden_45 (Nat.le_of_ble_eq_true rfl) rfl ic_1 rfl ?_
        refine V_goto (pc := 48) (tgt := 19) dX10_hidden_48 (by decide +kernel) ?_
        exact V_back (b19 (v1, (v3 + (1 : Int32))))
      refine V_iload_n (pc := 19) dX10_hidden_19 rfl rfl ?_
      refine V_aload_n (pc := 20) dX10_hidden_20 rfl rfl ?_
      refine V_getr (pc := 21) (t := 3) fk_X10_9 rfl dX10_hidden_21 kc_55 rf_10_0_55 ?_
      refine V_geti (pc := 24) fk_X10_15 rfl dX10_hidden_24 kc_3 rf_4_0_3 ?_
      refine V_icmp_ge (pc := 27) (tgt := 51) dX10_hidden_27 (by decide +kernel) ?_ ?_
      · refine V_exit r19 ?_
        refine V_iincC (pc := 51) (vs' := [some (.ref (wB w + 55)), some (.int a19_1), some (.int (v2 + (1 : Int32))), some (.int a19_2)]) dX10_hidden_51 (Nat.le_of_ble_eq_true rfl) rfl ic_1 rfl ?_
        refine V_goto (pc := 54) (tgt := 4) dX10_hidden_54 (by decide +kernel) ?_
        refine V_sub (vs' := [some (.ref (wB w + 55)), some (.int a19_1), some (.int (v2 + (1 : Int32))), none]) (show vless _ _ from ⟨rfl, ⟨rfl, ⟨rfl, trivial⟩⟩⟩) rfl ?_
        exact V_back (b4 (a19_1, (v2 + (1 : Int32))))
      · refine V_aload_n (pc := 30) dX10_hidden_30 rfl rfl ?_
        refine V_getr (pc := 31) (t := 3) fk_X10_9 rfl dX10_hidden_31 kc_55 rf_10_0_55 ?_
        refine V_iload_n (pc := 34) dX10_hidden_34 rfl rfl ?_
        refine V_iload_n (pc := 35) dX10_hidden_35 rfl rfl ?_
        refine V_callVpi (pc := 36) (As := [.int v2, .int a19_2]) (rest := []) (c_X4_isSecret w 3 v2 a19_2 kc_3 σ) cw_X10_39 rfl rfl dX10_hidden_36 kc_3 ci_4 ⟨Nat.le_of_ble_eq_true rfl, Nat.le_of_ble_eq_true rfl⟩ rfl rfl (Nat.le_of_ble_eq_true rfl) (Nat.le_of_ble_eq_true rfl) (Nat.le_of_ble_eq_true rfl) rfl (fun q36 => ?_)
        refine V_if_eq (pc := 39) (tgt := 45) dX10_hidden_39 (by decide +kernel) ?_ ?_
        · exact hJ45 a19_1 a19_2
        · refine V_iincC (pc := 42) (vs' := [some (.ref (wB w + 55)), some (.int (a19_1 + (1 : Int32))), some (.int v2), some (.int a19_2)]) dX10_hidden_42 (Nat.le_of_ble_eq_true rfl) rfl ic_1 rfl ?_
          exact hJ45 (a19_1 + (1 : Int32)) a19_2
    refine V_iload_n (pc := 4) dX10_hidden_4 rfl rfl ?_
    refine V_aload_n (pc := 5) dX10_hidden_5 rfl rfl ?_
    refine V_getr (pc := 6) (t := 3) fk_X10_9 rfl dX10_hidden_6 kc_55 rf_10_0_55 ?_
    refine V_geti (pc := 9) fk_X10_15 rfl dX10_hidden_9 kc_3 rf_4_0_3 ?_
    refine V_icmp_ge (pc := 12) (tgt := 57) dX10_hidden_12 (by decide +kernel) ?_ ?_
    · refine V_exit r4 ?_
      refine V_iload_n (pc := 57) dX10_hidden_57 rfl rfl ?_
      exact V_ireti (pc := 58) dX10_hidden_58 rfl (hk := fun h => h)
    · refine V_iload_n (pc := 15) dX10_hidden_15 rfl rfl ?_
      refine V_iconst (pc := 16) dX10_hidden_16 ic_1 ?_
      refine V_iadd (pc := 17) dX10_hidden_17 ?_
      refine V_istore_n (pc := 18) (vs' := [some (.ref (wB w + 55)), some (.int a4_1), some (.int a4_2), some (.int (a4_2 + (1 : Int32)))]) dX10_hidden_18 rfl (Nat.le_of_ble_eq_true rfl) (Nat.le_of_ble_eq_true rfl) rfl ?_
      exact hL19 a4_2 n (a4_1, (a4_2 + (1 : Int32)))
  refine V_iconst (pc := 0) dX10_hidden_0 ic_0 ?_
  refine V_istore_n (pc := 1) (vs' := [some (.ref (wB w + 55)), some (.int (0 : Int32)), none, none]) dX10_hidden_1 rfl (Nat.le_of_ble_eq_true rfl) (Nat.le_of_ble_eq_true rfl) rfl ?_
  refine V_iconst (pc := 2) dX10_hidden_2 ic_0 ?_
  refine V_istore_n (pc := 3) (vs' := [some (.ref (wB w + 55)), some (.int (0 : Int32)), some (.int (0 : Int32)), none]) dX10_hidden_3 rfl (Nat.le_of_ble_eq_true rfl) (Nat.le_of_ble_eq_true rfl) rfl ?_
  exact hL4 n ((0 : Int32), (0 : Int32))
def J_X10_leaving_41 (n : Nat) (v1 : Int32) (v2 : Int32) (v3 : Int32) (σ : MS) : Option ((Int32 × Int32) ⊕ (Int32)) := some (.inl (v2, (v3 + (1 : Int32))))
def L_X10_leaving_4 (n : Nat) (v1 : Int32) (σ : MS) (a4 : Int32 × Int32) : Option ((Int32 × Int32) ⊕ (Int32)) := (if (σ 3 0) ≤ a4.2 then (some a4.1).map Sum.inr else (if (v1 &&& (shlI (1 : Int32) a4.2)) = 0 then J_X10_leaving_41 n v1 a4.1 a4.2 σ else ((f_X4_boundTo n 3 a4.2 σ).bind (fun q29 => ((f_J6_bitCount_0f7a4 (q29 &&& (v1 ^^^ (-1 : Int32))) σ).bind (fun q36 => J_X10_leaving_41 n v1 (a4.1 + q36) a4.2 σ))))))
def f_X10_leaving (n : Nat) (p1 : Int32) (σ : MS) : Option (Int32) := itr (L_X10_leaving_4 n p1 σ) n ((0 : Int32), (0 : Int32))
set_option maxRecDepth 20000 in
set_option maxHeartbeats 2000000 in
theorem c_X10_leaving (w : TG) (n : Nat) (p1 : Int32) (σ : MS) : MC m_X10_leaving w [.ref (wB w + 55), .int p1] σ ((f_X10_leaving n p1 σ).map (fun r => (r, σ))) := by
  refine V_methp (by decide +kernel) (Nat.le_of_ble_eq_true rfl) (by intro v hv; simp only [List.mem_cons, List.not_mem_nil, or_false] at hv; rcases hv with rfl | rfl <;> rfl) (fun g x => ?_)
  show VV m_X10_leaving w g 0 0 (QM m_X10_leaving w g x) (fun b : Int32 => (b, σ) = x) 0 [some (.ref (wB w + 55)), some (.int p1), none, none] [] σ (f_X10_leaving n p1 σ)
  have hL4 : ∀  (n0 : Nat) (a : Int32 × Int32), VV m_X10_leaving w g 0 0 (QM m_X10_leaving w g x) (fun b : Int32 => (b, σ) = x) 4 [some (.ref (wB w + 55)), some (.int p1), some (.int a.1), some (.int a.2)] [] σ (itr (L_X10_leaving_4 n p1 σ) n0 a) := by
    refine V_itr (vf := fun a : Int32 × Int32 => [some (.ref (wB w + 55)), some (.int p1), some (.int a.1), some (.int a.2)]) (sf := fun a : Int32 × Int32 => σ) (fun κ4 b4 r4 a4 => ?_)
    obtain ⟨a4_1, a4_2⟩ := a4
    show VV m_X10_leaving w g 0 0 (QM m_X10_leaving w g x) κ4 4 [some (.ref (wB w + 55)), some (.int p1), some (.int a4_1), some (.int a4_2)] [] σ (L_X10_leaving_4 n p1 σ (a4_1, a4_2))
    have hJ41 : ∀ (v2 : Int32) (v3 : Int32), VV m_X10_leaving w g 0 0 (QM m_X10_leaving w g x) κ4 41 [some (.ref (wB w + 55)), some (.int p1), some (.int v2), some (.int v3)] [] σ (J_X10_leaving_41 n p1 v2 v3 σ) := by
      intro v2 v3
      refine V_iincC (pc := 41) (vs' := [some (.ref (wB w + 55)), some (.int p1), some (.int v2), some (.int (v3 + (1 : Int32)))]) dX10_leaving_41 (Nat.le_of_ble_eq_true rfl) rfl ic_1 rfl ?_
      refine V_goto (pc := 44) (tgt := 4) dX10_leaving_44 (by decide +kernel) ?_
      exact V_back (b4 (v2, (v3 + (1 : Int32))))
    refine V_iload_n (pc := 4) dX10_leaving_4 rfl rfl ?_
    refine V_aload_n (pc := 5) dX10_leaving_5 rfl rfl ?_
    refine V_getr (pc := 6) (t := 3) fk_X10_9 rfl dX10_leaving_6 kc_55 rf_10_0_55 ?_
    refine V_geti (pc := 9) fk_X10_15 rfl dX10_leaving_9 kc_3 rf_4_0_3 ?_
    refine V_icmp_ge (pc := 12) (tgt := 47) dX10_leaving_12 (by decide +kernel) ?_ ?_
    · refine V_exit r4 ?_
      refine V_iload_n (pc := 47) dX10_leaving_47 rfl rfl ?_
      exact V_ireti (pc := 48) dX10_leaving_48 rfl (hk := fun h => h)
    · refine V_iload_n (pc := 15) dX10_leaving_15 rfl rfl ?_
      refine V_iconst (pc := 16) dX10_leaving_16 ic_1 ?_
      refine V_iload_n (pc := 17) dX10_leaving_17 rfl rfl ?_
      refine V_ishl (pc := 18) dX10_leaving_18 ?_
      refine V_iand (pc := 19) dX10_leaving_19 ?_
      refine V_if_eq (pc := 20) (tgt := 41) dX10_leaving_20 (by decide +kernel) ?_ ?_
      · exact hJ41 a4_1 a4_2
      · refine V_iload_n (pc := 23) dX10_leaving_23 rfl rfl ?_
        refine V_aload_n (pc := 24) dX10_leaving_24 rfl rfl ?_
        refine V_getr (pc := 25) (t := 3) fk_X10_9 rfl dX10_leaving_25 kc_55 rf_10_0_55 ?_
        refine V_iload_n (pc := 28) dX10_leaving_28 rfl rfl ?_
        refine V_callVpi (pc := 29) (As := [.int a4_2]) (rest := [.int a4_1]) (c_X4_boundTo w n 3 a4_2 kc_3 σ) cw_X10_21 rfl rfl dX10_leaving_29 kc_3 ci_4 ⟨Nat.le_of_ble_eq_true rfl, Nat.le_of_ble_eq_true rfl⟩ rfl rfl (Nat.le_of_ble_eq_true rfl) (Nat.le_of_ble_eq_true rfl) (Nat.le_of_ble_eq_true rfl) rfl (fun q29 => ?_)
        refine V_iload_n (pc := 32) dX10_leaving_32 rfl rfl ?_
        refine V_iconst (pc := 33) dX10_leaving_33 ic_m1 ?_
        refine V_ixor (pc := 34) dX10_leaving_34 ?_
        refine V_iand (pc := 35) dX10_leaving_35 ?_
        refine V_callSpi (pc := 36) (As := [.int (q29 &&& (p1 ^^^ (-1 : Int32)))]) (rest := [.int a4_1]) (c_J6_bitCount_0f7a4 w (q29 &&& (p1 ^^^ (-1 : Int32))) σ) cs_X10_36 rfl rfl dX10_leaving_36 ⟨Nat.le_of_ble_eq_true rfl, Nat.le_of_ble_eq_true rfl⟩ rfl rfl (Nat.le_of_ble_eq_true rfl) (Nat.le_of_ble_eq_true rfl) (Nat.le_of_ble_eq_true rfl) rfl (fun q36 => ?_)
        refine V_iadd (pc := 39) dX10_leaving_39 ?_
        refine V_istore_n (pc := 40) (vs' := [some (.ref (wB w + 55)), some (.int p1), some (.int (a4_1 + q36)), some (.int a4_2)]) dX10_leaving_40 rfl (Nat.le_of_ble_eq_true rfl) (Nat.le_of_ble_eq_true rfl) rfl ?_
        exact hJ41 (a4_1 + q36) a4_2
  refine V_iconst (pc := 0) dX10_leaving_0 ic_0 ?_
  refine V_istore_n (pc := 1) (vs' := [some (.ref (wB w + 55)), some (.int p1), some (.int (0 : Int32)), none]) dX10_leaving_1 rfl (Nat.le_of_ble_eq_true rfl) (Nat.le_of_ble_eq_true rfl) rfl ?_
  refine V_iconst (pc := 2) dX10_leaving_2 ic_0 ?_
  refine V_istore_n (pc := 3) (vs' := [some (.ref (wB w + 55)), some (.int p1), some (.int (0 : Int32)), some (.int (0 : Int32))]) dX10_leaving_3 rfl (Nat.le_of_ble_eq_true rfl) (Nat.le_of_ble_eq_true rfl) rfl ?_
  exact hL4 n ((0 : Int32), (0 : Int32))
def J_X10_cut_47 (n : Nat) (v1 : Int32) (v2 : Int32) (v3 : Int32) (v4 : Int32) (σ : MS) : Option ((Int32 × Int32) ⊕ (Int32)) := some (.inl (v3, (v4 + (1 : Int32))))
def L_X10_cut_6 (n : Nat) (v1 : Int32) (v2 : Int32) (σ : MS) (a6 : Int32 × Int32) : Option ((Int32 × Int32) ⊕ (Int32)) := ((f_X4_everybody 3 σ).bind (fun q12 => (if q12 < a6.2 then (some a6.1).map Sum.inr else (if (a6.2 &&& (shlI (1 : Int32) v1)) = 0 then J_X10_cut_47 n v1 v2 a6.1 a6.2 σ else (if (a6.2 &&& (shlI (1 : Int32) v2)) = 0 then ((f_X10_leaving n a6.2 σ).bind (fun q40 => J_X10_cut_47 n v1 v2 (mnI a6.1 q40) a6.2 σ)) else J_X10_cut_47 n v1 v2 a6.1 a6.2 σ)))))
def f_X10_cut (n : Nat) (p1 : Int32) (p2 : Int32) (σ : MS) : Option (Int32) := itr (L_X10_cut_6 n p1 p2 σ) n ((64 : Int32), (0 : Int32))
set_option maxRecDepth 20000 in
set_option maxHeartbeats 2000000 in
theorem c_X10_cut (w : TG) (n : Nat) (p1 : Int32) (p2 : Int32) (σ : MS) : MC m_X10_cut w [.ref (wB w + 55), .int p1, .int p2] σ ((f_X10_cut n p1 p2 σ).map (fun r => (r, σ))) := by
  refine V_methp (by decide +kernel) (Nat.le_of_ble_eq_true rfl) (by intro v hv; simp only [List.mem_cons, List.not_mem_nil, or_false] at hv; rcases hv with rfl | rfl | rfl <;> rfl) (fun g x => ?_)
  show VV m_X10_cut w g 0 0 (QM m_X10_cut w g x) (fun b : Int32 => (b, σ) = x) 0 [some (.ref (wB w + 55)), some (.int p1), some (.int p2), none, none] [] σ (f_X10_cut n p1 p2 σ)
  have hL6 : ∀  (n0 : Nat) (a : Int32 × Int32), VV m_X10_cut w g 0 0 (QM m_X10_cut w g x) (fun b : Int32 => (b, σ) = x) 6 [some (.ref (wB w + 55)), some (.int p1), some (.int p2), some (.int a.1), some (.int a.2)] [] σ (itr (L_X10_cut_6 n p1 p2 σ) n0 a) := by
    refine V_itr (vf := fun a : Int32 × Int32 => [some (.ref (wB w + 55)), some (.int p1), some (.int p2), some (.int a.1), some (.int a.2)]) (sf := fun a : Int32 × Int32 => σ) (fun κ6 b6 r6 a6 => ?_)
    obtain ⟨a6_1, a6_2⟩ := a6
    show VV m_X10_cut w g 0 0 (QM m_X10_cut w g x) κ6 6 [some (.ref (wB w + 55)), some (.int p1), some (.int p2), some (.int a6_1), some (.int a6_2)] [] σ (L_X10_cut_6 n p1 p2 σ (a6_1, a6_2))
    have hJ47 : ∀ (v3 : Int32) (v4 : Int32), VV m_X10_cut w g 0 0 (QM m_X10_cut w g x) κ6 47 [some (.ref (wB w + 55)), some (.int p1), some (.int p2), some (.int v3), some (.int v4)] [] σ (J_X10_cut_47 n p1 p2 v3 v4 σ) := by
      intro v3 v4
      refine V_iincC (pc := 47) (vs' := [some (.ref (wB w + 55)), some (.int p1), some (.int p2), some (.int v3), some (.int (v4 + (1 : Int32)))]) dX10_cut_47 (Nat.le_of_ble_eq_true rfl) rfl ic_1 rfl ?_
      refine V_goto (pc := 50) (tgt := 6) dX10_cut_50 (by decide +kernel) ?_
      exact V_back (b6 (v3, (v4 + (1 : Int32))))
    refine V_iload (pc := 6) dX10_cut_6 rfl ?_
    refine V_aload_n (pc := 8) dX10_cut_8 rfl rfl ?_
    refine V_getr (pc := 9) (t := 3) fk_X10_9 rfl dX10_cut_9 kc_55 rf_10_0_55 ?_
    refine V_callVpi (pc := 12) (As := []) (rest := [.int a6_2]) (c_X4_everybody w 3 kc_3 σ) cw_X10_59 rfl rfl dX10_cut_12 kc_3 ci_4 ⟨Nat.le_of_ble_eq_true rfl, Nat.le_of_ble_eq_true rfl⟩ rfl rfl (Nat.le_of_ble_eq_true rfl) (Nat.le_of_ble_eq_true rfl) (Nat.le_of_ble_eq_true rfl) rfl (fun q12 => ?_)
    refine V_icmp_gt (pc := 15) (tgt := 53) dX10_cut_15 (by decide +kernel) ?_ ?_
    · refine V_exit r6 ?_
      refine V_iload_n (pc := 53) dX10_cut_53 rfl rfl ?_
      exact V_ireti (pc := 54) dX10_cut_54 rfl (hk := fun h => h)
    · refine V_iload (pc := 18) dX10_cut_18 rfl ?_
      refine V_iconst (pc := 20) dX10_cut_20 ic_1 ?_
      refine V_iload_n (pc := 21) dX10_cut_21 rfl rfl ?_
      refine V_ishl (pc := 22) dX10_cut_22 ?_
      refine V_iand (pc := 23) dX10_cut_23 ?_
      refine V_if_eq (pc := 24) (tgt := 47) dX10_cut_24 (by decide +kernel) ?_ ?_
      · exact hJ47 a6_1 a6_2
      · refine V_iload (pc := 27) dX10_cut_27 rfl ?_
        refine V_iconst (pc := 29) dX10_cut_29 ic_1 ?_
        refine V_iload_n (pc := 30) dX10_cut_30 rfl rfl ?_
        refine V_ishl (pc := 31) dX10_cut_31 ?_
        refine V_iand (pc := 32) dX10_cut_32 ?_
        refine V_if_ne (pc := 33) (tgt := 47) dX10_cut_33 (by decide +kernel) ?_ ?_
        · exact hJ47 a6_1 a6_2
        · refine V_iload_n (pc := 36) dX10_cut_36 rfl rfl ?_
          refine V_aload_n (pc := 37) dX10_cut_37 rfl rfl ?_
          refine V_iload (pc := 38) dX10_cut_38 rfl ?_
          refine V_callVpi (pc := 40) (As := [.int a6_2]) (rest := [.int a6_1]) (c_X10_leaving w n a6_2 σ) cw_X10_63 rfl rfl dX10_cut_40 kc_55 ci_10 ⟨Nat.le_of_ble_eq_true rfl, Nat.le_of_ble_eq_true rfl⟩ rfl rfl (Nat.le_of_ble_eq_true rfl) (Nat.le_of_ble_eq_true rfl) (Nat.le_of_ble_eq_true rfl) rfl (fun q40 => ?_)
          refine V_mmin (pc := 43) dX10_cut_43 rfl mw_X10_66 (Nat.le_of_ble_eq_true rfl) (Nat.le_of_ble_eq_true rfl) (Nat.le_of_ble_eq_true rfl) (Nat.le_of_ble_eq_true rfl) ?_
          refine V_istore_n (pc := 46) (vs' := [some (.ref (wB w + 55)), some (.int p1), some (.int p2), some (.int (mnI a6_1 q40)), some (.int a6_2)]) dX10_cut_46 rfl (Nat.le_of_ble_eq_true rfl) (Nat.le_of_ble_eq_true rfl) rfl ?_
          exact hJ47 (mnI a6_1 q40) a6_2
  refine V_bipush (pc := 0) dX10_cut_0 bp_64 ?_
  refine V_istore_n (pc := 2) (vs' := [some (.ref (wB w + 55)), some (.int p1), some (.int p2), some (.int (64 : Int32)), none]) dX10_cut_2 rfl (Nat.le_of_ble_eq_true rfl) (Nat.le_of_ble_eq_true rfl) rfl ?_
  refine V_iconst (pc := 3) dX10_cut_3 ic_0 ?_
  refine V_istore (pc := 4) (vs' := [some (.ref (wB w + 55)), some (.int p1), some (.int p2), some (.int (64 : Int32)), some (.int (0 : Int32))]) dX10_cut_4 (Nat.le_of_ble_eq_true rfl) (Nat.le_of_ble_eq_true rfl) rfl ?_
  exact hL6 n ((64 : Int32), (0 : Int32))
def J_X10_knowsAll_54 (n : Nat) (v1 : Int32) (v2 : Int32) (v3 : Int32) (σ : MS) : Option ((Int32) ⊕ ((Int32) ⊕ (Int32))) := some (.inl ((v3 + (1 : Int32))))
def L_X10_knowsAll_17 (n : Nat) (v1 : Int32) (v2 : Int32) (σ : MS) (a17 : Int32) : Option ((Int32) ⊕ ((Int32) ⊕ (Int32))) := (if (σ 3 0) ≤ a17 then (some (.inl ((v2 + (1 : Int32))))).map Sum.inr else (if (v1 &&& ((shlI (1 : Int32) v2) ||| (shlI (1 : Int32) a17))) = 0 then ((f_X4_isSecret 3 v2 a17 σ).bind (fun q46 => (if q46 = 0 then J_X10_knowsAll_54 n v1 v2 a17 σ else ((some (0 : Int32)).map Sum.inr).map Sum.inr))) else J_X10_knowsAll_54 n v1 v2 a17 σ))
def L_X10_knowsAll_2 (n : Nat) (v1 : Int32) (σ : MS) (a2 : Int32) : Option ((Int32) ⊕ (Int32)) := (if (σ 3 0) ≤ a2 then (some (1 : Int32)).map Sum.inr else itr (L_X10_knowsAll_17 n v1 a2 σ) n ((a2 + (1 : Int32))))
def f_X10_knowsAll (n : Nat) (p1 : Int32) (σ : MS) : Option (Int32) := itr (L_X10_knowsAll_2 n p1 σ) n ((0 : Int32))
set_option maxRecDepth 20000 in
set_option maxHeartbeats 2000000 in
theorem c_X10_knowsAll (w : TG) (n : Nat) (p1 : Int32) (σ : MS) : MC m_X10_knowsAll w [.ref (wB w + 55), .int p1] σ ((f_X10_knowsAll n p1 σ).map (fun r => (r, σ))) := by
  refine V_methp (by decide +kernel) (Nat.le_of_ble_eq_true rfl) (by intro v hv; simp only [List.mem_cons, List.not_mem_nil, or_false] at hv; rcases hv with rfl | rfl <;> rfl) (fun g x => ?_)
  show VV m_X10_knowsAll w g 0 0 (QM m_X10_knowsAll w g x) (fun b : Int32 => (b, σ) = x) 0 [some (.ref (wB w + 55)), some (.int p1), none, none] [] σ (f_X10_knowsAll n p1 σ)
  have hL2 : ∀  (n0 : Nat) (a : Int32), VV m_X10_knowsAll w g 0 0 (QM m_X10_knowsAll w g x) (fun b : Int32 => (b, σ) = x) 2 [some (.ref (wB w + 55)), some (.int p1), some (.int a), none] [] σ (itr (L_X10_knowsAll_2 n p1 σ) n0 a) := by
    refine V_itr (vf := fun a : Int32 => [some (.ref (wB w + 55)), some (.int p1), some (.int a), none]) (sf := fun a : Int32 => σ) (fun κ2 b2 r2 a2 => ?_)
    show VV m_X10_knowsAll w g 0 0 (QM m_X10_knowsAll w g x) κ2 2 [some (.ref (wB w + 55)), some (.int p1), some (.int a2), none] [] σ (L_X10_knowsAll_2 n p1 σ a2)
    have hL17 : ∀ (v2 : Int32) (n0 : Nat) (a : Int32), VV m_X10_knowsAll w g 0 0 (QM m_X10_knowsAll w g x) κ2 17 [some (.ref (wB w + 55)), some (.int p1), some (.int v2), some (.int a)] [] σ (itr (L_X10_knowsAll_17 n p1 v2 σ) n0 a) := by
      intro v2
      refine V_itr (vf := fun a : Int32 => [some (.ref (wB w + 55)), some (.int p1), some (.int v2), some (.int a)]) (sf := fun a : Int32 => σ) (fun κ17 b17 r17 a17 => ?_)
      show VV m_X10_knowsAll w g 0 0 (QM m_X10_knowsAll w g x) κ17 17 [some (.ref (wB w + 55)), some (.int p1), some (.int v2), some (.int a17)] [] σ (L_X10_knowsAll_17 n p1 v2 σ a17)
      have hJ54 : ∀ (v3 : Int32), VV m_X10_knowsAll w g 0 0 (QM m_X10_knowsAll w g x) κ17 54 [some (.ref (wB w + 55)), some (.int p1), some (.int v2), some (.int v3)] [] σ (J_X10_knowsAll_54 n p1 v2 v3 σ) := by
        intro v3
        refine V_iincC (pc := 54) (vs' := [some (.ref (wB w + 55)), some (.int p1), some (.int v2), some (.int (v3 + (1 : Int32)))]) dX10_knowsAll_54 (Nat.le_of_ble_eq_true rfl) rfl ic_1 rfl ?_
        refine V_goto (pc := 57) (tgt := 17) dX10_knowsAll_57 (by decide +kernel) ?_
        exact V_back (b17 ((v3 + (1 : Int32))))
      refine V_iload_n (pc := 17) dX10_knowsAll_17 rfl rfl ?_
      refine V_aload_n (pc := 18) dX10_knowsAll_18 rfl rfl ?_
      refine V_getr (pc := 19) (t := 3) fk_X10_9 rfl dX10_knowsAll_19 kc_55 rf_10_0_55 ?_
      refine V_geti (pc := 22) fk_X10_15 rfl dX10_knowsAll_22 kc_3 rf_4_0_3 ?_
      refine V_icmp_ge (pc := 25) (tgt := 60) dX10_knowsAll_25 (by decide +kernel) ?_ ?_
      · refine V_exit r17 ?_
        refine V_iincC (pc := 60) (vs' := [some (.ref (wB w + 55)), some (.int p1), some (.int (v2 + (1 : Int32))), some (.int a17)]) dX10_knowsAll_60 (Nat.le_of_ble_eq_true rfl) rfl ic_1 rfl ?_
        refine V_goto (pc := 63) (tgt := 2) dX10_knowsAll_63 (by decide +kernel) ?_
        refine V_sub (vs' := [some (.ref (wB w + 55)), some (.int p1), some (.int (v2 + (1 : Int32))), none]) (show vless _ _ from ⟨rfl, ⟨rfl, ⟨rfl, trivial⟩⟩⟩) rfl ?_
        exact V_back (b2 ((v2 + (1 : Int32))))
      · refine V_iload_n (pc := 28) dX10_knowsAll_28 rfl rfl ?_
        refine V_iconst (pc := 29) dX10_knowsAll_29 ic_1 ?_
        refine V_iload_n (pc := 30) dX10_knowsAll_30 rfl rfl ?_
        refine V_ishl (pc := 31) dX10_knowsAll_31 ?_
        refine V_iconst (pc := 32) dX10_knowsAll_32 ic_1 ?_
        refine V_iload_n (pc := 33) dX10_knowsAll_33 rfl rfl ?_
        refine V_ishl (pc := 34) dX10_knowsAll_34 ?_
        refine V_ior (pc := 35) dX10_knowsAll_35 ?_
        refine V_iand (pc := 36) dX10_knowsAll_36 ?_
        refine V_if_ne (pc := 37) (tgt := 54) dX10_knowsAll_37 (by decide +kernel) ?_ ?_
        · exact hJ54 a17
        · refine V_aload_n (pc := 40) dX10_knowsAll_40 rfl rfl ?_
          refine V_getr (pc := 41) (t := 3) fk_X10_9 rfl dX10_knowsAll_41 kc_55 rf_10_0_55 ?_
          refine V_iload_n (pc := 44) dX10_knowsAll_44 rfl rfl ?_
          refine V_iload_n (pc := 45) dX10_knowsAll_45 rfl rfl ?_
          refine V_callVpi (pc := 46) (As := [.int v2, .int a17]) (rest := []) (c_X4_isSecret w 3 v2 a17 kc_3 σ) cw_X10_39 rfl rfl dX10_knowsAll_46 kc_3 ci_4 ⟨Nat.le_of_ble_eq_true rfl, Nat.le_of_ble_eq_true rfl⟩ rfl rfl (Nat.le_of_ble_eq_true rfl) (Nat.le_of_ble_eq_true rfl) (Nat.le_of_ble_eq_true rfl) rfl (fun q46 => ?_)
          refine V_if_eq (pc := 49) (tgt := 54) dX10_knowsAll_49 (by decide +kernel) ?_ ?_
          · exact hJ54 a17
          · refine V_exit r17 ?_
            refine V_exit r2 ?_
            refine V_iconst (pc := 52) dX10_knowsAll_52 ic_0 ?_
            exact V_iretz (pc := 53) dX10_knowsAll_53 rfl rfl (hk := fun h => h)
    refine V_iload_n (pc := 2) dX10_knowsAll_2 rfl rfl ?_
    refine V_aload_n (pc := 3) dX10_knowsAll_3 rfl rfl ?_
    refine V_getr (pc := 4) (t := 3) fk_X10_9 rfl dX10_knowsAll_4 kc_55 rf_10_0_55 ?_
    refine V_geti (pc := 7) fk_X10_15 rfl dX10_knowsAll_7 kc_3 rf_4_0_3 ?_
    refine V_icmp_ge (pc := 10) (tgt := 66) dX10_knowsAll_10 (by decide +kernel) ?_ ?_
    · refine V_exit r2 ?_
      refine V_iconst (pc := 66) dX10_knowsAll_66 ic_1 ?_
      exact V_iretz (pc := 67) dX10_knowsAll_67 rfl rfl (hk := fun h => h)
    · refine V_iload_n (pc := 13) dX10_knowsAll_13 rfl rfl ?_
      refine V_iconst (pc := 14) dX10_knowsAll_14 ic_1 ?_
      refine V_iadd (pc := 15) dX10_knowsAll_15 ?_
      refine V_istore_n (pc := 16) (vs' := [some (.ref (wB w + 55)), some (.int p1), some (.int a2), some (.int (a2 + (1 : Int32)))]) dX10_knowsAll_16 rfl (Nat.le_of_ble_eq_true rfl) (Nat.le_of_ble_eq_true rfl) rfl ?_
      exact hL17 a2 n ((a2 + (1 : Int32)))
  refine V_iconst (pc := 0) dX10_knowsAll_0 ic_0 ?_
  refine V_istore_n (pc := 1) (vs' := [some (.ref (wB w + 55)), some (.int p1), some (.int (0 : Int32)), none]) dX10_knowsAll_1 rfl (Nat.le_of_ble_eq_true rfl) (Nat.le_of_ble_eq_true rfl) rfl ?_
  exact hL2 n ((0 : Int32))
def J_X10_cover_42 (n : Nat) (v1 : Int32) (v2 : Int32) (σ : MS) : Option ((Int32 × Int32) ⊕ (Int32)) := some (.inl (v1, (v2 + (1 : Int32))))
def L_X10_cover_10 (n : Nat)  (σ : MS) (a10 : Int32 × Int32) : Option ((Int32 × Int32) ⊕ (Int32)) := ((f_X4_everybody 3 σ).bind (fun q15 => (if q15 < a10.2 then (some a10.1).map Sum.inr else ((f_J6_bitCount_0f7a4 a10.2 σ).bind (fun q22 => ((f_J6_bitCount_0f7a4 a10.1 σ).bind (fun q26 => (if q26 ≤ q22 then J_X10_cover_42 n a10.1 a10.2 σ else ((f_X10_knowsAll n a10.2 σ).bind (fun q34 => (if q34 = 0 then J_X10_cover_42 n a10.1 a10.2 σ else J_X10_cover_42 n a10.2 a10.2 σ)))))))))))
def f_X10_cover (n : Nat)  (σ : MS) : Option (Int32) := ((f_X4_everybody 3 σ).bind (fun q4 => itr (L_X10_cover_10 n  σ) n (q4, (0 : Int32))))
set_option maxRecDepth 20000 in
set_option maxHeartbeats 2000000 in
theorem c_X10_cover (w : TG) (n : Nat)  (σ : MS) : MC m_X10_cover w [.ref (wB w + 55)] σ ((f_X10_cover n  σ).map (fun r => (r, σ))) := by
  refine V_methp (by decide +kernel) (Nat.le_of_ble_eq_true rfl) (by intro v hv; simp only [List.mem_cons, List.not_mem_nil, or_false] at hv; subst hv; rfl) (fun g x => ?_)
  show VV m_X10_cover w g 0 0 (QM m_X10_cover w g x) (fun b : Int32 => (b, σ) = x) 0 [some (.ref (wB w + 55)), none, none] [] σ (f_X10_cover n  σ)
  have hL10 : ∀  (n0 : Nat) (a : Int32 × Int32), VV m_X10_cover w g 0 0 (QM m_X10_cover w g x) (fun b : Int32 => (b, σ) = x) 10 [some (.ref (wB w + 55)), some (.int a.1), some (.int a.2)] [] σ (itr (L_X10_cover_10 n  σ) n0 a) := by
    refine V_itr (vf := fun a : Int32 × Int32 => [some (.ref (wB w + 55)), some (.int a.1), some (.int a.2)]) (sf := fun a : Int32 × Int32 => σ) (fun κ10 b10 r10 a10 => ?_)
    obtain ⟨a10_1, a10_2⟩ := a10
    show VV m_X10_cover w g 0 0 (QM m_X10_cover w g x) κ10 10 [some (.ref (wB w + 55)), some (.int a10_1), some (.int a10_2)] [] σ (L_X10_cover_10 n  σ (a10_1, a10_2))
    have hJ42 : ∀ (v1 : Int32) (v2 : Int32), VV m_X10_cover w g 0 0 (QM m_X10_cover w g x) κ10 42 [some (.ref (wB w + 55)), some (.int v1), some (.int v2)] [] σ (J_X10_cover_42 n v1 v2 σ) := by
      intro v1 v2
      refine V_iincC (pc := 42) (vs' := [some (.ref (wB w + 55)), some (.int v1), some (.int (v2 + (1 : Int32)))]) dX10_cover_42 (Nat.le_of_ble_eq_true rfl) rfl ic_1 rfl ?_
      refine V_goto (pc := 45) (tgt := 10) dX10_cover_45 (by decide +kernel) ?_
      exact V_back (b10 (v1, (v2 + (1 : Int32))))
    refine V_iload_n (pc := 10) dX10_cover_10 rfl rfl ?_
    refine V_aload_n (pc := 11) dX10_cover_11 rfl rfl ?_
    refine V_getr (pc := 12) (t := 3) fk_X10_9 rfl dX10_cover_12 kc_55 rf_10_0_55 ?_
    refine V_callVpi (pc := 15) (As := []) (rest := [.int a10_2]) (c_X4_everybody w 3 kc_3 σ) cw_X10_59 rfl rfl dX10_cover_15 kc_3 ci_4 ⟨Nat.le_of_ble_eq_true rfl, Nat.le_of_ble_eq_true rfl⟩ rfl rfl (Nat.le_of_ble_eq_true rfl) (Nat.le_of_ble_eq_true rfl) (Nat.le_of_ble_eq_true rfl) rfl (fun q15 => ?_)
    refine V_icmp_gt (pc := 18) (tgt := 48) dX10_cover_18 (by decide +kernel) ?_ ?_
    · refine V_exit r10 ?_
      refine V_iload_n (pc := 48) dX10_cover_48 rfl rfl ?_
      exact V_ireti (pc := 49) dX10_cover_49 rfl (hk := fun h => h)
    · refine V_iload_n (pc := 21) dX10_cover_21 rfl rfl ?_
      refine V_callSpi (pc := 22) (As := [.int a10_2]) (rest := []) (c_J6_bitCount_0f7a4 w a10_2 σ) cs_X10_36 rfl rfl dX10_cover_22 ⟨Nat.le_of_ble_eq_true rfl, Nat.le_of_ble_eq_true rfl⟩ rfl rfl (Nat.le_of_ble_eq_true rfl) (Nat.le_of_ble_eq_true rfl) (Nat.le_of_ble_eq_true rfl) rfl (fun q22 => ?_)
      refine V_iload_n (pc := 25) dX10_cover_25 rfl rfl ?_
      refine V_callSpi (pc := 26) (As := [.int a10_1]) (rest := [.int q22]) (c_J6_bitCount_0f7a4 w a10_1 σ) cs_X10_36 rfl rfl dX10_cover_26 ⟨Nat.le_of_ble_eq_true rfl, Nat.le_of_ble_eq_true rfl⟩ rfl rfl (Nat.le_of_ble_eq_true rfl) (Nat.le_of_ble_eq_true rfl) (Nat.le_of_ble_eq_true rfl) rfl (fun q26 => ?_)
      refine V_icmp_ge (pc := 29) (tgt := 42) dX10_cover_29 (by decide +kernel) ?_ ?_
      · exact hJ42 a10_1 a10_2
      · refine V_aload_n (pc := 32) dX10_cover_32 rfl rfl ?_
        refine V_iload_n (pc := 33) dX10_cover_33 rfl rfl ?_
        refine V_callVpi (pc := 34) (As := [.int a10_2]) (rest := []) (c_X10_knowsAll w n a10_2 σ) cw_X10_69 rfl rfl dX10_cover_34 kc_55 ci_10 ⟨Nat.le_of_ble_eq_true rfl, Nat.le_of_ble_eq_true rfl⟩ rfl rfl (Nat.le_of_ble_eq_true rfl) (Nat.le_of_ble_eq_true rfl) (Nat.le_of_ble_eq_true rfl) rfl (fun q34 => ?_)
        refine V_if_eq (pc := 37) (tgt := 42) dX10_cover_37 (by decide +kernel) ?_ ?_
        · exact hJ42 a10_1 a10_2
        · refine V_iload_n (pc := 40) dX10_cover_40 rfl rfl ?_
          refine V_istore_n (pc := 41) (vs' := [some (.ref (wB w + 55)), some (.int a10_2), some (.int a10_2)]) dX10_cover_41 rfl (Nat.le_of_ble_eq_true rfl) (Nat.le_of_ble_eq_true rfl) rfl ?_
          exact hJ42 a10_2 a10_2
  refine V_aload_n (pc := 0) dX10_cover_0 rfl rfl ?_
  refine V_getr (pc := 1) (t := 3) fk_X10_9 rfl dX10_cover_1 kc_55 rf_10_0_55 ?_
  refine V_callVpi (pc := 4) (As := []) (rest := []) (c_X4_everybody w 3 kc_3 σ) cw_X10_59 rfl rfl dX10_cover_4 kc_3 ci_4 ⟨Nat.le_of_ble_eq_true rfl, Nat.le_of_ble_eq_true rfl⟩ rfl rfl (Nat.le_of_ble_eq_true rfl) (Nat.le_of_ble_eq_true rfl) (Nat.le_of_ble_eq_true rfl) rfl (fun q4 => ?_)
  refine V_istore_n (pc := 7) (vs' := [some (.ref (wB w + 55)), some (.int q4), none]) dX10_cover_7 rfl (Nat.le_of_ble_eq_true rfl) (Nat.le_of_ble_eq_true rfl) rfl ?_
  refine V_iconst (pc := 8) dX10_cover_8 ic_0 ?_
  refine V_istore_n (pc := 9) (vs' := [some (.ref (wB w + 55)), some (.int q4), some (.int (0 : Int32))]) dX10_cover_9 rfl (Nat.le_of_ble_eq_true rfl) (Nat.le_of_ble_eq_true rfl) rfl ?_
  exact hL10 n (q4, (0 : Int32))
def L_X10_steps_7 (n : Nat) (v2 : Int32) (σ : MS) (a7 : Int32 × Int32) : Option ((Int32 × Int32) ⊕ (Int32)) := (if (σ 3 0) ≤ a7.2 then (some (-1 : Int32)).map Sum.inr else (if (a7.1 &&& (shlI (1 : Int32) v2)) = 0 then ((f_X10_widened n a7.1 σ).bind (fun q32 => some (.inl (q32, (a7.2 + (1 : Int32)))))) else (some a7.2).map Sum.inr))
def f_X10_steps (n : Nat) (p1 : Int32) (p2 : Int32) (σ : MS) : Option (Int32) := itr (L_X10_steps_7 n p2 σ) n ((shlI (1 : Int32) p1), (0 : Int32))
set_option maxRecDepth 20000 in
set_option maxHeartbeats 2000000 in
theorem c_X10_steps (w : TG) (n : Nat) (p1 : Int32) (p2 : Int32) (σ : MS) : MC m_X10_steps w [.ref (wB w + 55), .int p1, .int p2] σ ((f_X10_steps n p1 p2 σ).map (fun r => (r, σ))) := by
  refine V_methp (by decide +kernel) (Nat.le_of_ble_eq_true rfl) (by intro v hv; simp only [List.mem_cons, List.not_mem_nil, or_false] at hv; rcases hv with rfl | rfl | rfl <;> rfl) (fun g x => ?_)
  show VV m_X10_steps w g 0 0 (QM m_X10_steps w g x) (fun b : Int32 => (b, σ) = x) 0 [some (.ref (wB w + 55)), some (.int p1), some (.int p2), none, none] [] σ (f_X10_steps n p1 p2 σ)
  have hL7 : ∀  (n0 : Nat) (a : Int32 × Int32), VV m_X10_steps w g 0 0 (QM m_X10_steps w g x) (fun b : Int32 => (b, σ) = x) 7 [some (.ref (wB w + 55)), none, some (.int p2), some (.int a.1), some (.int a.2)] [] σ (itr (L_X10_steps_7 n p2 σ) n0 a) := by
    refine V_itr (vf := fun a : Int32 × Int32 => [some (.ref (wB w + 55)), none, some (.int p2), some (.int a.1), some (.int a.2)]) (sf := fun a : Int32 × Int32 => σ) (fun κ7 b7 r7 a7 => ?_)
    obtain ⟨a7_1, a7_2⟩ := a7
    show VV m_X10_steps w g 0 0 (QM m_X10_steps w g x) κ7 7 [some (.ref (wB w + 55)), none, some (.int p2), some (.int a7_1), some (.int a7_2)] [] σ (L_X10_steps_7 n p2 σ (a7_1, a7_2))
    refine V_iload (pc := 7) dX10_steps_7 rfl ?_
    refine V_aload_n (pc := 9) dX10_steps_9 rfl rfl ?_
    refine V_getr (pc := 10) (t := 3) fk_X10_9 rfl dX10_steps_10 kc_55 rf_10_0_55 ?_
    refine V_geti (pc := 13) fk_X10_15 rfl dX10_steps_13 kc_3 rf_4_0_3 ?_
    refine V_icmp_ge (pc := 16) (tgt := 42) dX10_steps_16 (by decide +kernel) ?_ ?_
    · refine V_exit r7 ?_
      refine V_iconst (pc := 42) dX10_steps_42 ic_m1 ?_
      exact V_ireti (pc := 43) dX10_steps_43 rfl (hk := fun h => h)
    · refine V_iload_n (pc := 19) dX10_steps_19 rfl rfl ?_
      refine V_iconst (pc := 20) dX10_steps_20 ic_1 ?_
      refine V_iload_n (pc := 21) dX10_steps_21 rfl rfl ?_
      refine V_ishl (pc := 22) dX10_steps_22 ?_
      refine V_iand (pc := 23) dX10_steps_23 ?_
      refine V_if_eq (pc := 24) (tgt := 30) dX10_steps_24 (by decide +kernel) ?_ ?_
      · refine V_aload_n (pc := 30) dX10_steps_30 rfl rfl ?_
        refine V_iload_n (pc := 31) dX10_steps_31 rfl rfl ?_
        refine V_callVpi (pc := 32) (As := [.int a7_1]) (rest := []) (c_X10_widened w n a7_1 σ) cw_X10_25 rfl rfl dX10_steps_32 kc_55 ci_10 ⟨Nat.le_of_ble_eq_true rfl, Nat.le_of_ble_eq_true rfl⟩ rfl rfl (Nat.le_of_ble_eq_true rfl) (Nat.le_of_ble_eq_true rfl) (Nat.le_of_ble_eq_true rfl) rfl (fun q32 => ?_)
        refine V_istore_n (pc := 35) (vs' := [some (.ref (wB w + 55)), none, some (.int p2), some (.int q32), some (.int a7_2)]) dX10_steps_35 rfl (Nat.le_of_ble_eq_true rfl) (Nat.le_of_ble_eq_true rfl) rfl ?_
        refine V_iincC (pc := 36) (vs' := [some (.ref (wB w + 55)), none, some (.int p2), some (.int q32), some (.int (a7_2 + (1 : Int32)))]) dX10_steps_36 (Nat.le_of_ble_eq_true rfl) rfl ic_1 rfl ?_
        refine V_goto (pc := 39) (tgt := 7) dX10_steps_39 (by decide +kernel) ?_
        exact V_back (b7 (q32, (a7_2 + (1 : Int32))))
      · refine V_exit r7 ?_
        refine V_iload (pc := 27) dX10_steps_27 rfl ?_
        exact V_ireti (pc := 29) dX10_steps_29 rfl (hk := fun h => h)
  refine V_iconst (pc := 0) dX10_steps_0 ic_1 ?_
  refine V_iload_n (pc := 1) dX10_steps_1 rfl rfl ?_
  refine V_ishl (pc := 2) dX10_steps_2 ?_
  refine V_istore_n (pc := 3) (vs' := [some (.ref (wB w + 55)), some (.int p1), some (.int p2), some (.int (shlI (1 : Int32) p1)), none]) dX10_steps_3 rfl (Nat.le_of_ble_eq_true rfl) (Nat.le_of_ble_eq_true rfl) rfl ?_
  refine V_iconst (pc := 4) dX10_steps_4 ic_0 ?_
  refine V_istore (pc := 5) (vs' := [some (.ref (wB w + 55)), some (.int p1), some (.int p2), some (.int (shlI (1 : Int32) p1)), some (.int (0 : Int32))]) dX10_steps_5 (Nat.le_of_ble_eq_true rfl) (Nat.le_of_ble_eq_true rfl) rfl ?_
  refine V_sub (vs' := [some (.ref (wB w + 55)), none, some (.int p2), some (.int (shlI (1 : Int32) p1)), some (.int (0 : Int32))]) (show vless _ _ from ⟨rfl, ⟨rfl, ⟨rfl, ⟨rfl, trivial⟩⟩⟩⟩) rfl ?_
  exact hL7 n ((shlI (1 : Int32) p1), (0 : Int32))
def J_X10_centre_41 (n : Nat) (v1 : Int32) (v2 : Int32) (v3 : Int32) (σ : MS) : Option ((Int32 × Int32 × Int32) ⊕ (Int32)) := some (.inl (v1, v2, (v3 + (1 : Int32))))
def L_X10_centre_6 (n : Nat)  (σ : MS) (a6 : Int32 × Int32 × Int32) : Option ((Int32 × Int32 × Int32) ⊕ (Int32)) := (if (σ 3 0) ≤ a6.2.2 then (some a6.2.1).map Sum.inr else ((f_X4_boundTo n 3 a6.2.2 σ).bind (fun q22 => ((f_J6_bitCount_0f7a4 q22 σ).bind (fun q25 => (if q25 ≤ a6.1 then J_X10_centre_41 n a6.1 a6.2.1 a6.2.2 σ else J_X10_centre_41 n q25 a6.2.2 a6.2.2 σ))))))
def f_X10_centre (n : Nat)  (σ : MS) : Option (Int32) := itr (L_X10_centre_6 n  σ) n ((0 : Int32), (-1 : Int32), (0 : Int32))
set_option maxRecDepth 20000 in
set_option maxHeartbeats 2000000 in
theorem c_X10_centre (w : TG) (n : Nat)  (σ : MS) : MC m_X10_centre w [.ref (wB w + 55)] σ ((f_X10_centre n  σ).map (fun r => (r, σ))) := by
  refine V_methp (by decide +kernel) (Nat.le_of_ble_eq_true rfl) (by intro v hv; simp only [List.mem_cons, List.not_mem_nil, or_false] at hv; subst hv; rfl) (fun g x => ?_)
  show VV m_X10_centre w g 0 0 (QM m_X10_centre w g x) (fun b : Int32 => (b, σ) = x) 0 [some (.ref (wB w + 55)), none, none, none, none] [] σ (f_X10_centre n  σ)
  have hL6 : ∀  (n0 : Nat) (a : Int32 × Int32 × Int32), VV m_X10_centre w g 0 0 (QM m_X10_centre w g x) (fun b : Int32 => (b, σ) = x) 6 [some (.ref (wB w + 55)), some (.int a.1), some (.int a.2.1), some (.int a.2.2), none] [] σ (itr (L_X10_centre_6 n  σ) n0 a) := by
    refine V_itr (vf := fun a : Int32 × Int32 × Int32 => [some (.ref (wB w + 55)), some (.int a.1), some (.int a.2.1), some (.int a.2.2), none]) (sf := fun a : Int32 × Int32 × Int32 => σ) (fun κ6 b6 r6 a6 => ?_)
    obtain ⟨a6_1, a6_2, a6_3⟩ := a6
    show VV m_X10_centre w g 0 0 (QM m_X10_centre w g x) κ6 6 [some (.ref (wB w + 55)), some (.int a6_1), some (.int a6_2), some (.int a6_3), none] [] σ (L_X10_centre_6 n  σ (a6_1, a6_2, a6_3))
    have hJ41 : ∀ (v1 : Int32) (v2 : Int32) (v3 : Int32), VV m_X10_centre w g 0 0 (QM m_X10_centre w g x) κ6 41 [some (.ref (wB w + 55)), some (.int v1), some (.int v2), some (.int v3), none] [] σ (J_X10_centre_41 n v1 v2 v3 σ) := by
      intro v1 v2 v3
      refine V_iincC (pc := 41) (vs' := [some (.ref (wB w + 55)), some (.int v1), some (.int v2), some (.int (v3 + (1 : Int32))), none]) dX10_centre_41 (Nat.le_of_ble_eq_true rfl) rfl ic_1 rfl ?_
      refine V_goto (pc := 44) (tgt := 6) dX10_centre_44 (by decide +kernel) ?_
      exact V_back (b6 (v1, v2, (v3 + (1 : Int32))))
    refine V_iload_n (pc := 6) dX10_centre_6 rfl rfl ?_
    refine V_aload_n (pc := 7) dX10_centre_7 rfl rfl ?_
    refine V_getr (pc := 8) (t := 3) fk_X10_9 rfl dX10_centre_8 kc_55 rf_10_0_55 ?_
    refine V_geti (pc := 11) fk_X10_15 rfl dX10_centre_11 kc_3 rf_4_0_3 ?_
    refine V_icmp_ge (pc := 14) (tgt := 47) dX10_centre_14 (by decide +kernel) ?_ ?_
    · refine V_exit r6 ?_
      refine V_iload_n (pc := 47) dX10_centre_47 rfl rfl ?_
      exact V_ireti (pc := 48) dX10_centre_48 rfl (hk := fun h => h)
    · refine V_aload_n (pc := 17) dX10_centre_17 rfl rfl ?_
      refine V_getr (pc := 18) (t := 3) fk_X10_9 rfl dX10_centre_18 kc_55 rf_10_0_55 ?_
      refine V_iload_n (pc := 21) dX10_centre_21 rfl rfl ?_
      refine V_callVpi (pc := 22) (As := [.int a6_3]) (rest := []) (c_X4_boundTo w n 3 a6_3 kc_3 σ) cw_X10_21 rfl rfl dX10_centre_22 kc_3 ci_4 ⟨Nat.le_of_ble_eq_true rfl, Nat.le_of_ble_eq_true rfl⟩ rfl rfl (Nat.le_of_ble_eq_true rfl) (Nat.le_of_ble_eq_true rfl) (Nat.le_of_ble_eq_true rfl) rfl (fun q22 => ?_)
      refine V_callSpi (pc := 25) (As := [.int q22]) (rest := []) (c_J6_bitCount_0f7a4 w q22 σ) cs_X10_36 rfl rfl dX10_centre_25 ⟨Nat.le_of_ble_eq_true rfl, Nat.le_of_ble_eq_true rfl⟩ rfl rfl (Nat.le_of_ble_eq_true rfl) (Nat.le_of_ble_eq_true rfl) (Nat.le_of_ble_eq_true rfl) rfl (fun q25 => ?_)
      refine V_istore (pc := 28) (vs' := [some (.ref (wB w + 55)), some (.int a6_1), some (.int a6_2), some (.int a6_3), some (.int q25)]) dX10_centre_28 (Nat.le_of_ble_eq_true rfl) (Nat.le_of_ble_eq_true rfl) rfl ?_
      refine V_iload (pc := 30) dX10_centre_30 rfl ?_
      refine V_iload_n (pc := 32) dX10_centre_32 rfl rfl ?_
      refine V_icmp_le (pc := 33) (tgt := 41) dX10_centre_33 (by decide +kernel) ?_ ?_
      · refine V_sub (vs' := [some (.ref (wB w + 55)), some (.int a6_1), some (.int a6_2), some (.int a6_3), none]) (show vless _ _ from ⟨rfl, ⟨rfl, ⟨rfl, ⟨rfl, trivial⟩⟩⟩⟩) rfl ?_
        exact hJ41 a6_1 a6_2 a6_3
      · refine V_iload (pc := 36) dX10_centre_36 rfl ?_
        refine V_istore_n (pc := 38) (vs' := [some (.ref (wB w + 55)), some (.int q25), some (.int a6_2), some (.int a6_3), some (.int q25)]) dX10_centre_38 rfl (Nat.le_of_ble_eq_true rfl) (Nat.le_of_ble_eq_true rfl) rfl ?_
        refine V_iload_n (pc := 39) dX10_centre_39 rfl rfl ?_
        refine V_istore_n (pc := 40) (vs' := [some (.ref (wB w + 55)), some (.int q25), some (.int a6_3), some (.int a6_3), some (.int q25)]) dX10_centre_40 rfl (Nat.le_of_ble_eq_true rfl) (Nat.le_of_ble_eq_true rfl) rfl ?_
        refine V_sub (vs' := [some (.ref (wB w + 55)), some (.int q25), some (.int a6_3), some (.int a6_3), none]) (show vless _ _ from ⟨rfl, ⟨rfl, ⟨rfl, ⟨rfl, trivial⟩⟩⟩⟩) rfl ?_
        exact hJ41 q25 a6_3 a6_3
  refine V_iconst (pc := 0) dX10_centre_0 ic_0 ?_
  refine V_istore_n (pc := 1) (vs' := [some (.ref (wB w + 55)), some (.int (0 : Int32)), none, none, none]) dX10_centre_1 rfl (Nat.le_of_ble_eq_true rfl) (Nat.le_of_ble_eq_true rfl) rfl ?_
  refine V_iconst (pc := 2) dX10_centre_2 ic_m1 ?_
  refine V_istore_n (pc := 3) (vs' := [some (.ref (wB w + 55)), some (.int (0 : Int32)), some (.int (-1 : Int32)), none, none]) dX10_centre_3 rfl (Nat.le_of_ble_eq_true rfl) (Nat.le_of_ble_eq_true rfl) rfl ?_
  refine V_iconst (pc := 4) dX10_centre_4 ic_0 ?_
  refine V_istore_n (pc := 5) (vs' := [some (.ref (wB w + 55)), some (.int (0 : Int32)), some (.int (-1 : Int32)), some (.int (0 : Int32)), none]) dX10_centre_5 rfl (Nat.le_of_ble_eq_true rfl) (Nat.le_of_ble_eq_true rfl) rfl ?_
  exact hL6 n ((0 : Int32), (-1 : Int32), (0 : Int32))
def L_X3_stepsRound_6 (n : Nat) (v2 : Int32) (v3 : Int32) (σ : MS) (a6 : Int32 × Int32) : Option ((Int32 × Int32) ⊕ (Int32)) := (if (6 : Int32) ≤ a6.2 then (some (-1 : Int32)).map Sum.inr else (if a6.1 = v2 then (some a6.2).map Sum.inr else (if ((σ 3 2) &&& (shlI (1 : Int32) (remI (a6.1 + v3) (6 : Int32)))) = 0 then some (.inl ((remI (a6.1 + v3) (6 : Int32)), (a6.2 + (1 : Int32)))) else (some (-1 : Int32)).map Sum.inr)))
def f_X3_stepsRound (n : Nat) (p1 : Int32) (p2 : Int32) (p3 : Int32) (σ : MS) : Option (Int32) := itr (L_X3_stepsRound_6 n p2 p3 σ) n (p1, (0 : Int32))
set_option maxRecDepth 20000 in
set_option maxHeartbeats 2000000 in
theorem c_X3_stepsRound (w : TG) (n : Nat) (p1 : Int32) (p2 : Int32) (p3 : Int32) (σ : MS) : MC m_X3_stepsRound w [.ref (wB w + 59), .int p1, .int p2, .int p3] σ ((f_X3_stepsRound n p1 p2 p3 σ).map (fun r => (r, σ))) := by
  refine V_methp (by decide +kernel) (Nat.le_of_ble_eq_true rfl) (by intro v hv; simp only [List.mem_cons, List.not_mem_nil, or_false] at hv; rcases hv with rfl | rfl | rfl | rfl <;> rfl) (fun g x => ?_)
  show VV m_X3_stepsRound w g 0 0 (QM m_X3_stepsRound w g x) (fun b : Int32 => (b, σ) = x) 0 [some (.ref (wB w + 59)), some (.int p1), some (.int p2), some (.int p3), none, none] [] σ (f_X3_stepsRound n p1 p2 p3 σ)
  have hL6 : ∀  (n0 : Nat) (a : Int32 × Int32), VV m_X3_stepsRound w g 0 0 (QM m_X3_stepsRound w g x) (fun b : Int32 => (b, σ) = x) 6 [some (.ref (wB w + 59)), none, some (.int p2), some (.int p3), some (.int a.1), some (.int a.2)] [] σ (itr (L_X3_stepsRound_6 n p2 p3 σ) n0 a) := by
    refine V_itr (vf := fun a : Int32 × Int32 => [some (.ref (wB w + 59)), none, some (.int p2), some (.int p3), some (.int a.1), some (.int a.2)]) (sf := fun a : Int32 × Int32 => σ) (fun κ6 b6 r6 a6 => ?_)
    obtain ⟨a6_1, a6_2⟩ := a6
    show VV m_X3_stepsRound w g 0 0 (QM m_X3_stepsRound w g x) κ6 6 [some (.ref (wB w + 59)), none, some (.int p2), some (.int p3), some (.int a6_1), some (.int a6_2)] [] σ (L_X3_stepsRound_6 n p2 p3 σ (a6_1, a6_2))
    refine V_iload (pc := 6) dX3_stepsRound_6 rfl ?_
    refine V_bipush (pc := 8) dX3_stepsRound_8 bp_6 ?_
    refine V_icmp_ge (pc := 10) (tgt := 54) dX3_stepsRound_10 (by decide +kernel) ?_ ?_
    · refine V_exit r6 ?_
      refine V_iconst (pc := 54) dX3_stepsRound_54 ic_m1 ?_
      exact V_ireti (pc := 55) dX3_stepsRound_55 rfl (hk := fun h => h)
    · refine V_iload (pc := 13) dX3_stepsRound_13 rfl ?_
      refine V_iload_n (pc := 15) dX3_stepsRound_15 rfl rfl ?_
      refine V_icmp_ne (pc := 16) (tgt := 22) dX3_stepsRound_16 (by decide +kernel) ?_ ?_
      · refine V_iload (pc := 22) dX3_stepsRound_22 rfl ?_
        refine V_iload_n (pc := 24) dX3_stepsRound_24 rfl rfl ?_
        refine V_iadd (pc := 25) dX3_stepsRound_25 ?_
        refine V_bipush (pc := 26) dX3_stepsRound_26 bp_6 ?_
        refine V_irem (pc := 28) dX3_stepsRound_28 (by decide +kernel) ?_
        refine V_istore (pc := 29) (vs' := [some (.ref (wB w + 59)), none, some (.int p2), some (.int p3), some (.int (remI (a6_1 + p3) (6 : Int32))), some (.int a6_2)]) dX3_stepsRound_29 (Nat.le_of_ble_eq_true rfl) (Nat.le_of_ble_eq_true rfl) rfl ?_
        refine V_aload_n (pc := 31) dX3_stepsRound_31 rfl rfl ?_
        refine V_getr (pc := 32) (t := 3) fk_X3_9 rfl dX3_stepsRound_32 kc_59 rf_3_0_59 ?_
        refine V_geti (pc := 35) fk_X3_28 rfl dX3_stepsRound_35 kc_3 rf_4_2_3 ?_
        refine V_iconst (pc := 38) dX3_stepsRound_38 ic_1 ?_
        refine V_iload (pc := 39) dX3_stepsRound_39 rfl ?_
        refine V_ishl (pc := 41) dX3_stepsRound_41 ?_
        refine V_iand (pc := 42) dX3_stepsRound_42 ?_
        refine V_if_eq (pc := 43) (tgt := 48) dX3_stepsRound_43 (by decide +kernel) ?_ ?_
        · refine V_iincC (pc := 48) (vs' := [some (.ref (wB w + 59)), none, some (.int p2), some (.int p3), some (.int (remI (a6_1 + p3) (6 : Int32))), some (.int (a6_2 + (1 : Int32)))]) dX3_stepsRound_48 (Nat.le_of_ble_eq_true rfl) rfl ic_1 rfl ?_
          refine V_goto (pc := 51) (tgt := 6) dX3_stepsRound_51 (by decide +kernel) ?_
          exact V_back (b6 ((remI (a6_1 + p3) (6 : Int32)), (a6_2 + (1 : Int32))))
        · refine V_exit r6 ?_
          refine V_iconst (pc := 46) dX3_stepsRound_46 ic_m1 ?_
          exact V_ireti (pc := 47) dX3_stepsRound_47 rfl (hk := fun h => h)
      · refine V_exit r6 ?_
        refine V_iload (pc := 19) dX3_stepsRound_19 rfl ?_
        exact V_ireti (pc := 21) dX3_stepsRound_21 rfl (hk := fun h => h)
  refine V_iload_n (pc := 0) dX3_stepsRound_0 rfl rfl ?_
  refine V_istore (pc := 1) (vs' := [some (.ref (wB w + 59)), some (.int p1), some (.int p2), some (.int p3), some (.int p1), none]) dX3_stepsRound_1 (Nat.le_of_ble_eq_true rfl) (Nat.le_of_ble_eq_true rfl) rfl ?_
  refine V_iconst (pc := 3) dX3_stepsRound_3 ic_0 ?_
  refine V_istore (pc := 4) (vs' := [some (.ref (wB w + 59)), some (.int p1), some (.int p2), some (.int p3), some (.int p1), some (.int (0 : Int32))]) dX3_stepsRound_4 (Nat.le_of_ble_eq_true rfl) (Nat.le_of_ble_eq_true rfl) rfl ?_
  refine V_sub (vs' := [some (.ref (wB w + 59)), none, some (.int p2), some (.int p3), some (.int p1), some (.int (0 : Int32))]) (show vless _ _ from ⟨rfl, ⟨rfl, ⟨rfl, ⟨rfl, ⟨rfl, trivial⟩⟩⟩⟩⟩) rfl ?_
  exact hL6 n (p1, (0 : Int32))
def J_X3_steps_28 (n : Nat) (v3 : Int32) (v4 : Int32) (σ : MS) : Option (Int32) := some (mxI v3 v4)
def f_X3_steps (n : Nat) (p1 : Int32) (p2 : Int32) (σ : MS) : Option (Int32) := ((f_X3_stepsRound n p1 p2 (1 : Int32) σ).bind (fun q4 => ((f_X3_stepsRound n p1 p2 (5 : Int32) σ).bind (fun q12 => (if q4 = (-1 : Int32) then J_X3_steps_28 n q4 q12 σ else (if q12 = (-1 : Int32) then J_X3_steps_28 n q4 q12 σ else some (mnI q4 q12)))))))
set_option maxRecDepth 20000 in
set_option maxHeartbeats 2000000 in
theorem c_X3_steps (w : TG) (n : Nat) (p1 : Int32) (p2 : Int32) (σ : MS) : MC m_X3_steps w [.ref (wB w + 59), .int p1, .int p2] σ ((f_X3_steps n p1 p2 σ).map (fun r => (r, σ))) := by
  refine V_methp (by decide +kernel) (Nat.le_of_ble_eq_true rfl) (by intro v hv; simp only [List.mem_cons, List.not_mem_nil, or_false] at hv; rcases hv with rfl | rfl | rfl <;> rfl) (fun g x => ?_)
  show VV m_X3_steps w g 0 0 (QM m_X3_steps w g x) (fun b : Int32 => (b, σ) = x) 0 [some (.ref (wB w + 59)), some (.int p1), some (.int p2), none, none] [] σ (f_X3_steps n p1 p2 σ)
  have hJ28 : ∀ (v3 : Int32) (v4 : Int32), VV m_X3_steps w g 0 0 (QM m_X3_steps w g x) (fun b : Int32 => (b, σ) = x) 28 [none, none, none, some (.int v3), some (.int v4)] [] σ (J_X3_steps_28 n v3 v4 σ) := by
    intro v3 v4
    refine V_iload_n (pc := 28) dX3_steps_28 rfl rfl ?_
    refine V_iload (pc := 29) dX3_steps_29 rfl ?_
    refine V_mmax (pc := 31) dX3_steps_31 rfl mw_X3_19 (Nat.le_of_ble_eq_true rfl) (Nat.le_of_ble_eq_true rfl) (Nat.le_of_ble_eq_true rfl) (Nat.le_of_ble_eq_true rfl) ?_
    exact V_ireti (pc := 34) dX3_steps_34 rfl (hk := fun h => h)
  refine V_aload_n (pc := 0) dX3_steps_0 rfl rfl ?_
  refine V_iload_n (pc := 1) dX3_steps_1 rfl rfl ?_
  refine V_iload_n (pc := 2) dX3_steps_2 rfl rfl ?_
  refine V_iconst (pc := 3) dX3_steps_3 ic_1 ?_
  refine V_callVpi (pc := 4) (As := [.int p1, .int p2, .int (1 : Int32)]) (rest := []) (c_X3_stepsRound w n p1 p2 (1 : Int32) σ) cw_X3_15 rfl rfl dX3_steps_4 kc_59 ci_3 ⟨Nat.le_of_ble_eq_true rfl, Nat.le_of_ble_eq_true rfl⟩ rfl rfl (Nat.le_of_ble_eq_true rfl) (Nat.le_of_ble_eq_true rfl) (Nat.le_of_ble_eq_true rfl) rfl (fun q4 => ?_)
  refine V_istore_n (pc := 7) (vs' := [some (.ref (wB w + 59)), some (.int p1), some (.int p2), some (.int q4), none]) dX3_steps_7 rfl (Nat.le_of_ble_eq_true rfl) (Nat.le_of_ble_eq_true rfl) rfl ?_
  refine V_aload_n (pc := 8) dX3_steps_8 rfl rfl ?_
  refine V_iload_n (pc := 9) dX3_steps_9 rfl rfl ?_
  refine V_iload_n (pc := 10) dX3_steps_10 rfl rfl ?_
  refine V_iconst (pc := 11) dX3_steps_11 ic_5 ?_
  refine V_callVpi (pc := 12) (As := [.int p1, .int p2, .int (5 : Int32)]) (rest := []) (c_X3_stepsRound w n p1 p2 (5 : Int32) σ) cw_X3_15 rfl rfl dX3_steps_12 kc_59 ci_3 ⟨Nat.le_of_ble_eq_true rfl, Nat.le_of_ble_eq_true rfl⟩ rfl rfl (Nat.le_of_ble_eq_true rfl) (Nat.le_of_ble_eq_true rfl) (Nat.le_of_ble_eq_true rfl) rfl (fun q12 => ?_)
  refine V_istore (pc := 15) (vs' := [some (.ref (wB w + 59)), some (.int p1), some (.int p2), some (.int q4), some (.int q12)]) dX3_steps_15 (Nat.le_of_ble_eq_true rfl) (Nat.le_of_ble_eq_true rfl) rfl ?_
  refine V_iload_n (pc := 17) dX3_steps_17 rfl rfl ?_
  refine V_iconst (pc := 18) dX3_steps_18 ic_m1 ?_
  refine V_icmp_eq (pc := 19) (tgt := 28) dX3_steps_19 (by decide +kernel) ?_ ?_
  · refine V_sub (vs' := [none, none, none, some (.int q4), some (.int q12)]) (show vless _ _ from ⟨rfl, ⟨rfl, trivial⟩⟩) rfl ?_
    exact hJ28 q4 q12
  · refine V_iload (pc := 22) dX3_steps_22 rfl ?_
    refine V_iconst (pc := 24) dX3_steps_24 ic_m1 ?_
    refine V_icmp_ne (pc := 25) (tgt := 35) dX3_steps_25 (by decide +kernel) ?_ ?_
    · refine V_iload_n (pc := 35) dX3_steps_35 rfl rfl ?_
      refine V_iload (pc := 36) dX3_steps_36 rfl ?_
      refine V_mmin (pc := 38) dX3_steps_38 rfl mw_X3_25 (Nat.le_of_ble_eq_true rfl) (Nat.le_of_ble_eq_true rfl) (Nat.le_of_ble_eq_true rfl) (Nat.le_of_ble_eq_true rfl) ?_
      exact V_ireti (pc := 41) dX3_steps_41 rfl (hk := fun h => h)
    · refine V_sub (vs' := [none, none, none, some (.int q4), some (.int q12)]) (show vless _ _ from ⟨rfl, ⟨rfl, trivial⟩⟩) rfl ?_
      exact hJ28 q4 q12
def J_X3_meeting_92 (n : Nat) (v1 : Int32) (v2 : Int32) (v3 : Int32) (v4 : Int32) (v5 : Int32) (σ : MS) : Option ((Int32 × Int32 × Int32) ⊕ (Int32)) := some (.inl (v3, v4, (v5 + (1 : Int32))))
def J_X3_meeting_54 (n : Nat) (v1 : Int32) (v2 : Int32) (v3 : Int32) (v4 : Int32) (v5 : Int32) (v6 : Int32) (v7 : Int32) (t0 : Int32) (σ : MS) : Option ((Int32 × Int32 × Int32) ⊕ (Int32)) := (if t0 = 0 then J_X3_meeting_92 n v1 v2 v3 v4 v5 σ else (if v6 = (-1 : Int32) then J_X3_meeting_92 n v1 v2 v3 v4 v5 σ else (if v7 = (-1 : Int32) then J_X3_meeting_92 n v1 v2 v3 v4 v5 σ else (if v3 ≤ (v6 + v7) then J_X3_meeting_92 n v1 v2 v3 v4 v5 σ else J_X3_meeting_92 n v1 v2 (v6 + v7) v5 v5 σ))))
def L_X3_meeting_9 (n : Nat) (v1 : Int32) (v2 : Int32) (σ : MS) (a9 : Int32 × Int32 × Int32) : Option ((Int32 × Int32 × Int32) ⊕ (Int32)) := (if (6 : Int32) ≤ a9.2.2 then (some a9.2.1).map Sum.inr else ((f_X3_steps n v1 a9.2.2 σ).bind (fun q20 => ((f_X3_steps n v2 a9.2.2 σ).bind (fun q29 => (if ((σ 3 2) &&& (shlI (1 : Int32) a9.2.2)) = 0 then J_X3_meeting_54 n v1 v2 a9.1 a9.2.1 a9.2.2 q20 q29 (1 : Int32) σ else J_X3_meeting_54 n v1 v2 a9.1 a9.2.1 a9.2.2 q20 q29 (0 : Int32) σ))))))
def f_X3_meeting (n : Nat) (p1 : Int32) (p2 : Int32) (σ : MS) : Option (Int32) := itr (L_X3_meeting_9 n p1 p2 σ) n ((12 : Int32), (-1 : Int32), (0 : Int32))
set_option maxRecDepth 20000 in
set_option maxHeartbeats 2000000 in
theorem c_X3_meeting (w : TG) (n : Nat) (p1 : Int32) (p2 : Int32) (σ : MS) : MC m_X3_meeting w [.ref (wB w + 59), .int p1, .int p2] σ ((f_X3_meeting n p1 p2 σ).map (fun r => (r, σ))) := by
  refine V_methp (by decide +kernel) (Nat.le_of_ble_eq_true rfl) (by intro v hv; simp only [List.mem_cons, List.not_mem_nil, or_false] at hv; rcases hv with rfl | rfl | rfl <;> rfl) (fun g x => ?_)
  show VV m_X3_meeting w g 0 0 (QM m_X3_meeting w g x) (fun b : Int32 => (b, σ) = x) 0 [some (.ref (wB w + 59)), some (.int p1), some (.int p2), none, none, none, none, none, none] [] σ (f_X3_meeting n p1 p2 σ)
  have hL9 : ∀  (n0 : Nat) (a : Int32 × Int32 × Int32), VV m_X3_meeting w g 0 0 (QM m_X3_meeting w g x) (fun b : Int32 => (b, σ) = x) 9 [some (.ref (wB w + 59)), some (.int p1), some (.int p2), some (.int a.1), some (.int a.2.1), some (.int a.2.2), none, none, none] [] σ (itr (L_X3_meeting_9 n p1 p2 σ) n0 a) := by
    refine V_itr (vf := fun a : Int32 × Int32 × Int32 => [some (.ref (wB w + 59)), some (.int p1), some (.int p2), some (.int a.1), some (.int a.2.1), some (.int a.2.2), none, none, none]) (sf := fun a : Int32 × Int32 × Int32 => σ) (fun κ9 b9 r9 a9 => ?_)
    obtain ⟨a9_1, a9_2, a9_3⟩ := a9
    show VV m_X3_meeting w g 0 0 (QM m_X3_meeting w g x) κ9 9 [some (.ref (wB w + 59)), some (.int p1), some (.int p2), some (.int a9_1), some (.int a9_2), some (.int a9_3), none, none, none] [] σ (L_X3_meeting_9 n p1 p2 σ (a9_1, a9_2, a9_3))
    have hJ92 : ∀ (v3 : Int32) (v4 : Int32) (v5 : Int32), VV m_X3_meeting w g 0 0 (QM m_X3_meeting w g x) κ9 92 [some (.ref (wB w + 59)), some (.int p1), some (.int p2), some (.int v3), some (.int v4), some (.int v5), none, none, none] [] σ (J_X3_meeting_92 n p1 p2 v3 v4 v5 σ) := by
      intro v3 v4 v5
      refine V_iincC (pc := 92) (vs' := [some (.ref (wB w + 59)), some (.int p1), some (.int p2), some (.int v3), some (.int v4), some (.int (v5 + (1 : Int32))), none, none, none]) dX3_meeting_92 (Nat.le_of_ble_eq_true rfl) rfl ic_1 rfl ?_
      refine V_goto (pc := 95) (tgt := 9) dX3_meeting_95 (by decide +kernel) ?_
      exact V_back (b9 (v3, v4, (v5 + (1 : Int32))))
    have hJ54 : ∀ (v3 : Int32) (v4 : Int32) (v5 : Int32) (v6 : Int32) (v7 : Int32) (t0 : Int32), VV m_X3_meeting w g 0 0 (QM m_X3_meeting w g x) κ9 54 [some (.ref (wB w + 59)), some (.int p1), some (.int p2), some (.int v3), some (.int v4), some (.int v5), some (.int v6), some (.int v7), none] [.int t0] σ (J_X3_meeting_54 n p1 p2 v3 v4 v5 v6 v7 t0 σ) := by
      intro v3 v4 v5 v6 v7 t0
      refine V_istore (pc := 54) (vs' := [some (.ref (wB w + 59)), some (.int p1), some (.int p2), some (.int v3), some (.int v4), some (.int v5), some (.int v6), some (.int v7), some (.int t0)]) dX3_meeting_54 (Nat.le_of_ble_eq_true rfl) (Nat.le_of_ble_eq_true rfl) rfl ?_
      refine V_iload (pc := 56) dX3_meeting_56 rfl ?_
      refine V_if_eq (pc := 58) (tgt := 92) dX3_meeting_58 (by decide +kernel) ?_ ?_
      · refine V_sub (vs' := [some (.ref (wB w + 59)), some (.int p1), some (.int p2), some (.int v3), some (.int v4), some (.int v5), none, none, none]) (show vless _ _ from ⟨rfl, ⟨rfl, ⟨rfl, ⟨rfl, ⟨rfl, ⟨rfl, trivial⟩⟩⟩⟩⟩⟩) rfl ?_
        exact hJ92 v3 v4 v5
      · refine V_iload (pc := 61) dX3_meeting_61 rfl ?_
        refine V_iconst (pc := 63) dX3_meeting_63 ic_m1 ?_
        refine V_icmp_eq (pc := 64) (tgt := 92) dX3_meeting_64 (by decide +kernel) ?_ ?_
        · refine V_sub (vs' := [some (.ref (wB w + 59)), some (.int p1), some (.int p2), some (.int v3), some (.int v4), some (.int v5), none, none, none]) (show vless _ _ from ⟨rfl, ⟨rfl, ⟨rfl, ⟨rfl, ⟨rfl, ⟨rfl, trivial⟩⟩⟩⟩⟩⟩) rfl ?_
          exact hJ92 v3 v4 v5
        · refine V_iload (pc := 67) dX3_meeting_67 rfl ?_
          refine V_iconst (pc := 69) dX3_meeting_69 ic_m1 ?_
          refine V_icmp_eq (pc := 70) (tgt := 92) dX3_meeting_70 (by decide +kernel) ?_ ?_
          · refine V_sub (vs' := [some (.ref (wB w + 59)), some (.int p1), some (.int p2), some (.int v3), some (.int v4), some (.int v5), none, none, none]) (show vless _ _ from ⟨rfl, ⟨rfl, ⟨rfl, ⟨rfl, ⟨rfl, ⟨rfl, trivial⟩⟩⟩⟩⟩⟩) rfl ?_
            exact hJ92 v3 v4 v5
          · refine V_iload (pc := 73) dX3_meeting_73 rfl ?_
            refine V_iload (pc := 75) dX3_meeting_75 rfl ?_
            refine V_iadd (pc := 77) dX3_meeting_77 ?_
            refine V_iload_n (pc := 78) dX3_meeting_78 rfl rfl ?_
            refine V_icmp_ge (pc := 79) (tgt := 92) dX3_meeting_79 (by decide +kernel) ?_ ?_
            · refine V_sub (vs' := [some (.ref (wB w + 59)), some (.int p1), some (.int p2), some (.int v3), some (.int v4), some (.int v5), none, none, none]) (show vless _ _ from ⟨rfl, ⟨rfl, ⟨rfl, ⟨rfl, ⟨rfl, ⟨rfl, trivial⟩⟩⟩⟩⟩⟩) rfl ?_
              exact hJ92 v3 v4 v5
            · refine V_iload (pc := 82) dX3_meeting_82 rfl ?_
              refine V_iload (pc := 84) dX3_meeting_84 rfl ?_
              refine V_iadd (pc := 86) dX3_meeting_86 ?_
              refine V_istore_n (pc := 87) (vs' := [some (.ref (wB w + 59)), some (.int p1), some (.int p2), some (.int (v6 + v7)), some (.int v4), some (.int v5), some (.int v6), some (.int v7), some (.int t0)]) dX3_meeting_87 rfl (Nat.le_of_ble_eq_true rfl) (Nat.le_of_ble_eq_true rfl) rfl ?_
              refine V_iload (pc := 88) dX3_meeting_88 rfl ?_
              refine V_istore (pc := 90) (vs' := [some (.ref (wB w + 59)), some (.int p1), some (.int p2), some (.int (v6 + v7)), some (.int v5), some (.int v5), some (.int v6), some (.int v7), some (.int t0)]) dX3_meeting_90 (Nat.le_of_ble_eq_true rfl) (Nat.le_of_ble_eq_true rfl) rfl ?_
              refine V_sub (vs' := [some (.ref (wB w + 59)), some (.int p1), some (.int p2), some (.int (v6 + v7)), some (.int v5), some (.int v5), none, none, none]) (show vless _ _ from ⟨rfl, ⟨rfl, ⟨rfl, ⟨rfl, ⟨rfl, ⟨rfl, trivial⟩⟩⟩⟩⟩⟩) rfl ?_
              exact hJ92 (v6 + v7) v5 v5
    refine V_iload (pc := 9) dX3_meeting_9 rfl ?_
    refine V_bipush (pc := 11) dX3_meeting_11 bp_6 ?_
    refine V_icmp_ge (pc := 13) (tgt := 98) dX3_meeting_13 (by decide +kernel) ?_ ?_
    · refine V_exit r9 ?_
      refine V_iload (pc := 98) dX3_meeting_98 rfl ?_
      exact V_ireti (pc := 100) dX3_meeting_100 rfl (hk := fun h => h)
    · refine V_aload_n (pc := 16) dX3_meeting_16 rfl rfl ?_
      refine V_iload_n (pc := 17) dX3_meeting_17 rfl rfl ?_
      refine V_iload (pc := 18) dX3_meeting_18 rfl ?_
      refine V_callVpi (pc := 20) (As := [.int p1, .int a9_3]) (rest := []) (c_X3_steps w n p1 a9_3 σ) cw_X3_34 rfl rfl dX3_meeting_20 kc_59 ci_3 ⟨Nat.le_of_ble_eq_true rfl, Nat.le_of_ble_eq_true rfl⟩ rfl rfl (Nat.le_of_ble_eq_true rfl) (Nat.le_of_ble_eq_true rfl) (Nat.le_of_ble_eq_true rfl) rfl (fun q20 => ?_)
      refine V_istore (pc := 23) (vs' := [some (.ref (wB w + 59)), some (.int p1), some (.int p2), some (.int a9_1), some (.int a9_2), some (.int a9_3), some (.int q20), none, none]) dX3_meeting_23 (Nat.le_of_ble_eq_true rfl) (Nat.le_of_ble_eq_true rfl) rfl ?_
      refine V_aload_n (pc := 25) dX3_meeting_25 rfl rfl ?_
      refine V_iload_n (pc := 26) dX3_meeting_26 rfl rfl ?_
      refine V_iload (pc := 27) dX3_meeting_27 rfl ?_
      refine V_callVpi (pc := 29) (As := [.int p2, .int a9_3]) (rest := []) (c_X3_steps w n p2 a9_3 σ) cw_X3_34 rfl rfl dX3_meeting_29 kc_59 ci_3 ⟨Nat.le_of_ble_eq_true rfl, Nat.le_of_ble_eq_true rfl⟩ rfl rfl (Nat.le_of_ble_eq_true rfl) (Nat.le_of_ble_eq_true rfl) (Nat.le_of_ble_eq_true rfl) rfl (fun q29 => ?_)
      refine V_istore (pc := 32) (vs' := [some (.ref (wB w + 59)), some (.int p1), some (.int p2), some (.int a9_1), some (.int a9_2), some (.int a9_3), some (.int q20), some (.int q29), none]) dX3_meeting_32 (Nat.le_of_ble_eq_true rfl) (Nat.le_of_ble_eq_true rfl) rfl ?_
      refine V_aload_n (pc := 34) dX3_meeting_34 rfl rfl ?_
      refine V_getr (pc := 35) (t := 3) fk_X3_9 rfl dX3_meeting_35 kc_59 rf_3_0_59 ?_
      refine V_geti (pc := 38) fk_X3_28 rfl dX3_meeting_38 kc_3 rf_4_2_3 ?_
      refine V_iconst (pc := 41) dX3_meeting_41 ic_1 ?_
      refine V_iload (pc := 42) dX3_meeting_42 rfl ?_
      refine V_ishl (pc := 44) dX3_meeting_44 ?_
      refine V_iand (pc := 45) dX3_meeting_45 ?_
      refine V_if_ne (pc := 46) (tgt := 53) dX3_meeting_46 (by decide +kernel) ?_ ?_
      · refine V_iconst (pc := 53) dX3_meeting_53 ic_0 ?_
        exact hJ54 a9_1 a9_2 a9_3 q20 q29 (0 : Int32)
      · refine V_iconst (pc := 49) dX3_meeting_49 ic_1 ?_
        refine V_goto (pc := 50) (tgt := 54) dX3_meeting_50 (by decide +kernel) ?_
        exact hJ54 a9_1 a9_2 a9_3 q20 q29 (1 : Int32)
  refine V_bipush (pc := 0) dX3_meeting_0 bp_12 ?_
  refine V_istore_n (pc := 2) (vs' := [some (.ref (wB w + 59)), some (.int p1), some (.int p2), some (.int (12 : Int32)), none, none, none, none, none]) dX3_meeting_2 rfl (Nat.le_of_ble_eq_true rfl) (Nat.le_of_ble_eq_true rfl) rfl ?_
  refine V_iconst (pc := 3) dX3_meeting_3 ic_m1 ?_
  refine V_istore (pc := 4) (vs' := [some (.ref (wB w + 59)), some (.int p1), some (.int p2), some (.int (12 : Int32)), some (.int (-1 : Int32)), none, none, none, none]) dX3_meeting_4 (Nat.le_of_ble_eq_true rfl) (Nat.le_of_ble_eq_true rfl) rfl ?_
  refine V_iconst (pc := 6) dX3_meeting_6 ic_0 ?_
  refine V_istore (pc := 7) (vs' := [some (.ref (wB w + 59)), some (.int p1), some (.int p2), some (.int (12 : Int32)), some (.int (-1 : Int32)), some (.int (0 : Int32)), none, none, none]) dX3_meeting_7 (Nat.le_of_ble_eq_true rfl) (Nat.le_of_ble_eq_true rfl) rfl ?_
  exact hL9 n ((12 : Int32), (-1 : Int32), (0 : Int32))
def J_X3_caught_83 (n : Nat) (v1 : Int32) (v3 : Int32) (v2 : Int32) (v4 : Int32) (σ : MS) : Option ((Int32 × Int32) ⊕ ((Int32 × Int32) ⊕ (Int32))) := some (.inl (v2, (v4 + (1 : Int32))))
def L_X3_caught_20 (n : Nat) (v1 : Int32) (v3 : Int32) (σ : MS) (a20 : Int32 × Int32) : Option ((Int32 × Int32) ⊕ ((Int32 × Int32) ⊕ (Int32))) := (if (σ 3 0) ≤ a20.2 then (some (.inl (a20.1, (v3 + (1 : Int32))))).map Sum.inr else (if inb v3 8 then (if inb a20.2 8 then (if (σ 4 (ix v3)) = (σ 4 (ix a20.2)) then (if (v1 &&& (shlI (1 : Int32) (σ 4 (ix v3)))) = 0 then J_X3_caught_83 n v1 v3 a20.1 a20.2 σ else ((f_X4_isSecret 3 v3 a20.2 σ).bind (fun q74 => (if q74 = 0 then J_X3_caught_83 n v1 v3 a20.1 a20.2 σ else J_X3_caught_83 n v1 v3 (a20.1 + (1 : Int32)) a20.2 σ)))) else J_X3_caught_83 n v1 v3 a20.1 a20.2 σ) else none) else none))
def L_X3_caught_4 (n : Nat) (v1 : Int32) (σ : MS) (a4 : Int32 × Int32) : Option ((Int32 × Int32) ⊕ (Int32)) := (if (σ 3 0) ≤ a4.2 then (some a4.1).map Sum.inr else itr (L_X3_caught_20 n v1 a4.2 σ) n (a4.1, (a4.2 + (1 : Int32))))
def f_X3_caught (n : Nat) (p1 : Int32) (σ : MS) : Option (Int32) := itr (L_X3_caught_4 n p1 σ) n ((0 : Int32), (0 : Int32))
set_option maxRecDepth 20000 in
set_option maxHeartbeats 2000000 in
theorem c_X3_caught (w : TG) (n : Nat) (p1 : Int32) (σ : MS) : MC m_X3_caught w [.ref (wB w + 59), .int p1] σ ((f_X3_caught n p1 σ).map (fun r => (r, σ))) := by
  refine V_methp (by decide +kernel) (Nat.le_of_ble_eq_true rfl) (by intro v hv; simp only [List.mem_cons, List.not_mem_nil, or_false] at hv; rcases hv with rfl | rfl <;> rfl) (fun g x => ?_)
  show VV m_X3_caught w g 0 0 (QM m_X3_caught w g x) (fun b : Int32 => (b, σ) = x) 0 [some (.ref (wB w + 59)), some (.int p1), none, none, none, none] [] σ (f_X3_caught n p1 σ)
  have hL4 : ∀  (n0 : Nat) (a : Int32 × Int32), VV m_X3_caught w g 0 0 (QM m_X3_caught w g x) (fun b : Int32 => (b, σ) = x) 4 [some (.ref (wB w + 59)), some (.int p1), some (.int a.1), some (.int a.2), none, none] [] σ (itr (L_X3_caught_4 n p1 σ) n0 a) := by
    refine V_itr (vf := fun a : Int32 × Int32 => [some (.ref (wB w + 59)), some (.int p1), some (.int a.1), some (.int a.2), none, none]) (sf := fun a : Int32 × Int32 => σ) (fun κ4 b4 r4 a4 => ?_)
    obtain ⟨a4_1, a4_2⟩ := a4
    show VV m_X3_caught w g 0 0 (QM m_X3_caught w g x) κ4 4 [some (.ref (wB w + 59)), some (.int p1), some (.int a4_1), some (.int a4_2), none, none] [] σ (L_X3_caught_4 n p1 σ (a4_1, a4_2))
    have hL20 : ∀ (v3 : Int32) (n0 : Nat) (a : Int32 × Int32), VV m_X3_caught w g 0 0 (QM m_X3_caught w g x) κ4 20 [some (.ref (wB w + 59)), some (.int p1), some (.int a.1), some (.int v3), some (.int a.2), none] [] σ (itr (L_X3_caught_20 n p1 v3 σ) n0 a) := by
      intro v3
      refine V_itr (vf := fun a : Int32 × Int32 => [some (.ref (wB w + 59)), some (.int p1), some (.int a.1), some (.int v3), some (.int a.2), none]) (sf := fun a : Int32 × Int32 => σ) (fun κ20 b20 r20 a20 => ?_)
      obtain ⟨a20_1, a20_2⟩ := a20
      show VV m_X3_caught w g 0 0 (QM m_X3_caught w g x) κ20 20 [some (.ref (wB w + 59)), some (.int p1), some (.int a20_1), some (.int v3), some (.int a20_2), none] [] σ (L_X3_caught_20 n p1 v3 σ (a20_1, a20_2))
      have hJ83 : ∀ (v2 : Int32) (v4 : Int32), VV m_X3_caught w g 0 0 (QM m_X3_caught w g x) κ20 83 [some (.ref (wB w + 59)), some (.int p1), some (.int v2), some (.int v3), some (.int v4), none] [] σ (J_X3_caught_83 n p1 v3 v2 v4 σ) := by
        intro v2 v4
        refine V_iincC (pc := 83) (vs' := [some (.ref (wB w + 59)), some (.int p1), some (.int v2), some (.int v3), some (.int (v4 + (1 : Int32))), none]) dX3_caught_83 (Nat.le_of_ble_eq_true rfl) rfl ic_1 rfl ?_
        refine V_goto (pc := 86) (tgt := 20) dX3_caught_86 (by decide +kernel) ?_
        exact V_back (b20 (v2, (v4 + (1 : Int32))))
      refine V_iload (pc := 20) dX3_caught_20 rfl ?_
      refine V_aload_n (pc := 22) dX3_caught_22 rfl rfl ?_
      refine V_getr (pc := 23) (t := 3) fk_X3_9 rfl dX3_caught_23 kc_59 rf_3_0_59 ?_
      refine V_geti (pc := 26) fk_X3_46 rfl dX3_caught_26 kc_3 rf_4_0_3 ?_
      refine V_icmp_ge (pc := 29) (tgt := 89) dX3_caught_29 (by decide +kernel) ?_ ?_
      · refine V_exit r20 ?_
        refine V_iincC (pc := 89) (vs' := [some (.ref (wB w + 59)), some (.int p1), some (.int a20_1), some (.int (v3 + (1 : Int32))), some (.int a20_2), none]) dX3_caught_89 (Nat.le_of_ble_eq_true rfl) rfl ic_1 rfl ?_
        refine V_goto (pc := 92) (tgt := 4) dX3_caught_92 (by decide +kernel) ?_
        refine V_sub (vs' := [some (.ref (wB w + 59)), some (.int p1), some (.int a20_1), some (.int (v3 + (1 : Int32))), none, none]) (show vless _ _ from ⟨rfl, ⟨rfl, ⟨rfl, ⟨rfl, trivial⟩⟩⟩⟩) rfl ?_
        exact V_back (b4 (a20_1, (v3 + (1 : Int32))))
      · refine V_aload_n (pc := 32) dX3_caught_32 rfl rfl ?_
        refine V_getr (pc := 33) (t := 3) fk_X3_9 rfl dX3_caught_33 kc_59 rf_3_0_59 ?_
        refine V_getr (pc := 36) (t := 4) fk_X3_49 rfl dX3_caught_36 kc_3 rf_4_8_3 ?_
        refine V_iload_n (pc := 39) dX3_caught_39 rfl rfl ?_
        refine V_iald (pc := 40) (n := 8) dX3_caught_40 kc_4 lc_4 ?_
        refine V_istore (pc := 41) (vs' := [some (.ref (wB w + 59)), some (.int p1), some (.int a20_1), some (.int v3), some (.int a20_2), some (.int (σ 4 (ix v3)))]) dX3_caught_41 (Nat.le_of_ble_eq_true rfl) (Nat.le_of_ble_eq_true rfl) rfl ?_
        refine V_iload (pc := 43) dX3_caught_43 rfl ?_
        refine V_aload_n (pc := 45) dX3_caught_45 rfl rfl ?_
        refine V_getr (pc := 46) (t := 3) fk_X3_9 rfl dX3_caught_46 kc_59 rf_3_0_59 ?_
        refine V_getr (pc := 49) (t := 4) fk_X3_49 rfl dX3_caught_49 kc_3 rf_4_8_3 ?_
        refine V_iload (pc := 52) dX3_caught_52 rfl ?_
        refine V_iald (pc := 54) (n := 8) dX3_caught_54 kc_4 lc_4 ?_
        refine V_icmp_ne (pc := 55) (tgt := 83) dX3_caught_55 (by decide +kernel) ?_ ?_
        · refine V_sub (vs' := [some (.ref (wB w + 59)), some (.int p1), some (.int a20_1), some (.int v3), some (.int a20_2), none]) (show vless _ _ from ⟨rfl, ⟨rfl, ⟨rfl, ⟨rfl, ⟨rfl, trivial⟩⟩⟩⟩⟩) rfl ?_
          exact hJ83 a20_1 a20_2
        · refine V_iload_n (pc := 58) dX3_caught_58 rfl rfl ?_
          refine V_iconst (pc := 59) dX3_caught_59 ic_1 ?_
          refine V_iload (pc := 60) dX3_caught_60 rfl ?_
          refine V_ishl (pc := 62) dX3_caught_62 ?_
          refine V_iand (pc := 63) dX3_caught_63 ?_
          refine V_if_eq (pc := 64) (tgt := 83) dX3_caught_64 (by decide +kernel) ?_ ?_
          · refine V_sub (vs' := [some (.ref (wB w + 59)), some (.int p1), some (.int a20_1), some (.int v3), some (.int a20_2), none]) (show vless _ _ from ⟨rfl, ⟨rfl, ⟨rfl, ⟨rfl, ⟨rfl, trivial⟩⟩⟩⟩⟩) rfl ?_
            exact hJ83 a20_1 a20_2
          · refine V_aload_n (pc := 67) dX3_caught_67 rfl rfl ?_
            refine V_getr (pc := 68) (t := 3) fk_X3_9 rfl dX3_caught_68 kc_59 rf_3_0_59 ?_
            refine V_iload_n (pc := 71) dX3_caught_71 rfl rfl ?_
            refine V_iload (pc := 72) dX3_caught_72 rfl ?_
            refine V_callVpi (pc := 74) (As := [.int v3, .int a20_2]) (rest := []) (c_X4_isSecret w 3 v3 a20_2 kc_3 σ) cw_X3_53 rfl rfl dX3_caught_74 kc_3 ci_4 ⟨Nat.le_of_ble_eq_true rfl, Nat.le_of_ble_eq_true rfl⟩ rfl rfl (Nat.le_of_ble_eq_true rfl) (Nat.le_of_ble_eq_true rfl) (Nat.le_of_ble_eq_true rfl) rfl (fun q74 => ?_)
            refine V_if_eq (pc := 77) (tgt := 83) dX3_caught_77 (by decide +kernel) ?_ ?_
            · refine V_sub (vs' := [some (.ref (wB w + 59)), some (.int p1), some (.int a20_1), some (.int v3), some (.int a20_2), none]) (show vless _ _ from ⟨rfl, ⟨rfl, ⟨rfl, ⟨rfl, ⟨rfl, trivial⟩⟩⟩⟩⟩) rfl ?_
              exact hJ83 a20_1 a20_2
            · refine V_iincC (pc := 80) (vs' := [some (.ref (wB w + 59)), some (.int p1), some (.int (a20_1 + (1 : Int32))), some (.int v3), some (.int a20_2), some (.int (σ 4 (ix v3)))]) dX3_caught_80 (Nat.le_of_ble_eq_true rfl) rfl ic_1 rfl ?_
              refine V_sub (vs' := [some (.ref (wB w + 59)), some (.int p1), some (.int (a20_1 + (1 : Int32))), some (.int v3), some (.int a20_2), none]) (show vless _ _ from ⟨rfl, ⟨rfl, ⟨rfl, ⟨rfl, ⟨rfl, trivial⟩⟩⟩⟩⟩) rfl ?_
              exact hJ83 (a20_1 + (1 : Int32)) a20_2
    refine V_iload_n (pc := 4) dX3_caught_4 rfl rfl ?_
    refine V_aload_n (pc := 5) dX3_caught_5 rfl rfl ?_
    refine V_getr (pc := 6) (t := 3) fk_X3_9 rfl dX3_caught_6 kc_59 rf_3_0_59 ?_
    refine V_geti (pc := 9) fk_X3_46 rfl dX3_caught_9 kc_3 rf_4_0_3 ?_
    refine V_icmp_ge (pc := 12) (tgt := 95) dX3_caught_12 (by decide +kernel) ?_ ?_
    · refine V_exit r4 ?_
      refine V_iload_n (pc := 95) dX3_caught_95 rfl rfl ?_
      exact V_ireti (pc := 96) dX3_caught_96 rfl (hk := fun h => h)
    · refine V_iload_n (pc := 15) dX3_caught_15 rfl rfl ?_
      refine V_iconst (pc := 16) dX3_caught_16 ic_1 ?_
      refine V_iadd (pc := 17) dX3_caught_17 ?_
      refine V_istore (pc := 18) (vs' := [some (.ref (wB w + 59)), some (.int p1), some (.int a4_1), some (.int a4_2), some (.int (a4_2 + (1 : Int32))), none]) dX3_caught_18 (Nat.le_of_ble_eq_true rfl) (Nat.le_of_ble_eq_true rfl) rfl ?_
      exact hL20 a4_2 n (a4_1, (a4_2 + (1 : Int32)))
  refine V_iconst (pc := 0) dX3_caught_0 ic_0 ?_
  refine V_istore_n (pc := 1) (vs' := [some (.ref (wB w + 59)), some (.int p1), some (.int (0 : Int32)), none, none, none]) dX3_caught_1 rfl (Nat.le_of_ble_eq_true rfl) (Nat.le_of_ble_eq_true rfl) rfl ?_
  refine V_iconst (pc := 2) dX3_caught_2 ic_0 ?_
  refine V_istore_n (pc := 3) (vs' := [some (.ref (wB w + 59)), some (.int p1), some (.int (0 : Int32)), some (.int (0 : Int32)), none, none]) dX3_caught_3 rfl (Nat.le_of_ble_eq_true rfl) (Nat.le_of_ble_eq_true rfl) rfl ?_
  exact hL4 n ((0 : Int32), (0 : Int32))
def J_X3_catching_43 (n : Nat) (v1 : Int32) (v2 : Int32) (v3 : Int32) (v4 : Int32) (σ : MS) : Option ((Int32 × Int32 × Int32) ⊕ (Int32)) := some (.inl (v2, v3, (v4 + (1 : Int32))))
def L_X3_catching_7 (n : Nat) (v1 : Int32) (σ : MS) (a7 : Int32 × Int32 × Int32) : Option ((Int32 × Int32 × Int32) ⊕ (Int32)) := (if (64 : Int32) ≤ a7.2.2 then (some a7.1).map Sum.inr else ((f_J6_bitCount_0f7a4 a7.2.2 σ).bind (fun q16 => (if q16 = v1 then ((f_X3_caught n a7.2.2 σ).bind (fun q26 => (if q26 ≤ a7.2.1 then J_X3_catching_43 n v1 a7.1 a7.2.1 a7.2.2 σ else ((f_X3_caught n a7.2.2 σ).bind (fun q36 => J_X3_catching_43 n v1 a7.2.2 q36 a7.2.2 σ))))) else J_X3_catching_43 n v1 a7.1 a7.2.1 a7.2.2 σ))))
def f_X3_catching (n : Nat) (p1 : Int32) (σ : MS) : Option (Int32) := itr (L_X3_catching_7 n p1 σ) n ((-1 : Int32), (-1 : Int32), (0 : Int32))
set_option maxRecDepth 20000 in
set_option maxHeartbeats 2000000 in
theorem c_X3_catching (w : TG) (n : Nat) (p1 : Int32) (σ : MS) : MC m_X3_catching w [.ref (wB w + 59), .int p1] σ ((f_X3_catching n p1 σ).map (fun r => (r, σ))) := by
  refine V_methp (by decide +kernel) (Nat.le_of_ble_eq_true rfl) (by intro v hv; simp only [List.mem_cons, List.not_mem_nil, or_false] at hv; rcases hv with rfl | rfl <;> rfl) (fun g x => ?_)
  show VV m_X3_catching w g 0 0 (QM m_X3_catching w g x) (fun b : Int32 => (b, σ) = x) 0 [some (.ref (wB w + 59)), some (.int p1), none, none, none] [] σ (f_X3_catching n p1 σ)
  have hL7 : ∀  (n0 : Nat) (a : Int32 × Int32 × Int32), VV m_X3_catching w g 0 0 (QM m_X3_catching w g x) (fun b : Int32 => (b, σ) = x) 7 [some (.ref (wB w + 59)), some (.int p1), some (.int a.1), some (.int a.2.1), some (.int a.2.2)] [] σ (itr (L_X3_catching_7 n p1 σ) n0 a) := by
    refine V_itr (vf := fun a : Int32 × Int32 × Int32 => [some (.ref (wB w + 59)), some (.int p1), some (.int a.1), some (.int a.2.1), some (.int a.2.2)]) (sf := fun a : Int32 × Int32 × Int32 => σ) (fun κ7 b7 r7 a7 => ?_)
    obtain ⟨a7_1, a7_2, a7_3⟩ := a7
    show VV m_X3_catching w g 0 0 (QM m_X3_catching w g x) κ7 7 [some (.ref (wB w + 59)), some (.int p1), some (.int a7_1), some (.int a7_2), some (.int a7_3)] [] σ (L_X3_catching_7 n p1 σ (a7_1, a7_2, a7_3))
    have hJ43 : ∀ (v2 : Int32) (v3 : Int32) (v4 : Int32), VV m_X3_catching w g 0 0 (QM m_X3_catching w g x) κ7 43 [some (.ref (wB w + 59)), some (.int p1), some (.int v2), some (.int v3), some (.int v4)] [] σ (J_X3_catching_43 n p1 v2 v3 v4 σ) := by
      intro v2 v3 v4
      refine V_iincC (pc := 43) (vs' := [some (.ref (wB w + 59)), some (.int p1), some (.int v2), some (.int v3), some (.int (v4 + (1 : Int32)))]) dX3_catching_43 (Nat.le_of_ble_eq_true rfl) rfl ic_1 rfl ?_
      refine V_goto (pc := 46) (tgt := 7) dX3_catching_46 (by decide +kernel) ?_
      exact V_back (b7 (v2, v3, (v4 + (1 : Int32))))
    refine V_iload (pc := 7) dX3_catching_7 rfl ?_
    refine V_bipush (pc := 9) dX3_catching_9 bp_64 ?_
    refine V_icmp_ge (pc := 11) (tgt := 49) dX3_catching_11 (by decide +kernel) ?_ ?_
    · refine V_exit r7 ?_
      refine V_iload_n (pc := 49) dX3_catching_49 rfl rfl ?_
      exact V_ireti (pc := 50) dX3_catching_50 rfl (hk := fun h => h)
    · refine V_iload (pc := 14) dX3_catching_14 rfl ?_
      refine V_callSpi (pc := 16) (As := [.int a7_3]) (rest := []) (c_J6_bitCount_0f7a4 w a7_3 σ) cs_X3_37 rfl rfl dX3_catching_16 ⟨Nat.le_of_ble_eq_true rfl, Nat.le_of_ble_eq_true rfl⟩ rfl rfl (Nat.le_of_ble_eq_true rfl) (Nat.le_of_ble_eq_true rfl) (Nat.le_of_ble_eq_true rfl) rfl (fun q16 => ?_)
      refine V_iload_n (pc := 19) dX3_catching_19 rfl rfl ?_
      refine V_icmp_ne (pc := 20) (tgt := 43) dX3_catching_20 (by decide +kernel) ?_ ?_
      · exact hJ43 a7_1 a7_2 a7_3
      · refine V_aload_n (pc := 23) dX3_catching_23 rfl rfl ?_
        refine V_iload (pc := 24) dX3_catching_24 rfl ?_
        refine V_callVpi (pc := 26) (As := [.int a7_3]) (rest := []) (c_X3_caught w n a7_3 σ) cw_X3_43 rfl rfl dX3_catching_26 kc_59 ci_3 ⟨Nat.le_of_ble_eq_true rfl, Nat.le_of_ble_eq_true rfl⟩ rfl rfl (Nat.le_of_ble_eq_true rfl) (Nat.le_of_ble_eq_true rfl) (Nat.le_of_ble_eq_true rfl) rfl (fun q26 => ?_)
        refine V_iload_n (pc := 29) dX3_catching_29 rfl rfl ?_
        refine V_icmp_le (pc := 30) (tgt := 43) dX3_catching_30 (by decide +kernel) ?_ ?_
        · exact hJ43 a7_1 a7_2 a7_3
        · refine V_aload_n (pc := 33) dX3_catching_33 rfl rfl ?_
          refine V_iload (pc := 34) dX3_catching_34 rfl ?_
          refine V_callVpi (pc := 36) (As := [.int a7_3]) (rest := []) (c_X3_caught w n a7_3 σ) cw_X3_43 rfl rfl dX3_catching_36 kc_59 ci_3 ⟨Nat.le_of_ble_eq_true rfl, Nat.le_of_ble_eq_true rfl⟩ rfl rfl (Nat.le_of_ble_eq_true rfl) (Nat.le_of_ble_eq_true rfl) (Nat.le_of_ble_eq_true rfl) rfl (fun q36 => ?_)
          refine V_istore_n (pc := 39) (vs' := [some (.ref (wB w + 59)), some (.int p1), some (.int a7_1), some (.int q36), some (.int a7_3)]) dX3_catching_39 rfl (Nat.le_of_ble_eq_true rfl) (Nat.le_of_ble_eq_true rfl) rfl ?_
          refine V_iload (pc := 40) dX3_catching_40 rfl ?_
          refine V_istore_n (pc := 42) (vs' := [some (.ref (wB w + 59)), some (.int p1), some (.int a7_3), some (.int q36), some (.int a7_3)]) dX3_catching_42 rfl (Nat.le_of_ble_eq_true rfl) (Nat.le_of_ble_eq_true rfl) rfl ?_
          exact hJ43 a7_3 q36 a7_3
  refine V_iconst (pc := 0) dX3_catching_0 ic_m1 ?_
  refine V_istore_n (pc := 1) (vs' := [some (.ref (wB w + 59)), some (.int p1), some (.int (-1 : Int32)), none, none]) dX3_catching_1 rfl (Nat.le_of_ble_eq_true rfl) (Nat.le_of_ble_eq_true rfl) rfl ?_
  refine V_iconst (pc := 2) dX3_catching_2 ic_m1 ?_
  refine V_istore_n (pc := 3) (vs' := [some (.ref (wB w + 59)), some (.int p1), some (.int (-1 : Int32)), some (.int (-1 : Int32)), none]) dX3_catching_3 rfl (Nat.le_of_ble_eq_true rfl) (Nat.le_of_ble_eq_true rfl) rfl ?_
  refine V_iconst (pc := 4) dX3_catching_4 ic_0 ?_
  refine V_istore (pc := 5) (vs' := [some (.ref (wB w + 59)), some (.int p1), some (.int (-1 : Int32)), some (.int (-1 : Int32)), some (.int (0 : Int32))]) dX3_catching_5 (Nat.le_of_ble_eq_true rfl) (Nat.le_of_ble_eq_true rfl) rfl ?_
  exact hL7 n ((-1 : Int32), (-1 : Int32), (0 : Int32))
def L_X10_holding_4 (n : Nat)  (σ : MS) (a4 : Int32 × Int32) : Option ((Int32 × Int32) ⊕ (Int32)) := (if (σ 3 0) ≤ a4.2 then (some (a4.1 / (2 : Int32))).map Sum.inr else ((f_X4_boundTo n 3 a4.2 σ).bind (fun q21 => ((f_J6_bitCount_0f7a4 q21 σ).bind (fun q24 => some (.inl ((a4.1 + q24), (a4.2 + (1 : Int32)))))))))
def f_X10_holding (n : Nat)  (σ : MS) : Option (Int32) := itr (L_X10_holding_4 n  σ) n ((0 : Int32), (0 : Int32))
set_option maxRecDepth 20000 in
set_option maxHeartbeats 2000000 in
theorem c_X10_holding (w : TG) (n : Nat)  (σ : MS) : MC m_X10_holding w [.ref (wB w + 55)] σ ((f_X10_holding n  σ).map (fun r => (r, σ))) := by
  refine V_methp (by decide +kernel) (Nat.le_of_ble_eq_true rfl) (by intro v hv; simp only [List.mem_cons, List.not_mem_nil, or_false] at hv; subst hv; rfl) (fun g x => ?_)
  show VV m_X10_holding w g 0 0 (QM m_X10_holding w g x) (fun b : Int32 => (b, σ) = x) 0 [some (.ref (wB w + 55)), none, none] [] σ (f_X10_holding n  σ)
  have hL4 : ∀  (n0 : Nat) (a : Int32 × Int32), VV m_X10_holding w g 0 0 (QM m_X10_holding w g x) (fun b : Int32 => (b, σ) = x) 4 [some (.ref (wB w + 55)), some (.int a.1), some (.int a.2)] [] σ (itr (L_X10_holding_4 n  σ) n0 a) := by
    refine V_itr (vf := fun a : Int32 × Int32 => [some (.ref (wB w + 55)), some (.int a.1), some (.int a.2)]) (sf := fun a : Int32 × Int32 => σ) (fun κ4 b4 r4 a4 => ?_)
    obtain ⟨a4_1, a4_2⟩ := a4
    show VV m_X10_holding w g 0 0 (QM m_X10_holding w g x) κ4 4 [some (.ref (wB w + 55)), some (.int a4_1), some (.int a4_2)] [] σ (L_X10_holding_4 n  σ (a4_1, a4_2))
    refine V_iload_n (pc := 4) dX10_holding_4 rfl rfl ?_
    refine V_aload_n (pc := 5) dX10_holding_5 rfl rfl ?_
    refine V_getr (pc := 6) (t := 3) fk_X10_9 rfl dX10_holding_6 kc_55 rf_10_0_55 ?_
    refine V_geti (pc := 9) fk_X10_15 rfl dX10_holding_9 kc_3 rf_4_0_3 ?_
    refine V_icmp_ge (pc := 12) (tgt := 35) dX10_holding_12 (by decide +kernel) ?_ ?_
    · refine V_exit r4 ?_
      refine V_iload_n (pc := 35) dX10_holding_35 rfl rfl ?_
      refine V_iconst (pc := 36) dX10_holding_36 ic_2 ?_
      refine V_idiv (pc := 37) dX10_holding_37 (by decide +kernel) ?_
      exact V_ireti (pc := 38) dX10_holding_38 rfl (hk := fun h => h)
    · refine V_iload_n (pc := 15) dX10_holding_15 rfl rfl ?_
      refine V_aload_n (pc := 16) dX10_holding_16 rfl rfl ?_
      refine V_getr (pc := 17) (t := 3) fk_X10_9 rfl dX10_holding_17 kc_55 rf_10_0_55 ?_
      refine V_iload_n (pc := 20) dX10_holding_20 rfl rfl ?_
      refine V_callVpi (pc := 21) (As := [.int a4_2]) (rest := [.int a4_1]) (c_X4_boundTo w n 3 a4_2 kc_3 σ) cw_X10_21 rfl rfl dX10_holding_21 kc_3 ci_4 ⟨Nat.le_of_ble_eq_true rfl, Nat.le_of_ble_eq_true rfl⟩ rfl rfl (Nat.le_of_ble_eq_true rfl) (Nat.le_of_ble_eq_true rfl) (Nat.le_of_ble_eq_true rfl) rfl (fun q21 => ?_)
      refine V_callSpi (pc := 24) (As := [.int q21]) (rest := [.int a4_1]) (c_J6_bitCount_0f7a4 w q21 σ) cs_X10_36 rfl rfl dX10_holding_24 ⟨Nat.le_of_ble_eq_true rfl, Nat.le_of_ble_eq_true rfl⟩ rfl rfl (Nat.le_of_ble_eq_true rfl) (Nat.le_of_ble_eq_true rfl) (Nat.le_of_ble_eq_true rfl) rfl (fun q24 => ?_)
      refine V_iadd (pc := 27) dX10_holding_27 ?_
      refine V_istore_n (pc := 28) (vs' := [some (.ref (wB w + 55)), some (.int (a4_1 + q24)), some (.int a4_2)]) dX10_holding_28 rfl (Nat.le_of_ble_eq_true rfl) (Nat.le_of_ble_eq_true rfl) rfl ?_
      refine V_iincC (pc := 29) (vs' := [some (.ref (wB w + 55)), some (.int (a4_1 + q24)), some (.int (a4_2 + (1 : Int32)))]) dX10_holding_29 (Nat.le_of_ble_eq_true rfl) rfl ic_1 rfl ?_
      refine V_goto (pc := 32) (tgt := 4) dX10_holding_32 (by decide +kernel) ?_
      exact V_back (b4 ((a4_1 + q24), (a4_2 + (1 : Int32))))
  refine V_iconst (pc := 0) dX10_holding_0 ic_0 ?_
  refine V_istore_n (pc := 1) (vs' := [some (.ref (wB w + 55)), some (.int (0 : Int32)), none]) dX10_holding_1 rfl (Nat.le_of_ble_eq_true rfl) (Nat.le_of_ble_eq_true rfl) rfl ?_
  refine V_iconst (pc := 2) dX10_holding_2 ic_0 ?_
  refine V_istore_n (pc := 3) (vs' := [some (.ref (wB w + 55)), some (.int (0 : Int32)), some (.int (0 : Int32))]) dX10_holding_3 rfl (Nat.le_of_ble_eq_true rfl) (Nat.le_of_ble_eq_true rfl) rfl ?_
  exact hL4 n ((0 : Int32), (0 : Int32))
