def m_X12_look : MD := (yX12_look, cX12_look, 7, (some .int), 4, 200, 0, 0)
def m_X12_stepsBy : MD := (yX12_stepsBy, cX12_stepsBy, 6, (some .int), 2, 42, 0, 0)
def m_X12_wayOf : MD := (yX12_wayOf, cX12_wayOf, 3, (some .int), 4, 200, 0, 0)
def m_X12_way : MD := (yX12_way, cX12_way, 4, (some .int), 5, 222, 0, 0)
def m_X12_unseen : MD := (yX12_unseen, cX12_unseen, 7, (some .int), 5, 222, 0, 0)
def m_X12_trappedIn : MD := (yX12_trappedIn, cX12_trappedIn, 5, (some .int), 4, 87, 0, 0)
def m_X12_trap : MD := (yX12_trap, cX12_trap, 5, (some .int), 5, 111, 0, 0)
def m_X12_oath : MD := (yX12_oath, cX12_oath, 3, (some .boolean), 2, 43, 0, 0)
def m_X12_shortest : MD := (yX12_shortest, cX12_shortest, 2, (some .int), 2, 43, 0, 0)
def m_X12_alibi : MD := (yX12_alibi, cX12_alibi, 4, (some .int), 2, 43, 0, 0)
def m_X12_oddsOf : MD := (yX12_oddsOf, cX12_oddsOf, 3, (some .int), 5, 225, 0, 0)
def m_X12_odds : MD := (yX12_odds, cX12_odds, 3, (some .int), 6, 247, 0, 0)
def m_X12_suspectedOfAll : MD := (yX12_suspectedOfAll, cX12_suspectedOfAll, 3, (some .int), 2, 43, 0, 0)
def m_X12_trial : MD := (yX12_trial, cX12_trial, 5, (some .int), 9, 272, 0, 0)
def m_X12_span : MD := (yX12_span, cX12_span, 7, (some .int), 9, 272, 0, 0)
def m_X12_ofLog : MD := (yX12_ofLog, cX12_ofLog, 3, (some .int), 0, 0, 0, 0)
def m_X12_led : MD := (yX12_led, cX12_led, 6, (some .int), 2, 43, 0, 0)
def m_X12_log : MD := (yX12_log, cX12_log, 3, (some .int), 1, 22, 0, 0)
def m_X12_seed : MD := (yX12_seed, cX12_seed, 3, (some .int), 0, 0, 0, 0)
def m_X12_pairsWed : MD := (yX12_pairsWed, cX12_pairsWed, 3, (some .int), 2, 43, 0, 0)
theorem wm_X12_stepsBy : wmp m_X12_stepsBy 3 := ⟨gx 2081 (by decide +kernel) (by decide +kernel), gx 120 (by decide +kernel) (by decide +kernel), gx 138 (by decide +kernel) (by decide +kernel), gx 2082 (by decide +kernel) (by decide +kernel), by decide +kernel, by decide +kernel, by decide +kernel⟩
theorem cw_X12_418 : cwp RX12 418 m_X12_stepsBy 3 := cwp_of wm_X12_stepsBy (gx 2079 (by decide +kernel) (by decide +kernel))
theorem wm_X12_wayOf : wmp m_X12_wayOf 2 := ⟨gx 2077 (by decide +kernel) (by decide +kernel), gx 119 (by decide +kernel) (by decide +kernel), gx 138 (by decide +kernel) (by decide +kernel), gx 2078 (by decide +kernel) (by decide +kernel), by decide +kernel, by decide +kernel, by decide +kernel⟩
theorem cw_X12_422 : cwp RX12 422 m_X12_wayOf 2 := cwp_of wm_X12_wayOf (gx 2075 (by decide +kernel) (by decide +kernel))
theorem wm_X12_trappedIn : wmp m_X12_trappedIn 1 := ⟨gx 2093 (by decide +kernel) (by decide +kernel), gx 121 (by decide +kernel) (by decide +kernel), gx 138 (by decide +kernel) (by decide +kernel), gx 2094 (by decide +kernel) (by decide +kernel), by decide +kernel, by decide +kernel, by decide +kernel⟩
theorem cw_X12_425 : cwp RX12 425 m_X12_trappedIn 1 := cwp_of wm_X12_trappedIn (gx 2091 (by decide +kernel) (by decide +kernel))
theorem wm_X12_oddsOf : wmp m_X12_oddsOf 1 := ⟨gx 2113 (by decide +kernel) (by decide +kernel), gx 122 (by decide +kernel) (by decide +kernel), gx 138 (by decide +kernel) (by decide +kernel), gx 2114 (by decide +kernel) (by decide +kernel), by decide +kernel, by decide +kernel, by decide +kernel⟩
theorem cw_X12_428 : cwp RX12 428 m_X12_oddsOf 1 := cwp_of wm_X12_oddsOf (gx 2111 (by decide +kernel) (by decide +kernel))
theorem wm_X12_suspectedOfAll : wmp m_X12_suspectedOfAll 0 := ⟨gx 2121 (by decide +kernel) (by decide +kernel), gx 123 (by decide +kernel) (by decide +kernel), gx 138 (by decide +kernel) (by decide +kernel), gx 2122 (by decide +kernel) (by decide +kernel), by decide +kernel, by decide +kernel, by decide +kernel⟩
theorem cw_X12_431 : cwp RX12 431 m_X12_suspectedOfAll 0 := cwp_of wm_X12_suspectedOfAll (gx 2119 (by decide +kernel) (by decide +kernel))
theorem wm_X12_ofLog : wmp m_X12_ofLog 2 := ⟨gx 2133 (by decide +kernel) (by decide +kernel), gx 124 (by decide +kernel) (by decide +kernel), gx 138 (by decide +kernel) (by decide +kernel), gx 2134 (by decide +kernel) (by decide +kernel), by decide +kernel, by decide +kernel, by decide +kernel⟩
theorem cw_X12_434 : cwp RX12 434 m_X12_ofLog 2 := cwp_of wm_X12_ofLog (gx 2131 (by decide +kernel) (by decide +kernel))
def J_X12_look_124 (n : Nat) (v1 : Int32) (v2 : Int32) (v3 : Int32) (σ : MS) : Option ((Int32 × Int32 × Int32) ⊕ (Int32 × MS)) := some (.inl (v1, v2, (v3 + (1 : Int32))))
def J_X12_look_86 (n : Nat) (v1 : Int32) (v2 : Int32) (v3 : Int32) (v4 : Int32) (v5 : Int32) (v6 : Int32) (σ : MS) : Option ((Int32 × Int32 × Int32) ⊕ ((Int32 × Int32 × Int32) ⊕ (Int32 × MS))) := some (.inl (v4, v5, (v6 + (1 : Int32))))
def L_X12_look_51 (n : Nat) (v1 : Int32) (v2 : Int32) (v3 : Int32) (σ : MS) (a51 : Int32 × Int32 × Int32) : Option ((Int32 × Int32 × Int32) ⊕ ((Int32 × Int32 × Int32) ⊕ (Int32 × MS))) := ((f_X12_everybody  σ).bind (fun q54 => (if q54 < a51.2.2 then ((if a51.1 < (2 : Int32) then J_X12_look_124 n v1 v2 v3 σ else (if (mxI a51.2.1 (a51.1 - a51.2.1)) < v2 then J_X12_look_124 n v3 (mxI a51.2.1 (a51.1 - a51.2.1)) v3 σ else J_X12_look_124 n v1 v2 v3 σ))).map Sum.inr else ((f_X12_fits n a51.2.2 σ).bind (fun q63 => (if q63 = 0 then J_X12_look_86 n v1 v2 v3 a51.1 a51.2.1 a51.2.2 σ else J_X12_look_86 n v1 v2 v3 (a51.1 + (1 : Int32)) (a51.2.1 + ((shrI a51.2.2 v3) &&& (1 : Int32))) a51.2.2 σ))))))
def L_X12_look_34 (n : Nat)  (σ : MS) (a34 : Int32 × Int32 × Int32) : Option ((Int32 × Int32 × Int32) ⊕ (Int32 × MS)) := ((f_X12_people  σ).bind (fun q36 => (if q36 ≤ a34.2.2 then (some (a34.1, σ)).map Sum.inr else itr (L_X12_look_51 n a34.1 a34.2.1 a34.2.2 σ) n ((0 : Int32), (0 : Int32), (0 : Int32)))))
def J_X12_look_17 (n : Nat) (t0 : Int32) (σ : MS) : Option (Int32 × MS) := ((f_X12_throwsIf t0 (1 : Int32) σ).bind (fun q18 => (if q18.1 = 0 then itr (L_X12_look_34 n  q18.2) n ((-1 : Int32), (1000000 : Int32), (0 : Int32)) else some ((0 : Int32), q18.2))))
def f_X12_look (n : Nat)  (σ : MS) : Option (Int32 × MS) := ((f_X12_uses  σ).bind (fun q1 => ((f_X12_isTold n  q1.2).bind (fun q6 => (if q6 = 0 then J_X12_look_17 n (1 : Int32) q1.2 else J_X12_look_17 n (0 : Int32) q1.2)))))
set_option maxRecDepth 20000 in
set_option maxHeartbeats 2000000 in
theorem c_X12_look (w : TG) (n : Nat)  (σ : MS) : MC m_X12_look w [.ref (wB w + 171)] σ (f_X12_look n  σ) := by
  refine V_meth (by decide +kernel) (Nat.le_of_ble_eq_true rfl) (by intro v hv; simp only [List.mem_cons, List.not_mem_nil, or_false] at hv; subst hv; rfl) (fun g x => ?_)
  show VV m_X12_look w g 0 0 (QM m_X12_look w g x) (fun b : Int32 × MS => b = x) 0 [some (.ref (wB w + 171)), none, none, none, none, none, none] [] σ (f_X12_look n  σ)
  have hL34 : ∀ (σ : MS) (n0 : Nat) (a : Int32 × Int32 × Int32), VV m_X12_look w g 0 0 (QM m_X12_look w g x) (fun b : Int32 × MS => b = x) 34 [some (.ref (wB w + 171)), some (.int a.1), some (.int a.2.1), some (.int a.2.2), none, none, none] [] σ (itr (L_X12_look_34 n  σ) n0 a) := by
    intro σ
    refine V_itr (vf := fun a : Int32 × Int32 × Int32 => [some (.ref (wB w + 171)), some (.int a.1), some (.int a.2.1), some (.int a.2.2), none, none, none]) (sf := fun a : Int32 × Int32 × Int32 => σ) (fun κ34 b34 r34 a34 => ?_)
    obtain ⟨a34_1, a34_2, a34_3⟩ := a34
    show VV m_X12_look w g 0 0 (QM m_X12_look w g x) κ34 34 [some (.ref (wB w + 171)), some (.int a34_1), some (.int a34_2), some (.int a34_3), none, none, none] [] σ (L_X12_look_34 n  σ (a34_1, a34_2, a34_3))
    have hJ124 : ∀ (v1 : Int32) (v2 : Int32) (v3 : Int32), VV m_X12_look w g 0 0 (QM m_X12_look w g x) κ34 124 [some (.ref (wB w + 171)), some (.int v1), some (.int v2), some (.int v3), none, none, none] [] σ (J_X12_look_124 n v1 v2 v3 σ) := by
      intro v1 v2 v3
      refine V_iincC (pc := 124) (vs' := [some (.ref (wB w + 171)), some (.int v1), some (.int v2), some (.int (v3 + (1 : Int32))), none, none, none]) dX12_look_124 (Nat.le_of_ble_eq_true rfl) rfl ic_1 rfl ?_
      refine V_goto (pc := 127) (tgt := 34) dX12_look_127 (by decide +kernel) ?_
      exact V_back (b34 (v1, v2, (v3 + (1 : Int32))))
    have hL51 : ∀ (v1 : Int32) (v2 : Int32) (v3 : Int32) (n0 : Nat) (a : Int32 × Int32 × Int32), VV m_X12_look w g 0 0 (QM m_X12_look w g x) κ34 51 [some (.ref (wB w + 171)), some (.int v1), some (.int v2), some (.int v3), some (.int a.1), some (.int a.2.1), some (.int a.2.2)] [] σ (itr (L_X12_look_51 n v1 v2 v3 σ) n0 a) := by
      intro v1 v2 v3
      refine V_itr (vf := fun a : Int32 × Int32 × Int32 => [some (.ref (wB w + 171)), some (.int v1), some (.int v2), some (.int v3), some (.int a.1), some (.int a.2.1), some (.int a.2.2)]) (sf := fun a : Int32 × Int32 × Int32 => σ) (fun κ51 b51 r51 a51 => ?_)
      obtain ⟨a51_1, a51_2, a51_3⟩ := a51
      show VV m_X12_look w g 0 0 (QM m_X12_look w g x) κ51 51 [some (.ref (wB w + 171)), some (.int v1), some (.int v2), some (.int v3), some (.int a51_1), some (.int a51_2), some (.int a51_3)] [] σ (L_X12_look_51 n v1 v2 v3 σ (a51_1, a51_2, a51_3))
      have hJ86 : ∀ (v4 : Int32) (v5 : Int32) (v6 : Int32), VV m_X12_look w g 0 0 (QM m_X12_look w g x) κ51 86 [some (.ref (wB w + 171)), some (.int v1), some (.int v2), some (.int v3), some (.int v4), some (.int v5), some (.int v6)] [] σ (J_X12_look_86 n v1 v2 v3 v4 v5 v6 σ) := by
        intro v4 v5 v6
        refine V_iincC (pc := 86) (vs' := [some (.ref (wB w + 171)), some (.int v1), some (.int v2), some (.int v3), some (.int v4), some (.int v5), some (.int (v6 + (1 : Int32)))]) dX12_look_86 (Nat.le_of_ble_eq_true rfl) rfl ic_1 rfl ?_
        refine V_goto (pc := 89) (tgt := 51) dX12_look_89 (by decide +kernel) ?_
        exact V_back (b51 (v4, v5, (v6 + (1 : Int32))))
      refine V_iload (pc := 51) dX12_look_51 rfl ?_
      refine V_aload_n (pc := 53) dX12_look_53 rfl rfl ?_
      refine V_callVpi (pc := 54) (As := []) (rest := [.int a51_3]) (c_X12_everybody w  σ) cw_X12_327 rfl rfl dX12_look_54 kc_171 ci_12 ⟨Nat.le_of_ble_eq_true rfl, Nat.le_of_ble_eq_true rfl⟩ rfl rfl (Nat.le_of_ble_eq_true rfl) (Nat.le_of_ble_eq_true rfl) (Nat.le_of_ble_eq_true rfl) rfl (fun q54 => ?_)
      refine V_icmp_gt (pc := 57) (tgt := 92) dX12_look_57 (by decide +kernel) ?_ ?_
      · refine V_exit r51 ?_
        refine V_iload (pc := 92) dX12_look_92 rfl ?_
        refine V_iload (pc := 94) dX12_look_94 rfl ?_
        refine V_iload (pc := 96) dX12_look_96 rfl ?_
        refine V_isub (pc := 98) dX12_look_98 ?_
        refine V_mmax (pc := 99) dX12_look_99 rfl mw_X12_288 (Nat.le_of_ble_eq_true rfl) (Nat.le_of_ble_eq_true rfl) (Nat.le_of_ble_eq_true rfl) (Nat.le_of_ble_eq_true rfl) ?_
        refine V_istore (pc := 102) (vs' := [some (.ref (wB w + 171)), some (.int v1), some (.int v2), some (.int v3), some (.int a51_1), some (.int a51_2), some (.int (mxI a51_2 (a51_1 - a51_2)))]) dX12_look_102 (Nat.le_of_ble_eq_true rfl) (Nat.le_of_ble_eq_true rfl) rfl ?_
        refine V_iload (pc := 104) dX12_look_104 rfl ?_
        refine V_iconst (pc := 106) dX12_look_106 ic_2 ?_
        refine V_icmp_lt (pc := 107) (tgt := 124) dX12_look_107 (by decide +kernel) ?_ ?_
        · refine V_sub (vs' := [some (.ref (wB w + 171)), some (.int v1), some (.int v2), some (.int v3), none, none, none]) (show vless _ _ from ⟨rfl, ⟨rfl, ⟨rfl, ⟨rfl, trivial⟩⟩⟩⟩) rfl ?_
          exact hJ124 v1 v2 v3
        · refine V_iload (pc := 110) dX12_look_110 rfl ?_
          refine V_iload_n (pc := 112) dX12_look_112 rfl rfl ?_
          refine V_icmp_lt (pc := 113) (tgt := 119) dX12_look_113 (by decide +kernel) ?_ ?_
          · refine V_iload_n (pc := 119) dX12_look_119 rfl rfl ?_
            refine V_istore_n (pc := 120) (vs' := [some (.ref (wB w + 171)), some (.int v3), some (.int v2), some (.int v3), some (.int a51_1), some (.int a51_2), some (.int (mxI a51_2 (a51_1 - a51_2)))]) dX12_look_120 rfl (Nat.le_of_ble_eq_true rfl) (Nat.le_of_ble_eq_true rfl) rfl ?_
            refine V_iload (pc := 121) dX12_look_121 rfl ?_
            refine V_istore_n (pc := 123) (vs' := [some (.ref (wB w + 171)), some (.int v3), some (.int (mxI a51_2 (a51_1 - a51_2))), some (.int v3), some (.int a51_1), some (.int a51_2), some (.int (mxI a51_2 (a51_1 - a51_2)))]) dX12_look_123 rfl (Nat.le_of_ble_eq_true rfl) (Nat.le_of_ble_eq_true rfl) rfl ?_
            refine V_sub (vs' := [some (.ref (wB w + 171)), some (.int v3), some (.int (mxI a51_2 (a51_1 - a51_2))), some (.int v3), none, none, none]) (show vless _ _ from ⟨rfl, ⟨rfl, ⟨rfl, ⟨rfl, trivial⟩⟩⟩⟩) rfl ?_
            exact hJ124 v3 (mxI a51_2 (a51_1 - a51_2)) v3
          · refine V_goto (pc := 116) (tgt := 124) dX12_look_116 (by decide +kernel) ?_
            refine V_sub (vs' := [some (.ref (wB w + 171)), some (.int v1), some (.int v2), some (.int v3), none, none, none]) (show vless _ _ from ⟨rfl, ⟨rfl, ⟨rfl, ⟨rfl, trivial⟩⟩⟩⟩) rfl ?_
            exact hJ124 v1 v2 v3
      · refine V_aload_n (pc := 60) dX12_look_60 rfl rfl ?_
        refine V_iload (pc := 61) dX12_look_61 rfl ?_
        refine V_callVpi (pc := 63) (As := [.int a51_3]) (rest := []) (c_X12_fits w n a51_3 σ) cw_X12_415 rfl rfl dX12_look_63 kc_171 ci_12 ⟨Nat.le_of_ble_eq_true rfl, Nat.le_of_ble_eq_true rfl⟩ rfl rfl (Nat.le_of_ble_eq_true rfl) (Nat.le_of_ble_eq_true rfl) (Nat.le_of_ble_eq_true rfl) rfl (fun q63 => ?_)
        refine V_if_ne (pc := 66) (tgt := 72) dX12_look_66 (by decide +kernel) ?_ ?_
        · refine V_iincC (pc := 72) (vs' := [some (.ref (wB w + 171)), some (.int v1), some (.int v2), some (.int v3), some (.int (a51_1 + (1 : Int32))), some (.int a51_2), some (.int a51_3)]) dX12_look_72 (Nat.le_of_ble_eq_true rfl) rfl ic_1 rfl ?_
          refine V_iload (pc := 75) dX12_look_75 rfl ?_
          refine V_iload (pc := 77) dX12_look_77 rfl ?_
          refine V_iload_n (pc := 79) dX12_look_79 rfl rfl ?_
          refine V_ishr (pc := 80) dX12_look_80 ?_
          refine V_iconst (pc := 81) dX12_look_81 ic_1 ?_
          refine V_iand (pc := 82) dX12_look_82 ?_
          refine V_iadd (pc := 83) dX12_look_83 ?_
          refine V_istore (pc := 84) (vs' := [some (.ref (wB w + 171)), some (.int v1), some (.int v2), some (.int v3), some (.int (a51_1 + (1 : Int32))), some (.int (a51_2 + ((shrI a51_3 v3) &&& (1 : Int32)))), some (.int a51_3)]) dX12_look_84 (Nat.le_of_ble_eq_true rfl) (Nat.le_of_ble_eq_true rfl) rfl ?_
          exact hJ86 (a51_1 + (1 : Int32)) (a51_2 + ((shrI a51_3 v3) &&& (1 : Int32))) a51_3
        · refine V_goto (pc := 69) (tgt := 86) dX12_look_69 (by decide +kernel) ?_
          exact hJ86 a51_1 a51_2 a51_3
    refine V_iload_n (pc := 34) dX12_look_34 rfl rfl ?_
    refine V_aload_n (pc := 35) dX12_look_35 rfl rfl ?_
    refine V_callVpi (pc := 36) (As := []) (rest := [.int a34_3]) (c_X12_people w  σ) cw_X12_58 rfl rfl dX12_look_36 kc_171 ci_12 ⟨Nat.le_of_ble_eq_true rfl, Nat.le_of_ble_eq_true rfl⟩ rfl rfl (Nat.le_of_ble_eq_true rfl) (Nat.le_of_ble_eq_true rfl) (Nat.le_of_ble_eq_true rfl) rfl (fun q36 => ?_)
    refine V_icmp_ge (pc := 39) (tgt := 130) dX12_look_39 (by decide +kernel) ?_ ?_
    · refine V_exit r34 ?_
      refine V_iload_n (pc := 130) dX12_look_130 rfl rfl ?_
      exact V_ireti (pc := 131) dX12_look_131 rfl (hk := fun h => h)
    · refine V_iconst (pc := 42) dX12_look_42 ic_0 ?_
      refine V_istore (pc := 43) (vs' := [some (.ref (wB w + 171)), some (.int a34_1), some (.int a34_2), some (.int a34_3), some (.int (0 : Int32)), none, none]) dX12_look_43 (Nat.le_of_ble_eq_true rfl) (Nat.le_of_ble_eq_true rfl) rfl ?_
      refine V_iconst (pc := 45) dX12_look_45 ic_0 ?_
      refine V_istore (pc := 46) (vs' := [some (.ref (wB w + 171)), some (.int a34_1), some (.int a34_2), some (.int a34_3), some (.int (0 : Int32)), some (.int (0 : Int32)), none]) dX12_look_46 (Nat.le_of_ble_eq_true rfl) (Nat.le_of_ble_eq_true rfl) rfl ?_
      refine V_iconst (pc := 48) dX12_look_48 ic_0 ?_
      refine V_istore (pc := 49) (vs' := [some (.ref (wB w + 171)), some (.int a34_1), some (.int a34_2), some (.int a34_3), some (.int (0 : Int32)), some (.int (0 : Int32)), some (.int (0 : Int32))]) dX12_look_49 (Nat.le_of_ble_eq_true rfl) (Nat.le_of_ble_eq_true rfl) rfl ?_
      exact hL51 a34_1 a34_2 a34_3 n ((0 : Int32), (0 : Int32), (0 : Int32))
  have hJ17 : ∀ (t0 : Int32) (σ : MS), VV m_X12_look w g 0 0 (QM m_X12_look w g x) (fun b : Int32 × MS => b = x) 17 [some (.ref (wB w + 171)), none, none, none, none, none, none] [.int t0, .ref (wB w + 171)] σ (J_X12_look_17 n t0 σ) := by
    intro t0 σ
    refine V_iconst (pc := 17) dX12_look_17 ic_1 ?_
    refine V_callVi (pc := 18) (As := [.int t0, .int (1 : Int32)]) (rest := []) (c_X12_throwsIf w t0 (1 : Int32) σ) cw_X12_257 rfl rfl dX12_look_18 kc_171 ci_12 ⟨Nat.le_of_ble_eq_true rfl, Nat.le_of_ble_eq_true rfl⟩ rfl rfl (Nat.le_of_ble_eq_true rfl) (Nat.le_of_ble_eq_true rfl) (Nat.le_of_ble_eq_true rfl) rfl (fun q18 => ?_)
    refine V_if_eq (pc := 21) (tgt := 26) dX12_look_21 (by decide +kernel) ?_ ?_
    · refine V_iconst (pc := 26) dX12_look_26 ic_m1 ?_
      refine V_istore_n (pc := 27) (vs' := [some (.ref (wB w + 171)), some (.int (-1 : Int32)), none, none, none, none, none]) dX12_look_27 rfl (Nat.le_of_ble_eq_true rfl) (Nat.le_of_ble_eq_true rfl) rfl ?_
      refine V_ldcw (pc := 28) (v := (1000000 : Int32)) dX12_look_28 rfl ld_X12_375 ?_
      refine V_istore_n (pc := 31) (vs' := [some (.ref (wB w + 171)), some (.int (-1 : Int32)), some (.int (1000000 : Int32)), none, none, none, none]) dX12_look_31 rfl (Nat.le_of_ble_eq_true rfl) (Nat.le_of_ble_eq_true rfl) rfl ?_
      refine V_iconst (pc := 32) dX12_look_32 ic_0 ?_
      refine V_istore_n (pc := 33) (vs' := [some (.ref (wB w + 171)), some (.int (-1 : Int32)), some (.int (1000000 : Int32)), some (.int (0 : Int32)), none, none, none]) dX12_look_33 rfl (Nat.le_of_ble_eq_true rfl) (Nat.le_of_ble_eq_true rfl) rfl ?_
      exact hL34 q18.2 n ((-1 : Int32), (1000000 : Int32), (0 : Int32))
    · refine V_iconst (pc := 24) dX12_look_24 ic_0 ?_
      exact V_ireti (pc := 25) dX12_look_25 rfl (hk := fun h => h)
  refine V_aload_n (pc := 0) dX12_look_0 rfl rfl ?_
  refine V_callVv (pc := 1) (As := []) (rest := []) (c_X12_uses w  σ) cw_X12_246 rfl rfl dX12_look_1 kc_171 ci_12 ⟨Nat.le_of_ble_eq_true rfl, Nat.le_of_ble_eq_true rfl⟩ rfl rfl (Nat.le_of_ble_eq_true rfl) (Nat.le_of_ble_eq_true rfl) (Nat.le_of_ble_eq_true rfl) rfl (fun q1 => ?_)
  refine V_aload_n (pc := 4) dX12_look_4 rfl rfl ?_
  refine V_aload_n (pc := 5) dX12_look_5 rfl rfl ?_
  refine V_callVpi (pc := 6) (As := []) (rest := [.ref (wB w + 171)]) (c_X12_isTold w n  q1.2) cw_X12_412 rfl rfl dX12_look_6 kc_171 ci_12 ⟨Nat.le_of_ble_eq_true rfl, Nat.le_of_ble_eq_true rfl⟩ rfl rfl (Nat.le_of_ble_eq_true rfl) (Nat.le_of_ble_eq_true rfl) (Nat.le_of_ble_eq_true rfl) rfl (fun q6 => ?_)
  refine V_if_ne (pc := 9) (tgt := 16) dX12_look_9 (by decide +kernel) ?_ ?_
  · refine V_iconst (pc := 16) dX12_look_16 ic_0 ?_
    exact hJ17 (0 : Int32) q1.2
  · refine V_iconst (pc := 12) dX12_look_12 ic_1 ?_
    refine V_goto (pc := 13) (tgt := 17) dX12_look_13 (by decide +kernel) ?_
    exact hJ17 (1 : Int32) q1.2
def L_X12_stepsBy_6 (n : Nat) (v2 : Int32) (v3 : Int32) (σ : MS) (a6 : Int32 × Int32) : Option ((Int32 × Int32) ⊕ (Int32)) := (if a6.2 = v2 then (some a6.1).map Sum.inr else ((f_X12_hasFlour (remI (a6.2 + v3) (6 : Int32)) σ).bind (fun q24 => (if q24 = 0 then some (.inl ((a6.1 + (1 : Int32)), (remI (a6.2 + v3) (6 : Int32)))) else (some (1000000 : Int32)).map Sum.inr))))
def f_X12_stepsBy (n : Nat) (p1 : Int32) (p2 : Int32) (p3 : Int32) (σ : MS) : Option (Int32) := itr (L_X12_stepsBy_6 n p2 p3 σ) n ((0 : Int32), p1)
set_option maxRecDepth 20000 in
set_option maxHeartbeats 2000000 in
theorem c_X12_stepsBy (w : TG) (n : Nat) (p1 : Int32) (p2 : Int32) (p3 : Int32) (σ : MS) : MC m_X12_stepsBy w [.ref (wB w + 171), .int p1, .int p2, .int p3] σ ((f_X12_stepsBy n p1 p2 p3 σ).map (fun r => (r, σ))) := by
  refine V_methp (by decide +kernel) (Nat.le_of_ble_eq_true rfl) (by intro v hv; simp only [List.mem_cons, List.not_mem_nil, or_false] at hv; rcases hv with rfl | rfl | rfl | rfl <;> rfl) (fun g x => ?_)
  show VV m_X12_stepsBy w g 0 0 (QM m_X12_stepsBy w g x) (fun b : Int32 => (b, σ) = x) 0 [some (.ref (wB w + 171)), some (.int p1), some (.int p2), some (.int p3), none, none] [] σ (f_X12_stepsBy n p1 p2 p3 σ)
  have hL6 : ∀  (n0 : Nat) (a : Int32 × Int32), VV m_X12_stepsBy w g 0 0 (QM m_X12_stepsBy w g x) (fun b : Int32 => (b, σ) = x) 6 [some (.ref (wB w + 171)), none, some (.int p2), some (.int p3), some (.int a.1), some (.int a.2)] [] σ (itr (L_X12_stepsBy_6 n p2 p3 σ) n0 a) := by
    refine V_itr (vf := fun a : Int32 × Int32 => [some (.ref (wB w + 171)), none, some (.int p2), some (.int p3), some (.int a.1), some (.int a.2)]) (sf := fun a : Int32 × Int32 => σ) (fun κ6 b6 r6 a6 => ?_)
    obtain ⟨a6_1, a6_2⟩ := a6
    show VV m_X12_stepsBy w g 0 0 (QM m_X12_stepsBy w g x) κ6 6 [some (.ref (wB w + 171)), none, some (.int p2), some (.int p3), some (.int a6_1), some (.int a6_2)] [] σ (L_X12_stepsBy_6 n p2 p3 σ (a6_1, a6_2))
    refine V_iload (pc := 6) dX12_stepsBy_6 rfl ?_
    refine V_iload_n (pc := 8) dX12_stepsBy_8 rfl rfl ?_
    refine V_icmp_eq (pc := 9) (tgt := 40) dX12_stepsBy_9 (by decide +kernel) ?_ ?_
    · refine V_exit r6 ?_
      refine V_iload (pc := 40) dX12_stepsBy_40 rfl ?_
      exact V_ireti (pc := 42) dX12_stepsBy_42 rfl (hk := fun h => h)
    · refine V_iload (pc := 12) dX12_stepsBy_12 rfl ?_
      refine V_iload_n (pc := 14) dX12_stepsBy_14 rfl rfl ?_
      refine V_iadd (pc := 15) dX12_stepsBy_15 ?_
      refine V_bipush (pc := 16) dX12_stepsBy_16 bp_6 ?_
      refine V_irem (pc := 18) dX12_stepsBy_18 (by decide +kernel) ?_
      refine V_istore (pc := 19) (vs' := [some (.ref (wB w + 171)), none, some (.int p2), some (.int p3), some (.int a6_1), some (.int (remI (a6_2 + p3) (6 : Int32)))]) dX12_stepsBy_19 (Nat.le_of_ble_eq_true rfl) (Nat.le_of_ble_eq_true rfl) rfl ?_
      refine V_aload_n (pc := 21) dX12_stepsBy_21 rfl rfl ?_
      refine V_iload (pc := 22) dX12_stepsBy_22 rfl ?_
      refine V_callVpi (pc := 24) (As := [.int (remI (a6_2 + p3) (6 : Int32))]) (rest := []) (c_X12_hasFlour w (remI (a6_2 + p3) (6 : Int32)) σ) cw_X12_397 rfl rfl dX12_stepsBy_24 kc_171 ci_12 ⟨Nat.le_of_ble_eq_true rfl, Nat.le_of_ble_eq_true rfl⟩ rfl rfl (Nat.le_of_ble_eq_true rfl) (Nat.le_of_ble_eq_true rfl) (Nat.le_of_ble_eq_true rfl) rfl (fun q24 => ?_)
      refine V_if_eq (pc := 27) (tgt := 34) dX12_stepsBy_27 (by decide +kernel) ?_ ?_
      · refine V_iincC (pc := 34) (vs' := [some (.ref (wB w + 171)), none, some (.int p2), some (.int p3), some (.int (a6_1 + (1 : Int32))), some (.int (remI (a6_2 + p3) (6 : Int32)))]) dX12_stepsBy_34 (Nat.le_of_ble_eq_true rfl) rfl ic_1 rfl ?_
        refine V_goto (pc := 37) (tgt := 6) dX12_stepsBy_37 (by decide +kernel) ?_
        exact V_back (b6 ((a6_1 + (1 : Int32)), (remI (a6_2 + p3) (6 : Int32))))
      · refine V_exit r6 ?_
        refine V_ldcw (pc := 30) (v := (1000000 : Int32)) dX12_stepsBy_30 rfl ld_X12_375 ?_
        exact V_ireti (pc := 33) dX12_stepsBy_33 rfl (hk := fun h => h)
  refine V_iconst (pc := 0) dX12_stepsBy_0 ic_0 ?_
  refine V_istore (pc := 1) (vs' := [some (.ref (wB w + 171)), some (.int p1), some (.int p2), some (.int p3), some (.int (0 : Int32)), none]) dX12_stepsBy_1 (Nat.le_of_ble_eq_true rfl) (Nat.le_of_ble_eq_true rfl) rfl ?_
  refine V_iload_n (pc := 3) dX12_stepsBy_3 rfl rfl ?_
  refine V_istore (pc := 4) (vs' := [some (.ref (wB w + 171)), some (.int p1), some (.int p2), some (.int p3), some (.int (0 : Int32)), some (.int p1)]) dX12_stepsBy_4 (Nat.le_of_ble_eq_true rfl) (Nat.le_of_ble_eq_true rfl) rfl ?_
  refine V_sub (vs' := [some (.ref (wB w + 171)), none, some (.int p2), some (.int p3), some (.int (0 : Int32)), some (.int p1)]) (show vless _ _ from ⟨rfl, ⟨rfl, ⟨rfl, ⟨rfl, ⟨rfl, trivial⟩⟩⟩⟩⟩) rfl ?_
  exact hL6 n ((0 : Int32), p1)
def f_X12_wayOf (n : Nat) (p1 : Int32) (p2 : Int32) (σ : MS) : Option (Int32) := ((f_X12_of p1 (0 : Int32) σ).bind (fun q4 => ((f_X12_stepsBy n q4 p2 (1 : Int32) σ).bind (fun q9 => ((f_X12_of p1 (0 : Int32) σ).bind (fun q16 => ((f_X12_stepsBy n q16 p2 (5 : Int32) σ).bind (fun q21 => some (mnI q9 q21)))))))))
set_option maxRecDepth 20000 in
set_option maxHeartbeats 2000000 in
theorem c_X12_wayOf (w : TG) (n : Nat) (p1 : Int32) (p2 : Int32) (σ : MS) : MC m_X12_wayOf w [.ref (wB w + 171), .int p1, .int p2] σ ((f_X12_wayOf n p1 p2 σ).map (fun r => (r, σ))) := by
  refine V_methp (by decide +kernel) (Nat.le_of_ble_eq_true rfl) (by intro v hv; simp only [List.mem_cons, List.not_mem_nil, or_false] at hv; rcases hv with rfl | rfl | rfl <;> rfl) (fun g x => ?_)
  show VV m_X12_wayOf w g 0 0 (QM m_X12_wayOf w g x) (fun b : Int32 => (b, σ) = x) 0 [some (.ref (wB w + 171)), some (.int p1), some (.int p2)] [] σ (f_X12_wayOf n p1 p2 σ)
  refine V_aload_n (pc := 0) dX12_wayOf_0 rfl rfl ?_
  refine V_aload_n (pc := 1) dX12_wayOf_1 rfl rfl ?_
  refine V_iload_n (pc := 2) dX12_wayOf_2 rfl rfl ?_
  refine V_iconst (pc := 3) dX12_wayOf_3 ic_0 ?_
  refine V_callVpi (pc := 4) (As := [.int p1, .int (0 : Int32)]) (rest := [.ref (wB w + 171)]) (c_X12_of w p1 (0 : Int32) σ) cw_X12_73 rfl rfl dX12_wayOf_4 kc_171 ci_12 ⟨Nat.le_of_ble_eq_true rfl, Nat.le_of_ble_eq_true rfl⟩ rfl rfl (Nat.le_of_ble_eq_true rfl) (Nat.le_of_ble_eq_true rfl) (Nat.le_of_ble_eq_true rfl) rfl (fun q4 => ?_)
  refine V_iload_n (pc := 7) dX12_wayOf_7 rfl rfl ?_
  refine V_iconst (pc := 8) dX12_wayOf_8 ic_1 ?_
  refine V_callVpi (pc := 9) (As := [.int q4, .int p2, .int (1 : Int32)]) (rest := []) (c_X12_stepsBy w n q4 p2 (1 : Int32) σ) cw_X12_418 rfl rfl dX12_wayOf_9 kc_171 ci_12 ⟨Nat.le_of_ble_eq_true rfl, Nat.le_of_ble_eq_true rfl⟩ rfl rfl (Nat.le_of_ble_eq_true rfl) (Nat.le_of_ble_eq_true rfl) (Nat.le_of_ble_eq_true rfl) rfl (fun q9 => ?_)
  refine V_aload_n (pc := 12) dX12_wayOf_12 rfl rfl ?_
  refine V_aload_n (pc := 13) dX12_wayOf_13 rfl rfl ?_
  refine V_iload_n (pc := 14) dX12_wayOf_14 rfl rfl ?_
  refine V_iconst (pc := 15) dX12_wayOf_15 ic_0 ?_
  refine V_callVpi (pc := 16) (As := [.int p1, .int (0 : Int32)]) (rest := [.ref (wB w + 171), .int q9]) (c_X12_of w p1 (0 : Int32) σ) cw_X12_73 rfl rfl dX12_wayOf_16 kc_171 ci_12 ⟨Nat.le_of_ble_eq_true rfl, Nat.le_of_ble_eq_true rfl⟩ rfl rfl (Nat.le_of_ble_eq_true rfl) (Nat.le_of_ble_eq_true rfl) (Nat.le_of_ble_eq_true rfl) rfl (fun q16 => ?_)
  refine V_iload_n (pc := 19) dX12_wayOf_19 rfl rfl ?_
  refine V_iconst (pc := 20) dX12_wayOf_20 ic_5 ?_
  refine V_callVpi (pc := 21) (As := [.int q16, .int p2, .int (5 : Int32)]) (rest := [.int q9]) (c_X12_stepsBy w n q16 p2 (5 : Int32) σ) cw_X12_418 rfl rfl dX12_wayOf_21 kc_171 ci_12 ⟨Nat.le_of_ble_eq_true rfl, Nat.le_of_ble_eq_true rfl⟩ rfl rfl (Nat.le_of_ble_eq_true rfl) (Nat.le_of_ble_eq_true rfl) (Nat.le_of_ble_eq_true rfl) rfl (fun q21 => ?_)
  refine V_mmin (pc := 24) dX12_wayOf_24 rfl mw_X12_283 (Nat.le_of_ble_eq_true rfl) (Nat.le_of_ble_eq_true rfl) (Nat.le_of_ble_eq_true rfl) (Nat.le_of_ble_eq_true rfl) ?_
  exact V_ireti (pc := 27) dX12_wayOf_27 rfl (hk := fun h => h)
def J_X12_way_54 (n : Nat) (t0 : Int32) (σ : MS) : Option (Int32 × MS) := some (t0, σ)
def J_X12_way_26 (n : Nat) (v1 : Int32) (v2 : Int32) (t0 : Int32) (σ : MS) : Option (Int32 × MS) := ((f_X12_throwsIf t0 (1 : Int32) σ).bind (fun q27 => (if q27.1 = 0 then ((f_X12_wayOf n v1 v2 q27.2).bind (fun q38 => (if q38 < (1000000 : Int32) then J_X12_way_54 n q38 q27.2 else J_X12_way_54 n (-1 : Int32) q27.2))) else some ((0 : Int32), q27.2))))
def J_X12_way_21 (n : Nat) (v1 : Int32) (v2 : Int32) (σ : MS) : Option (Int32 × MS) := J_X12_way_26 n v1 v2 (1 : Int32) σ
def f_X12_way (n : Nat) (p1 : Int32) (p2 : Int32) (σ : MS) : Option (Int32 × MS) := (ltM (mu σ 171 0 (0 : Int32)) (fun s2 => ((f_X12_noPerson p1 s2).bind (fun q8 => (if q8 = 0 then ((f_X12_noRoom p2 s2).bind (fun q15 => (if q15 = 0 then J_X12_way_26 n p1 p2 (0 : Int32) s2 else J_X12_way_21 n p1 p2 s2))) else J_X12_way_21 n p1 p2 s2)))))
set_option maxRecDepth 20000 in
set_option maxHeartbeats 2000000 in
theorem c_X12_way (w : TG) (n : Nat) (p1 : Int32) (p2 : Int32) (σ : MS) : MC m_X12_way w [.ref (wB w + 171), .int p1, .int p2] σ (f_X12_way n p1 p2 σ) := by
  refine V_meth (by decide +kernel) (Nat.le_of_ble_eq_true rfl) (by intro v hv; simp only [List.mem_cons, List.not_mem_nil, or_false] at hv; rcases hv with rfl | rfl | rfl <;> rfl) (fun g x => ?_)
  show VV m_X12_way w g 0 0 (QM m_X12_way w g x) (fun b : Int32 × MS => b = x) 0 [some (.ref (wB w + 171)), some (.int p1), some (.int p2), none] [] σ (f_X12_way n p1 p2 σ)
  have hJ54 : ∀ (t0 : Int32) (σ : MS), VV m_X12_way w g 0 0 (QM m_X12_way w g x) (fun b : Int32 × MS => b = x) 54 [none, none, none, none] [.int t0] σ (J_X12_way_54 n t0 σ) := by
    intro t0 σ
    exact V_ireti (pc := 54) dX12_way_54 rfl (hk := fun h => h)
  have hJ26 : ∀ (t0 : Int32) (σ : MS), VV m_X12_way w g 0 0 (QM m_X12_way w g x) (fun b : Int32 × MS => b = x) 26 [some (.ref (wB w + 171)), some (.int p1), some (.int p2), none] [.int t0, .ref (wB w + 171)] σ (J_X12_way_26 n p1 p2 t0 σ) := by
    intro t0 σ
    refine V_iconst (pc := 26) dX12_way_26 ic_1 ?_
    refine V_callVi (pc := 27) (As := [.int t0, .int (1 : Int32)]) (rest := []) (c_X12_throwsIf w t0 (1 : Int32) σ) cw_X12_257 rfl rfl dX12_way_27 kc_171 ci_12 ⟨Nat.le_of_ble_eq_true rfl, Nat.le_of_ble_eq_true rfl⟩ rfl rfl (Nat.le_of_ble_eq_true rfl) (Nat.le_of_ble_eq_true rfl) (Nat.le_of_ble_eq_true rfl) rfl (fun q27 => ?_)
    refine V_if_eq (pc := 30) (tgt := 35) dX12_way_30 (by decide +kernel) ?_ ?_
    · refine V_aload_n (pc := 35) dX12_way_35 rfl rfl ?_
      refine V_iload_n (pc := 36) dX12_way_36 rfl rfl ?_
      refine V_iload_n (pc := 37) dX12_way_37 rfl rfl ?_
      refine V_callVpi (pc := 38) (As := [.int p1, .int p2]) (rest := []) (c_X12_wayOf w n p1 p2 q27.2) cw_X12_422 rfl rfl dX12_way_38 kc_171 ci_12 ⟨Nat.le_of_ble_eq_true rfl, Nat.le_of_ble_eq_true rfl⟩ rfl rfl (Nat.le_of_ble_eq_true rfl) (Nat.le_of_ble_eq_true rfl) (Nat.le_of_ble_eq_true rfl) rfl (fun q38 => ?_)
      refine V_istore_n (pc := 41) (vs' := [some (.ref (wB w + 171)), some (.int p1), some (.int p2), some (.int q38)]) dX12_way_41 rfl (Nat.le_of_ble_eq_true rfl) (Nat.le_of_ble_eq_true rfl) rfl ?_
      refine V_iload_n (pc := 42) dX12_way_42 rfl rfl ?_
      refine V_ldcw (pc := 43) (v := (1000000 : Int32)) dX12_way_43 rfl ld_X12_375 ?_
      refine V_icmp_lt (pc := 46) (tgt := 53) dX12_way_46 (by decide +kernel) ?_ ?_
      · refine V_iload_n (pc := 53) dX12_way_53 rfl rfl ?_
        refine V_sub (vs' := [none, none, none, none]) (show vless _ _ from trivial) rfl ?_
        exact hJ54 q38 q27.2
      · refine V_iconst (pc := 49) dX12_way_49 ic_m1 ?_
        refine V_goto (pc := 50) (tgt := 54) dX12_way_50 (by decide +kernel) ?_
        refine V_sub (vs' := [none, none, none, none]) (show vless _ _ from trivial) rfl ?_
        exact hJ54 (-1 : Int32) q27.2
    · refine V_iconst (pc := 33) dX12_way_33 ic_0 ?_
      exact V_ireti (pc := 34) dX12_way_34 rfl (hk := fun h => h)
  have hJ21 : ∀ (σ : MS), VV m_X12_way w g 0 0 (QM m_X12_way w g x) (fun b : Int32 × MS => b = x) 21 [some (.ref (wB w + 171)), some (.int p1), some (.int p2), none] [.ref (wB w + 171)] σ (J_X12_way_21 n p1 p2 σ) := by
    intro σ
    refine V_iconst (pc := 21) dX12_way_21 ic_1 ?_
    refine V_goto (pc := 22) (tgt := 26) dX12_way_22 (by decide +kernel) ?_
    exact hJ26 (1 : Int32) σ
  refine V_aload_n (pc := 0) dX12_way_0 rfl rfl ?_
  refine V_iconst (pc := 1) dX12_way_1 ic_0 ?_
  refine V_puti (pc := 2) fp_X12_3 rfl dX12_way_2 kc_171 rf_12_0_171 (fun s2 => ?_)
  refine V_aload_n (pc := 5) dX12_way_5 rfl rfl ?_
  refine V_aload_n (pc := 6) dX12_way_6 rfl rfl ?_
  refine V_iload_n (pc := 7) dX12_way_7 rfl rfl ?_
  refine V_callVpi (pc := 8) (As := [.int p1]) (rest := [.ref (wB w + 171)]) (c_X12_noPerson w p1 s2) cw_X12_297 rfl rfl dX12_way_8 kc_171 ci_12 ⟨Nat.le_of_ble_eq_true rfl, Nat.le_of_ble_eq_true rfl⟩ rfl rfl (Nat.le_of_ble_eq_true rfl) (Nat.le_of_ble_eq_true rfl) (Nat.le_of_ble_eq_true rfl) rfl (fun q8 => ?_)
  refine V_if_ne (pc := 11) (tgt := 21) dX12_way_11 (by decide +kernel) ?_ ?_
  · exact hJ21 s2
  · refine V_iload_n (pc := 14) dX12_way_14 rfl rfl ?_
    refine V_callSpi (pc := 15) (As := [.int p2]) (rest := [.ref (wB w + 171)]) (c_X12_noRoom w p2 s2) cs_X12_133 rfl rfl dX12_way_15 ⟨Nat.le_of_ble_eq_true rfl, Nat.le_of_ble_eq_true rfl⟩ rfl rfl (Nat.le_of_ble_eq_true rfl) (Nat.le_of_ble_eq_true rfl) (Nat.le_of_ble_eq_true rfl) rfl (fun q15 => ?_)
    refine V_if_eq (pc := 18) (tgt := 25) dX12_way_18 (by decide +kernel) ?_ ?_
    · refine V_iconst (pc := 25) dX12_way_25 ic_0 ?_
      exact hJ26 (0 : Int32) s2
    · exact hJ21 s2
def J_X12_unseen_99 (n : Nat) (v1 : Int32) (v2 : Int32) (v3 : Int32) (v4 : Int32) (v5 : Int32) (σ : MS) : Option ((Int32 × Int32 × Int32) ⊕ (Int32 × MS)) := some (.inl (v3, v4, (v5 + (1 : Int32))))
def L_X12_unseen_49 (n : Nat) (v1 : Int32) (v2 : Int32) (σ : MS) (a49 : Int32 × Int32 × Int32) : Option ((Int32 × Int32 × Int32) ⊕ (Int32 × MS)) := (if (6 : Int32) ≤ a49.2.2 then (some (a49.1, σ)).map Sum.inr else ((f_X12_wayOf n v1 a49.2.2 σ).bind (fun q60 => ((f_X12_wayOf n v2 a49.2.2 σ).bind (fun q67 => ((f_X12_hasFlour a49.2.2 σ).bind (fun q76 => (if q76 = 0 then (if (q60 + q67) < a49.2.1 then J_X12_unseen_99 n v1 v2 a49.2.2 (q60 + q67) a49.2.2 σ else J_X12_unseen_99 n v1 v2 a49.1 a49.2.1 a49.2.2 σ) else J_X12_unseen_99 n v1 v2 a49.1 a49.2.1 a49.2.2 σ))))))))
def J_X12_unseen_37 (n : Nat)  (σ : MS) : Option (Int32 × MS) := some ((0 : Int32), σ)
def J_X12_unseen_30 (n : Nat) (v1 : Int32) (v2 : Int32) (t0 : Int32) (σ : MS) : Option (Int32 × MS) := ((f_X12_throwsIf t0 (2 : Int32) σ).bind (fun q31 => (if q31.1 = 0 then itr (L_X12_unseen_49 n v1 v2 q31.2) n ((-1 : Int32), (1000000 : Int32), (0 : Int32)) else J_X12_unseen_37 n  q31.2)))
def f_X12_unseen (n : Nat) (p1 : Int32) (p2 : Int32) (σ : MS) : Option (Int32 × MS) := (ltM (mu σ 171 0 (0 : Int32)) (fun s2 => ((f_X12_noBoth p1 p2 s2).bind (fun q9 => ((f_X12_throwsIf q9 (1 : Int32) s2).bind (fun q13 => (if q13.1 = 0 then (if p1 = p2 then J_X12_unseen_30 n p1 p2 (1 : Int32) q13.2 else J_X12_unseen_30 n p1 p2 (0 : Int32) q13.2) else J_X12_unseen_37 n  q13.2)))))))
set_option maxRecDepth 20000 in
set_option maxHeartbeats 2000000 in
theorem c_X12_unseen (w : TG) (n : Nat) (p1 : Int32) (p2 : Int32) (σ : MS) : MC m_X12_unseen w [.ref (wB w + 171), .int p1, .int p2] σ (f_X12_unseen n p1 p2 σ) := by
  refine V_meth (by decide +kernel) (Nat.le_of_ble_eq_true rfl) (by intro v hv; simp only [List.mem_cons, List.not_mem_nil, or_false] at hv; rcases hv with rfl | rfl | rfl <;> rfl) (fun g x => ?_)
  show VV m_X12_unseen w g 0 0 (QM m_X12_unseen w g x) (fun b : Int32 × MS => b = x) 0 [some (.ref (wB w + 171)), some (.int p1), some (.int p2), none, none, none, none] [] σ (f_X12_unseen n p1 p2 σ)
  have hL49 : ∀ (σ : MS) (n0 : Nat) (a : Int32 × Int32 × Int32), VV m_X12_unseen w g 0 0 (QM m_X12_unseen w g x) (fun b : Int32 × MS => b = x) 49 [some (.ref (wB w + 171)), some (.int p1), some (.int p2), some (.int a.1), some (.int a.2.1), some (.int a.2.2), none] [] σ (itr (L_X12_unseen_49 n p1 p2 σ) n0 a) := by
    intro σ
    refine V_itr (vf := fun a : Int32 × Int32 × Int32 => [some (.ref (wB w + 171)), some (.int p1), some (.int p2), some (.int a.1), some (.int a.2.1), some (.int a.2.2), none]) (sf := fun a : Int32 × Int32 × Int32 => σ) (fun κ49 b49 r49 a49 => ?_)
    obtain ⟨a49_1, a49_2, a49_3⟩ := a49
    show VV m_X12_unseen w g 0 0 (QM m_X12_unseen w g x) κ49 49 [some (.ref (wB w + 171)), some (.int p1), some (.int p2), some (.int a49_1), some (.int a49_2), some (.int a49_3), none] [] σ (L_X12_unseen_49 n p1 p2 σ (a49_1, a49_2, a49_3))
    have hJ99 : ∀ (v3 : Int32) (v4 : Int32) (v5 : Int32), VV m_X12_unseen w g 0 0 (QM m_X12_unseen w g x) κ49 99 [some (.ref (wB w + 171)), some (.int p1), some (.int p2), some (.int v3), some (.int v4), some (.int v5), none] [] σ (J_X12_unseen_99 n p1 p2 v3 v4 v5 σ) := by
      intro v3 v4 v5
      refine V_iincC (pc := 99) (vs' := [some (.ref (wB w + 171)), some (.int p1), some (.int p2), some (.int v3), some (.int v4), some (.int (v5 + (1 : Int32))), none]) dX12_unseen_99 (Nat.le_of_ble_eq_true rfl) rfl ic_1 rfl ?_
      refine V_goto (pc := 102) (tgt := 49) dX12_unseen_102 (by decide +kernel) ?_
      exact V_back (b49 (v3, v4, (v5 + (1 : Int32))))
    refine V_iload (pc := 49) dX12_unseen_49 rfl ?_
    refine V_bipush (pc := 51) dX12_unseen_51 bp_6 ?_
    refine V_icmp_ge (pc := 53) (tgt := 105) dX12_unseen_53 (by decide +kernel) ?_ ?_
    · refine V_exit r49 ?_
      refine V_iload_n (pc := 105) dX12_unseen_105 rfl rfl ?_
      exact V_ireti (pc := 106) dX12_unseen_106 rfl (hk := fun h => h)
    · refine V_aload_n (pc := 56) dX12_unseen_56 rfl rfl ?_
      refine V_iload_n (pc := 57) dX12_unseen_57 rfl rfl ?_
      refine V_iload (pc := 58) dX12_unseen_58 rfl ?_
      refine V_callVpi (pc := 60) (As := [.int p1, .int a49_3]) (rest := []) (c_X12_wayOf w n p1 a49_3 σ) cw_X12_422 rfl rfl dX12_unseen_60 kc_171 ci_12 ⟨Nat.le_of_ble_eq_true rfl, Nat.le_of_ble_eq_true rfl⟩ rfl rfl (Nat.le_of_ble_eq_true rfl) (Nat.le_of_ble_eq_true rfl) (Nat.le_of_ble_eq_true rfl) rfl (fun q60 => ?_)
      refine V_aload_n (pc := 63) dX12_unseen_63 rfl rfl ?_
      refine V_iload_n (pc := 64) dX12_unseen_64 rfl rfl ?_
      refine V_iload (pc := 65) dX12_unseen_65 rfl ?_
      refine V_callVpi (pc := 67) (As := [.int p2, .int a49_3]) (rest := [.int q60]) (c_X12_wayOf w n p2 a49_3 σ) cw_X12_422 rfl rfl dX12_unseen_67 kc_171 ci_12 ⟨Nat.le_of_ble_eq_true rfl, Nat.le_of_ble_eq_true rfl⟩ rfl rfl (Nat.le_of_ble_eq_true rfl) (Nat.le_of_ble_eq_true rfl) (Nat.le_of_ble_eq_true rfl) rfl (fun q67 => ?_)
      refine V_iadd (pc := 70) dX12_unseen_70 ?_
      refine V_istore (pc := 71) (vs' := [some (.ref (wB w + 171)), some (.int p1), some (.int p2), some (.int a49_1), some (.int a49_2), some (.int a49_3), some (.int (q60 + q67))]) dX12_unseen_71 (Nat.le_of_ble_eq_true rfl) (Nat.le_of_ble_eq_true rfl) rfl ?_
      refine V_aload_n (pc := 73) dX12_unseen_73 rfl rfl ?_
      refine V_iload (pc := 74) dX12_unseen_74 rfl ?_
      refine V_callVpi (pc := 76) (As := [.int a49_3]) (rest := []) (c_X12_hasFlour w a49_3 σ) cw_X12_397 rfl rfl dX12_unseen_76 kc_171 ci_12 ⟨Nat.le_of_ble_eq_true rfl, Nat.le_of_ble_eq_true rfl⟩ rfl rfl (Nat.le_of_ble_eq_true rfl) (Nat.le_of_ble_eq_true rfl) (Nat.le_of_ble_eq_true rfl) rfl (fun q76 => ?_)
      refine V_if_ne (pc := 79) (tgt := 99) dX12_unseen_79 (by decide +kernel) ?_ ?_
      · refine V_sub (vs' := [some (.ref (wB w + 171)), some (.int p1), some (.int p2), some (.int a49_1), some (.int a49_2), some (.int a49_3), none]) (show vless _ _ from ⟨rfl, ⟨rfl, ⟨rfl, ⟨rfl, ⟨rfl, ⟨rfl, trivial⟩⟩⟩⟩⟩⟩) rfl ?_
        exact hJ99 a49_1 a49_2 a49_3
      · refine V_iload (pc := 82) dX12_unseen_82 rfl ?_
        refine V_iload (pc := 84) dX12_unseen_84 rfl ?_
        refine V_icmp_lt (pc := 86) (tgt := 92) dX12_unseen_86 (by decide +kernel) ?_ ?_
        · refine V_iload (pc := 92) dX12_unseen_92 rfl ?_
          refine V_istore_n (pc := 94) (vs' := [some (.ref (wB w + 171)), some (.int p1), some (.int p2), some (.int a49_3), some (.int a49_2), some (.int a49_3), some (.int (q60 + q67))]) dX12_unseen_94 rfl (Nat.le_of_ble_eq_true rfl) (Nat.le_of_ble_eq_true rfl) rfl ?_
          refine V_iload (pc := 95) dX12_unseen_95 rfl ?_
          refine V_istore (pc := 97) (vs' := [some (.ref (wB w + 171)), some (.int p1), some (.int p2), some (.int a49_3), some (.int (q60 + q67)), some (.int a49_3), some (.int (q60 + q67))]) dX12_unseen_97 (Nat.le_of_ble_eq_true rfl) (Nat.le_of_ble_eq_true rfl) rfl ?_
          refine V_sub (vs' := [some (.ref (wB w + 171)), some (.int p1), some (.int p2), some (.int a49_3), some (.int (q60 + q67)), some (.int a49_3), none]) (show vless _ _ from ⟨rfl, ⟨rfl, ⟨rfl, ⟨rfl, ⟨rfl, ⟨rfl, trivial⟩⟩⟩⟩⟩⟩) rfl ?_
          exact hJ99 a49_3 (q60 + q67) a49_3
        · refine V_goto (pc := 89) (tgt := 99) dX12_unseen_89 (by decide +kernel) ?_
          refine V_sub (vs' := [some (.ref (wB w + 171)), some (.int p1), some (.int p2), some (.int a49_1), some (.int a49_2), some (.int a49_3), none]) (show vless _ _ from ⟨rfl, ⟨rfl, ⟨rfl, ⟨rfl, ⟨rfl, ⟨rfl, trivial⟩⟩⟩⟩⟩⟩) rfl ?_
          exact hJ99 a49_1 a49_2 a49_3
  have hJ37 : ∀ (σ : MS), VV m_X12_unseen w g 0 0 (QM m_X12_unseen w g x) (fun b : Int32 × MS => b = x) 37 [none, none, none, none, none, none, none] [] σ (J_X12_unseen_37 n  σ) := by
    intro σ
    refine V_iconst (pc := 37) dX12_unseen_37 ic_0 ?_
    exact V_ireti (pc := 38) dX12_unseen_38 rfl (hk := fun h => h)
  have hJ30 : ∀ (t0 : Int32) (σ : MS), VV m_X12_unseen w g 0 0 (QM m_X12_unseen w g x) (fun b : Int32 × MS => b = x) 30 [some (.ref (wB w + 171)), some (.int p1), some (.int p2), none, none, none, none] [.int t0, .ref (wB w + 171)] σ (J_X12_unseen_30 n p1 p2 t0 σ) := by
    intro t0 σ
    refine V_iconst (pc := 30) dX12_unseen_30 ic_2 ?_
    refine V_callVi (pc := 31) (As := [.int t0, .int (2 : Int32)]) (rest := []) (c_X12_throwsIf w t0 (2 : Int32) σ) cw_X12_257 rfl rfl dX12_unseen_31 kc_171 ci_12 ⟨Nat.le_of_ble_eq_true rfl, Nat.le_of_ble_eq_true rfl⟩ rfl rfl (Nat.le_of_ble_eq_true rfl) (Nat.le_of_ble_eq_true rfl) (Nat.le_of_ble_eq_true rfl) rfl (fun q31 => ?_)
    refine V_if_eq (pc := 34) (tgt := 39) dX12_unseen_34 (by decide +kernel) ?_ ?_
    · refine V_iconst (pc := 39) dX12_unseen_39 ic_m1 ?_
      refine V_istore_n (pc := 40) (vs' := [some (.ref (wB w + 171)), some (.int p1), some (.int p2), some (.int (-1 : Int32)), none, none, none]) dX12_unseen_40 rfl (Nat.le_of_ble_eq_true rfl) (Nat.le_of_ble_eq_true rfl) rfl ?_
      refine V_ldcw (pc := 41) (v := (1000000 : Int32)) dX12_unseen_41 rfl ld_X12_375 ?_
      refine V_istore (pc := 44) (vs' := [some (.ref (wB w + 171)), some (.int p1), some (.int p2), some (.int (-1 : Int32)), some (.int (1000000 : Int32)), none, none]) dX12_unseen_44 (Nat.le_of_ble_eq_true rfl) (Nat.le_of_ble_eq_true rfl) rfl ?_
      refine V_iconst (pc := 46) dX12_unseen_46 ic_0 ?_
      refine V_istore (pc := 47) (vs' := [some (.ref (wB w + 171)), some (.int p1), some (.int p2), some (.int (-1 : Int32)), some (.int (1000000 : Int32)), some (.int (0 : Int32)), none]) dX12_unseen_47 (Nat.le_of_ble_eq_true rfl) (Nat.le_of_ble_eq_true rfl) rfl ?_
      exact hL49 q31.2 n ((-1 : Int32), (1000000 : Int32), (0 : Int32))
    · refine V_sub (vs' := [none, none, none, none, none, none, none]) (show vless _ _ from trivial) rfl ?_
      exact hJ37 q31.2
  refine V_aload_n (pc := 0) dX12_unseen_0 rfl rfl ?_
  refine V_iconst (pc := 1) dX12_unseen_1 ic_0 ?_
  refine V_puti (pc := 2) fp_X12_3 rfl dX12_unseen_2 kc_171 rf_12_0_171 (fun s2 => ?_)
  refine V_aload_n (pc := 5) dX12_unseen_5 rfl rfl ?_
  refine V_aload_n (pc := 6) dX12_unseen_6 rfl rfl ?_
  refine V_iload_n (pc := 7) dX12_unseen_7 rfl rfl ?_
  refine V_iload_n (pc := 8) dX12_unseen_8 rfl rfl ?_
  refine V_callVpi (pc := 9) (As := [.int p1, .int p2]) (rest := [.ref (wB w + 171)]) (c_X12_noBoth w p1 p2 s2) cw_X12_300 rfl rfl dX12_unseen_9 kc_171 ci_12 ⟨Nat.le_of_ble_eq_true rfl, Nat.le_of_ble_eq_true rfl⟩ rfl rfl (Nat.le_of_ble_eq_true rfl) (Nat.le_of_ble_eq_true rfl) (Nat.le_of_ble_eq_true rfl) rfl (fun q9 => ?_)
  refine V_iconst (pc := 12) dX12_unseen_12 ic_1 ?_
  refine V_callVi (pc := 13) (As := [.int q9, .int (1 : Int32)]) (rest := []) (c_X12_throwsIf w q9 (1 : Int32) s2) cw_X12_257 rfl rfl dX12_unseen_13 kc_171 ci_12 ⟨Nat.le_of_ble_eq_true rfl, Nat.le_of_ble_eq_true rfl⟩ rfl rfl (Nat.le_of_ble_eq_true rfl) (Nat.le_of_ble_eq_true rfl) (Nat.le_of_ble_eq_true rfl) rfl (fun q13 => ?_)
  refine V_if_ne (pc := 16) (tgt := 37) dX12_unseen_16 (by decide +kernel) ?_ ?_
  · refine V_sub (vs' := [none, none, none, none, none, none, none]) (show vless _ _ from trivial) rfl ?_
    exact hJ37 q13.2
  · refine V_aload_n (pc := 19) dX12_unseen_19 rfl rfl ?_
    refine V_iload_n (pc := 20) dX12_unseen_20 rfl rfl ?_
    refine V_iload_n (pc := 21) dX12_unseen_21 rfl rfl ?_
    refine V_icmp_ne (pc := 22) (tgt := 29) dX12_unseen_22 (by decide +kernel) ?_ ?_
    · refine V_iconst (pc := 29) dX12_unseen_29 ic_0 ?_
      exact hJ30 (0 : Int32) q13.2
    · refine V_iconst (pc := 25) dX12_unseen_25 ic_1 ?_
      refine V_goto (pc := 26) (tgt := 30) dX12_unseen_26 (by decide +kernel) ?_
      exact hJ30 (1 : Int32) q13.2
def J_X12_trappedIn_66 (n : Nat) (v1 : Int32) (v3 : Int32) (v4 : Int32) (t0 : Int32) (t1 : Int32) (σ : MS) : Option ((Int32 × Int32) ⊕ ((Int32 × Int32) ⊕ (Int32))) := some (.inl ((t1 + t0), (v4 + (1 : Int32))))
def J_X12_trappedIn_65 (n : Nat) (v1 : Int32) (v3 : Int32) (v4 : Int32) (t0 : Int32) (σ : MS) : Option ((Int32 × Int32) ⊕ ((Int32 × Int32) ⊕ (Int32))) := J_X12_trappedIn_66 n v1 v3 v4 (0 : Int32) t0 σ
def L_X12_trappedIn_15 (n : Nat) (v1 : Int32) (v3 : Int32) (σ : MS) (a15 : Int32 × Int32) : Option ((Int32 × Int32) ⊕ ((Int32 × Int32) ⊕ (Int32))) := (if v3 ≤ a15.2 then (some (.inl (a15.1, (v3 + (1 : Int32))))).map Sum.inr else ((f_X12_isSecret v3 a15.2 σ).bind (fun q26 => (if q26 = 0 then J_X12_trappedIn_65 n v1 v3 a15.2 a15.1 σ else ((f_X12_of v3 (0 : Int32) σ).bind (fun q35 => ((f_X12_of a15.2 (0 : Int32) σ).bind (fun q42 => (if q35 = q42 then ((f_X12_of v3 (0 : Int32) σ).bind (fun q52 => ((f_X12_has v1 q52 σ).bind (fun q55 => (if q55 = 0 then J_X12_trappedIn_65 n v1 v3 a15.2 a15.1 σ else J_X12_trappedIn_66 n v1 v3 a15.2 (1 : Int32) a15.1 σ))))) else J_X12_trappedIn_65 n v1 v3 a15.2 a15.1 σ)))))))))
def L_X12_trappedIn_4 (n : Nat) (v1 : Int32) (σ : MS) (a4 : Int32 × Int32) : Option ((Int32 × Int32) ⊕ (Int32)) := ((f_X12_people  σ).bind (fun q6 => (if q6 ≤ a4.2 then (some a4.1).map Sum.inr else itr (L_X12_trappedIn_15 n v1 a4.2 σ) n (a4.1, (0 : Int32)))))
def f_X12_trappedIn (n : Nat) (p1 : Int32) (σ : MS) : Option (Int32) := itr (L_X12_trappedIn_4 n p1 σ) n ((0 : Int32), (0 : Int32))
set_option maxRecDepth 20000 in
set_option maxHeartbeats 2000000 in
theorem c_X12_trappedIn (w : TG) (n : Nat) (p1 : Int32) (σ : MS) : MC m_X12_trappedIn w [.ref (wB w + 171), .int p1] σ ((f_X12_trappedIn n p1 σ).map (fun r => (r, σ))) := by
  refine V_methp (by decide +kernel) (Nat.le_of_ble_eq_true rfl) (by intro v hv; simp only [List.mem_cons, List.not_mem_nil, or_false] at hv; rcases hv with rfl | rfl <;> rfl) (fun g x => ?_)
  show VV m_X12_trappedIn w g 0 0 (QM m_X12_trappedIn w g x) (fun b : Int32 => (b, σ) = x) 0 [some (.ref (wB w + 171)), some (.int p1), none, none, none] [] σ (f_X12_trappedIn n p1 σ)
  have hL4 : ∀  (n0 : Nat) (a : Int32 × Int32), VV m_X12_trappedIn w g 0 0 (QM m_X12_trappedIn w g x) (fun b : Int32 => (b, σ) = x) 4 [some (.ref (wB w + 171)), some (.int p1), some (.int a.1), some (.int a.2), none] [] σ (itr (L_X12_trappedIn_4 n p1 σ) n0 a) := by
    refine V_itr (vf := fun a : Int32 × Int32 => [some (.ref (wB w + 171)), some (.int p1), some (.int a.1), some (.int a.2), none]) (sf := fun a : Int32 × Int32 => σ) (fun κ4 b4 r4 a4 => ?_)
    obtain ⟨a4_1, a4_2⟩ := a4
    show VV m_X12_trappedIn w g 0 0 (QM m_X12_trappedIn w g x) κ4 4 [some (.ref (wB w + 171)), some (.int p1), some (.int a4_1), some (.int a4_2), none] [] σ (L_X12_trappedIn_4 n p1 σ (a4_1, a4_2))
    have hL15 : ∀ (v3 : Int32) (n0 : Nat) (a : Int32 × Int32), VV m_X12_trappedIn w g 0 0 (QM m_X12_trappedIn w g x) κ4 15 [some (.ref (wB w + 171)), some (.int p1), some (.int a.1), some (.int v3), some (.int a.2)] [] σ (itr (L_X12_trappedIn_15 n p1 v3 σ) n0 a) := by
      intro v3
      refine V_itr (vf := fun a : Int32 × Int32 => [some (.ref (wB w + 171)), some (.int p1), some (.int a.1), some (.int v3), some (.int a.2)]) (sf := fun a : Int32 × Int32 => σ) (fun κ15 b15 r15 a15 => ?_)
      obtain ⟨a15_1, a15_2⟩ := a15
      show VV m_X12_trappedIn w g 0 0 (QM m_X12_trappedIn w g x) κ15 15 [some (.ref (wB w + 171)), some (.int p1), some (.int a15_1), some (.int v3), some (.int a15_2)] [] σ (L_X12_trappedIn_15 n p1 v3 σ (a15_1, a15_2))
      have hJ66 : ∀ (v4 : Int32) (t0 : Int32) (t1 : Int32), VV m_X12_trappedIn w g 0 0 (QM m_X12_trappedIn w g x) κ15 66 [some (.ref (wB w + 171)), some (.int p1), none, some (.int v3), some (.int v4)] [.int t0, .int t1] σ (J_X12_trappedIn_66 n p1 v3 v4 t0 t1 σ) := by
        intro v4 t0 t1
        refine V_iadd (pc := 66) dX12_trappedIn_66 ?_
        refine V_istore_n (pc := 67) (vs' := [some (.ref (wB w + 171)), some (.int p1), some (.int (t1 + t0)), some (.int v3), some (.int v4)]) dX12_trappedIn_67 rfl (Nat.le_of_ble_eq_true rfl) (Nat.le_of_ble_eq_true rfl) rfl ?_
        refine V_iincC (pc := 68) (vs' := [some (.ref (wB w + 171)), some (.int p1), some (.int (t1 + t0)), some (.int v3), some (.int (v4 + (1 : Int32)))]) dX12_trappedIn_68 (Nat.le_of_ble_eq_true rfl) rfl ic_1 rfl ?_
        refine V_goto (pc := 71) (tgt := 15) dX12_trappedIn_71 (by decide +kernel) ?_
        exact V_back (b15 ((t1 + t0), (v4 + (1 : Int32))))
      have hJ65 : ∀ (v4 : Int32) (t0 : Int32), VV m_X12_trappedIn w g 0 0 (QM m_X12_trappedIn w g x) κ15 65 [some (.ref (wB w + 171)), some (.int p1), none, some (.int v3), some (.int v4)] [.int t0] σ (J_X12_trappedIn_65 n p1 v3 v4 t0 σ) := by
        intro v4 t0
        refine V_iconst (pc := 65) dX12_trappedIn_65 ic_0 ?_
        exact hJ66 v4 (0 : Int32) t0
      refine V_iload (pc := 15) dX12_trappedIn_15 rfl ?_
      refine V_iload_n (pc := 17) dX12_trappedIn_17 rfl rfl ?_
      refine V_icmp_ge (pc := 18) (tgt := 74) dX12_trappedIn_18 (by decide +kernel) ?_ ?_
      · refine V_exit r15 ?_
        refine V_iincC (pc := 74) (vs' := [some (.ref (wB w + 171)), some (.int p1), some (.int a15_1), some (.int (v3 + (1 : Int32))), some (.int a15_2)]) dX12_trappedIn_74 (Nat.le_of_ble_eq_true rfl) rfl ic_1 rfl ?_
        refine V_goto (pc := 77) (tgt := 4) dX12_trappedIn_77 (by decide +kernel) ?_
        refine V_sub (vs' := [some (.ref (wB w + 171)), some (.int p1), some (.int a15_1), some (.int (v3 + (1 : Int32))), none]) (show vless _ _ from ⟨rfl, ⟨rfl, ⟨rfl, ⟨rfl, trivial⟩⟩⟩⟩) rfl ?_
        exact V_back (b4 (a15_1, (v3 + (1 : Int32))))
      · refine V_iload_n (pc := 21) dX12_trappedIn_21 rfl rfl ?_
        refine V_aload_n (pc := 22) dX12_trappedIn_22 rfl rfl ?_
        refine V_iload_n (pc := 23) dX12_trappedIn_23 rfl rfl ?_
        refine V_iload (pc := 24) dX12_trappedIn_24 rfl ?_
        refine V_callVpi (pc := 26) (As := [.int v3, .int a15_2]) (rest := [.int a15_1]) (c_X12_isSecret w v3 a15_2 σ) cw_X12_372 rfl rfl dX12_trappedIn_26 kc_171 ci_12 ⟨Nat.le_of_ble_eq_true rfl, Nat.le_of_ble_eq_true rfl⟩ rfl rfl (Nat.le_of_ble_eq_true rfl) (Nat.le_of_ble_eq_true rfl) (Nat.le_of_ble_eq_true rfl) rfl (fun q26 => ?_)
        refine V_if_eq (pc := 29) (tgt := 65) dX12_trappedIn_29 (by decide +kernel) ?_ ?_
        · refine V_sub (vs' := [some (.ref (wB w + 171)), some (.int p1), none, some (.int v3), some (.int a15_2)]) (show vless _ _ from ⟨rfl, ⟨rfl, ⟨rfl, ⟨rfl, trivial⟩⟩⟩⟩) rfl ?_
          exact hJ65 a15_2 a15_1
        · refine V_aload_n (pc := 32) dX12_trappedIn_32 rfl rfl ?_
          refine V_iload_n (pc := 33) dX12_trappedIn_33 rfl rfl ?_
          refine V_iconst (pc := 34) dX12_trappedIn_34 ic_0 ?_
          refine V_callVpi (pc := 35) (As := [.int v3, .int (0 : Int32)]) (rest := [.int a15_1]) (c_X12_of w v3 (0 : Int32) σ) cw_X12_73 rfl rfl dX12_trappedIn_35 kc_171 ci_12 ⟨Nat.le_of_ble_eq_true rfl, Nat.le_of_ble_eq_true rfl⟩ rfl rfl (Nat.le_of_ble_eq_true rfl) (Nat.le_of_ble_eq_true rfl) (Nat.le_of_ble_eq_true rfl) rfl (fun q35 => ?_)
          refine V_aload_n (pc := 38) dX12_trappedIn_38 rfl rfl ?_
          refine V_iload (pc := 39) dX12_trappedIn_39 rfl ?_
          refine V_iconst (pc := 41) dX12_trappedIn_41 ic_0 ?_
          refine V_callVpi (pc := 42) (As := [.int a15_2, .int (0 : Int32)]) (rest := [.int q35, .int a15_1]) (c_X12_of w a15_2 (0 : Int32) σ) cw_X12_73 rfl rfl dX12_trappedIn_42 kc_171 ci_12 ⟨Nat.le_of_ble_eq_true rfl, Nat.le_of_ble_eq_true rfl⟩ rfl rfl (Nat.le_of_ble_eq_true rfl) (Nat.le_of_ble_eq_true rfl) (Nat.le_of_ble_eq_true rfl) rfl (fun q42 => ?_)
          refine V_icmp_ne (pc := 45) (tgt := 65) dX12_trappedIn_45 (by decide +kernel) ?_ ?_
          · refine V_sub (vs' := [some (.ref (wB w + 171)), some (.int p1), none, some (.int v3), some (.int a15_2)]) (show vless _ _ from ⟨rfl, ⟨rfl, ⟨rfl, ⟨rfl, trivial⟩⟩⟩⟩) rfl ?_
            exact hJ65 a15_2 a15_1
          · refine V_iload_n (pc := 48) dX12_trappedIn_48 rfl rfl ?_
            refine V_aload_n (pc := 49) dX12_trappedIn_49 rfl rfl ?_
            refine V_iload_n (pc := 50) dX12_trappedIn_50 rfl rfl ?_
            refine V_iconst (pc := 51) dX12_trappedIn_51 ic_0 ?_
            refine V_callVpi (pc := 52) (As := [.int v3, .int (0 : Int32)]) (rest := [.int p1, .int a15_1]) (c_X12_of w v3 (0 : Int32) σ) cw_X12_73 rfl rfl dX12_trappedIn_52 kc_171 ci_12 ⟨Nat.le_of_ble_eq_true rfl, Nat.le_of_ble_eq_true rfl⟩ rfl rfl (Nat.le_of_ble_eq_true rfl) (Nat.le_of_ble_eq_true rfl) (Nat.le_of_ble_eq_true rfl) rfl (fun q52 => ?_)
            refine V_callSpi (pc := 55) (As := [.int p1, .int q52]) (rest := [.int a15_1]) (c_X12_has w p1 q52 σ) cs_X12_76 rfl rfl dX12_trappedIn_55 ⟨Nat.le_of_ble_eq_true rfl, Nat.le_of_ble_eq_true rfl⟩ rfl rfl (Nat.le_of_ble_eq_true rfl) (Nat.le_of_ble_eq_true rfl) (Nat.le_of_ble_eq_true rfl) rfl (fun q55 => ?_)
            refine V_if_eq (pc := 58) (tgt := 65) dX12_trappedIn_58 (by decide +kernel) ?_ ?_
            · refine V_sub (vs' := [some (.ref (wB w + 171)), some (.int p1), none, some (.int v3), some (.int a15_2)]) (show vless _ _ from ⟨rfl, ⟨rfl, ⟨rfl, ⟨rfl, trivial⟩⟩⟩⟩) rfl ?_
              exact hJ65 a15_2 a15_1
            · refine V_iconst (pc := 61) dX12_trappedIn_61 ic_1 ?_
              refine V_goto (pc := 62) (tgt := 66) dX12_trappedIn_62 (by decide +kernel) ?_
              refine V_sub (vs' := [some (.ref (wB w + 171)), some (.int p1), none, some (.int v3), some (.int a15_2)]) (show vless _ _ from ⟨rfl, ⟨rfl, ⟨rfl, ⟨rfl, trivial⟩⟩⟩⟩) rfl ?_
              exact hJ66 a15_2 (1 : Int32) a15_1
    refine V_iload_n (pc := 4) dX12_trappedIn_4 rfl rfl ?_
    refine V_aload_n (pc := 5) dX12_trappedIn_5 rfl rfl ?_
    refine V_callVpi (pc := 6) (As := []) (rest := [.int a4_2]) (c_X12_people w  σ) cw_X12_58 rfl rfl dX12_trappedIn_6 kc_171 ci_12 ⟨Nat.le_of_ble_eq_true rfl, Nat.le_of_ble_eq_true rfl⟩ rfl rfl (Nat.le_of_ble_eq_true rfl) (Nat.le_of_ble_eq_true rfl) (Nat.le_of_ble_eq_true rfl) rfl (fun q6 => ?_)
    refine V_icmp_ge (pc := 9) (tgt := 80) dX12_trappedIn_9 (by decide +kernel) ?_ ?_
    · refine V_exit r4 ?_
      refine V_iload_n (pc := 80) dX12_trappedIn_80 rfl rfl ?_
      exact V_ireti (pc := 81) dX12_trappedIn_81 rfl (hk := fun h => h)
    · refine V_iconst (pc := 12) dX12_trappedIn_12 ic_0 ?_
      refine V_istore (pc := 13) (vs' := [some (.ref (wB w + 171)), some (.int p1), some (.int a4_1), some (.int a4_2), some (.int (0 : Int32))]) dX12_trappedIn_13 (Nat.le_of_ble_eq_true rfl) (Nat.le_of_ble_eq_true rfl) rfl ?_
      exact hL15 a4_2 n (a4_1, (0 : Int32))
  refine V_iconst (pc := 0) dX12_trappedIn_0 ic_0 ?_
  refine V_istore_n (pc := 1) (vs' := [some (.ref (wB w + 171)), some (.int p1), some (.int (0 : Int32)), none, none]) dX12_trappedIn_1 rfl (Nat.le_of_ble_eq_true rfl) (Nat.le_of_ble_eq_true rfl) rfl ?_
  refine V_iconst (pc := 2) dX12_trappedIn_2 ic_0 ?_
  refine V_istore_n (pc := 3) (vs' := [some (.ref (wB w + 171)), some (.int p1), some (.int (0 : Int32)), some (.int (0 : Int32)), none]) dX12_trappedIn_3 rfl (Nat.le_of_ble_eq_true rfl) (Nat.le_of_ble_eq_true rfl) rfl ?_
  exact hL4 n ((0 : Int32), (0 : Int32))
def J_X12_trap_91 (n : Nat) (t0 : Int32) (σ : MS) : Option (Int32 × MS) := some (t0, σ)
def J_X12_trap_72 (n : Nat) (v1 : Int32) (v2 : Int32) (v3 : Int32) (v4 : Int32) (σ : MS) : Option ((Int32 × Int32) ⊕ (Int32 × MS)) := some (.inl (v3, (v4 + (1 : Int32))))
def J_X12_trap_69 (n : Nat) (v1 : Int32) (v2 : Int32) (v4 : Int32) (σ : MS) : Option ((Int32 × Int32) ⊕ (Int32 × MS)) := J_X12_trap_72 n v1 v2 v4 v4 σ
def L_X12_trap_35 (n : Nat) (v1 : Int32) (v2 : Int32) (σ : MS) (a35 : Int32 × Int32) : Option ((Int32 × Int32) ⊕ (Int32 × MS)) := (if (64 : Int32) ≤ a35.2 then ((if v2 = 0 then J_X12_trap_91 n a35.1 σ else ((f_X12_trappedIn n a35.1 σ).bind (fun q84 => J_X12_trap_91 n q84 σ)))).map Sum.inr else ((f_J6_bitCount_0f7a4 a35.2 σ).bind (fun q44 => (if q44 = v1 then (if a35.1 < 0 then J_X12_trap_69 n v1 v2 a35.2 σ else ((f_X12_trappedIn n a35.2 σ).bind (fun q58 => ((f_X12_trappedIn n a35.1 σ).bind (fun q63 => (if q58 ≤ q63 then J_X12_trap_72 n v1 v2 a35.1 a35.2 σ else J_X12_trap_69 n v1 v2 a35.2 σ)))))) else J_X12_trap_72 n v1 v2 a35.1 a35.2 σ))))
def J_X12_trap_21 (n : Nat) (v1 : Int32) (v2 : Int32) (t0 : Int32) (σ : MS) : Option (Int32 × MS) := ((f_X12_throwsIf t0 (1 : Int32) σ).bind (fun q22 => (if q22.1 = 0 then itr (L_X12_trap_35 n v1 v2 q22.2) n ((-1 : Int32), (0 : Int32)) else some ((0 : Int32), q22.2))))
def f_X12_trap (n : Nat) (p1 : Int32) (p2 : Int32) (σ : MS) : Option (Int32 × MS) := (ltM (mu σ 171 0 (0 : Int32)) (fun s2 => ((f_X12_in p1 (1 : Int32) (6 : Int32) s2).bind (fun q10 => (if q10 = 0 then J_X12_trap_21 n p1 p2 (1 : Int32) s2 else J_X12_trap_21 n p1 p2 (0 : Int32) s2)))))
set_option maxRecDepth 20000 in
set_option maxHeartbeats 2000000 in
theorem c_X12_trap (w : TG) (n : Nat) (p1 : Int32) (p2 : Int32) (σ : MS) : MC m_X12_trap w [.ref (wB w + 171), .int p1, .int p2] σ (f_X12_trap n p1 p2 σ) := by
  refine V_meth (by decide +kernel) (Nat.le_of_ble_eq_true rfl) (by intro v hv; simp only [List.mem_cons, List.not_mem_nil, or_false] at hv; rcases hv with rfl | rfl | rfl <;> rfl) (fun g x => ?_)
  show VV m_X12_trap w g 0 0 (QM m_X12_trap w g x) (fun b : Int32 × MS => b = x) 0 [some (.ref (wB w + 171)), some (.int p1), some (.int p2), none, none] [] σ (f_X12_trap n p1 p2 σ)
  have hJ91 : ∀ (t0 : Int32) (σ : MS), VV m_X12_trap w g 0 0 (QM m_X12_trap w g x) (fun b : Int32 × MS => b = x) 91 [none, none, none, none, none] [.int t0] σ (J_X12_trap_91 n t0 σ) := by
    intro t0 σ
    exact V_ireti (pc := 91) dX12_trap_91 rfl (hk := fun h => h)
  have hL35 : ∀ (σ : MS) (n0 : Nat) (a : Int32 × Int32), VV m_X12_trap w g 0 0 (QM m_X12_trap w g x) (fun b : Int32 × MS => b = x) 35 [some (.ref (wB w + 171)), some (.int p1), some (.int p2), some (.int a.1), some (.int a.2)] [] σ (itr (L_X12_trap_35 n p1 p2 σ) n0 a) := by
    intro σ
    refine V_itr (vf := fun a : Int32 × Int32 => [some (.ref (wB w + 171)), some (.int p1), some (.int p2), some (.int a.1), some (.int a.2)]) (sf := fun a : Int32 × Int32 => σ) (fun κ35 b35 r35 a35 => ?_)
    obtain ⟨a35_1, a35_2⟩ := a35
    show VV m_X12_trap w g 0 0 (QM m_X12_trap w g x) κ35 35 [some (.ref (wB w + 171)), some (.int p1), some (.int p2), some (.int a35_1), some (.int a35_2)] [] σ (L_X12_trap_35 n p1 p2 σ (a35_1, a35_2))
    have hJ72 : ∀ (v3 : Int32) (v4 : Int32), VV m_X12_trap w g 0 0 (QM m_X12_trap w g x) κ35 72 [some (.ref (wB w + 171)), some (.int p1), some (.int p2), some (.int v3), some (.int v4)] [] σ (J_X12_trap_72 n p1 p2 v3 v4 σ) := by
      intro v3 v4
      refine V_iincC (pc := 72) (vs' := [some (.ref (wB w + 171)), some (.int p1), some (.int p2), some (.int v3), some (.int (v4 + (1 : Int32)))]) dX12_trap_72 (Nat.le_of_ble_eq_true rfl) rfl ic_1 rfl ?_
      refine V_goto (pc := 75) (tgt := 35) dX12_trap_75 (by decide +kernel) ?_
      exact V_back (b35 (v3, (v4 + (1 : Int32))))
    have hJ69 : ∀ (v4 : Int32), VV m_X12_trap w g 0 0 (QM m_X12_trap w g x) κ35 69 [some (.ref (wB w + 171)), some (.int p1), some (.int p2), none, some (.int v4)] [] σ (J_X12_trap_69 n p1 p2 v4 σ) := by
      intro v4
      refine V_iload (pc := 69) dX12_trap_69 rfl ?_
      refine V_istore_n (pc := 71) (vs' := [some (.ref (wB w + 171)), some (.int p1), some (.int p2), some (.int v4), some (.int v4)]) dX12_trap_71 rfl (Nat.le_of_ble_eq_true rfl) (Nat.le_of_ble_eq_true rfl) rfl ?_
      exact hJ72 v4 v4
    refine V_iload (pc := 35) dX12_trap_35 rfl ?_
    refine V_bipush (pc := 37) dX12_trap_37 bp_64 ?_
    refine V_icmp_ge (pc := 39) (tgt := 78) dX12_trap_39 (by decide +kernel) ?_ ?_
    · refine V_exit r35 ?_
      refine V_iload_n (pc := 78) dX12_trap_78 rfl rfl ?_
      refine V_if_eq (pc := 79) (tgt := 90) dX12_trap_79 (by decide +kernel) ?_ ?_
      · refine V_iload_n (pc := 90) dX12_trap_90 rfl rfl ?_
        refine V_sub (vs' := [none, none, none, none, none]) (show vless _ _ from trivial) rfl ?_
        exact hJ91 a35_1 σ
      · refine V_aload_n (pc := 82) dX12_trap_82 rfl rfl ?_
        refine V_iload_n (pc := 83) dX12_trap_83 rfl rfl ?_
        refine V_callVpi (pc := 84) (As := [.int a35_1]) (rest := []) (c_X12_trappedIn w n a35_1 σ) cw_X12_425 rfl rfl dX12_trap_84 kc_171 ci_12 ⟨Nat.le_of_ble_eq_true rfl, Nat.le_of_ble_eq_true rfl⟩ rfl rfl (Nat.le_of_ble_eq_true rfl) (Nat.le_of_ble_eq_true rfl) (Nat.le_of_ble_eq_true rfl) rfl (fun q84 => ?_)
        refine V_goto (pc := 87) (tgt := 91) dX12_trap_87 (by decide +kernel) ?_
        refine V_sub (vs' := [none, none, none, none, none]) (show vless _ _ from trivial) rfl ?_
        exact hJ91 q84 σ
    · refine V_iload (pc := 42) dX12_trap_42 rfl ?_
      refine V_callSpi (pc := 44) (As := [.int a35_2]) (rest := []) (c_J6_bitCount_0f7a4 w a35_2 σ) cs_X12_318 rfl rfl dX12_trap_44 ⟨Nat.le_of_ble_eq_true rfl, Nat.le_of_ble_eq_true rfl⟩ rfl rfl (Nat.le_of_ble_eq_true rfl) (Nat.le_of_ble_eq_true rfl) (Nat.le_of_ble_eq_true rfl) rfl (fun q44 => ?_)
      refine V_iload_n (pc := 47) dX12_trap_47 rfl rfl ?_
      refine V_icmp_ne (pc := 48) (tgt := 72) dX12_trap_48 (by decide +kernel) ?_ ?_
      · exact hJ72 a35_1 a35_2
      · refine V_iload_n (pc := 51) dX12_trap_51 rfl rfl ?_
        refine V_if_lt (pc := 52) (tgt := 69) dX12_trap_52 (by decide +kernel) ?_ ?_
        · refine V_sub (vs' := [some (.ref (wB w + 171)), some (.int p1), some (.int p2), none, some (.int a35_2)]) (show vless _ _ from ⟨rfl, ⟨rfl, ⟨rfl, ⟨rfl, trivial⟩⟩⟩⟩) rfl ?_
          exact hJ69 a35_2
        · refine V_aload_n (pc := 55) dX12_trap_55 rfl rfl ?_
          refine V_iload (pc := 56) dX12_trap_56 rfl ?_
          refine V_callVpi (pc := 58) (As := [.int a35_2]) (rest := []) (c_X12_trappedIn w n a35_2 σ) cw_X12_425 rfl rfl dX12_trap_58 kc_171 ci_12 ⟨Nat.le_of_ble_eq_true rfl, Nat.le_of_ble_eq_true rfl⟩ rfl rfl (Nat.le_of_ble_eq_true rfl) (Nat.le_of_ble_eq_true rfl) (Nat.le_of_ble_eq_true rfl) rfl (fun q58 => ?_)
          refine V_aload_n (pc := 61) dX12_trap_61 rfl rfl ?_
          refine V_iload_n (pc := 62) dX12_trap_62 rfl rfl ?_
          refine V_callVpi (pc := 63) (As := [.int a35_1]) (rest := [.int q58]) (c_X12_trappedIn w n a35_1 σ) cw_X12_425 rfl rfl dX12_trap_63 kc_171 ci_12 ⟨Nat.le_of_ble_eq_true rfl, Nat.le_of_ble_eq_true rfl⟩ rfl rfl (Nat.le_of_ble_eq_true rfl) (Nat.le_of_ble_eq_true rfl) (Nat.le_of_ble_eq_true rfl) rfl (fun q63 => ?_)
          refine V_icmp_le (pc := 66) (tgt := 72) dX12_trap_66 (by decide +kernel) ?_ ?_
          · exact hJ72 a35_1 a35_2
          · refine V_sub (vs' := [some (.ref (wB w + 171)), some (.int p1), some (.int p2), none, some (.int a35_2)]) (show vless _ _ from ⟨rfl, ⟨rfl, ⟨rfl, ⟨rfl, trivial⟩⟩⟩⟩) rfl ?_
            exact hJ69 a35_2
  have hJ21 : ∀ (t0 : Int32) (σ : MS), VV m_X12_trap w g 0 0 (QM m_X12_trap w g x) (fun b : Int32 × MS => b = x) 21 [some (.ref (wB w + 171)), some (.int p1), some (.int p2), none, none] [.int t0, .ref (wB w + 171)] σ (J_X12_trap_21 n p1 p2 t0 σ) := by
    intro t0 σ
    refine V_iconst (pc := 21) dX12_trap_21 ic_1 ?_
    refine V_callVi (pc := 22) (As := [.int t0, .int (1 : Int32)]) (rest := []) (c_X12_throwsIf w t0 (1 : Int32) σ) cw_X12_257 rfl rfl dX12_trap_22 kc_171 ci_12 ⟨Nat.le_of_ble_eq_true rfl, Nat.le_of_ble_eq_true rfl⟩ rfl rfl (Nat.le_of_ble_eq_true rfl) (Nat.le_of_ble_eq_true rfl) (Nat.le_of_ble_eq_true rfl) rfl (fun q22 => ?_)
    refine V_if_eq (pc := 25) (tgt := 30) dX12_trap_25 (by decide +kernel) ?_ ?_
    · refine V_iconst (pc := 30) dX12_trap_30 ic_m1 ?_
      refine V_istore_n (pc := 31) (vs' := [some (.ref (wB w + 171)), some (.int p1), some (.int p2), some (.int (-1 : Int32)), none]) dX12_trap_31 rfl (Nat.le_of_ble_eq_true rfl) (Nat.le_of_ble_eq_true rfl) rfl ?_
      refine V_iconst (pc := 32) dX12_trap_32 ic_0 ?_
      refine V_istore (pc := 33) (vs' := [some (.ref (wB w + 171)), some (.int p1), some (.int p2), some (.int (-1 : Int32)), some (.int (0 : Int32))]) dX12_trap_33 (Nat.le_of_ble_eq_true rfl) (Nat.le_of_ble_eq_true rfl) rfl ?_
      exact hL35 q22.2 n ((-1 : Int32), (0 : Int32))
    · refine V_iconst (pc := 28) dX12_trap_28 ic_0 ?_
      exact V_ireti (pc := 29) dX12_trap_29 rfl (hk := fun h => h)
  refine V_aload_n (pc := 0) dX12_trap_0 rfl rfl ?_
  refine V_iconst (pc := 1) dX12_trap_1 ic_0 ?_
  refine V_puti (pc := 2) fp_X12_3 rfl dX12_trap_2 kc_171 rf_12_0_171 (fun s2 => ?_)
  refine V_aload_n (pc := 5) dX12_trap_5 rfl rfl ?_
  refine V_iload_n (pc := 6) dX12_trap_6 rfl rfl ?_
  refine V_iconst (pc := 7) dX12_trap_7 ic_1 ?_
  refine V_bipush (pc := 8) dX12_trap_8 bp_6 ?_
  refine V_callSpi (pc := 10) (As := [.int p1, .int (1 : Int32), .int (6 : Int32)]) (rest := [.ref (wB w + 171)]) (c_X12_in w p1 (1 : Int32) (6 : Int32) s2) cs_X12_79 rfl rfl dX12_trap_10 ⟨Nat.le_of_ble_eq_true rfl, Nat.le_of_ble_eq_true rfl⟩ rfl rfl (Nat.le_of_ble_eq_true rfl) (Nat.le_of_ble_eq_true rfl) (Nat.le_of_ble_eq_true rfl) rfl (fun q10 => ?_)
  refine V_if_ne (pc := 13) (tgt := 20) dX12_trap_13 (by decide +kernel) ?_ ?_
  · refine V_iconst (pc := 20) dX12_trap_20 ic_0 ?_
    exact hJ21 (0 : Int32) s2
  · refine V_iconst (pc := 16) dX12_trap_16 ic_1 ?_
    refine V_goto (pc := 17) (tgt := 21) dX12_trap_17 (by decide +kernel) ?_
    exact hJ21 (1 : Int32) s2
def J_X12_oath_36 (t0 : Int32) (σ : MS) : Option (Int32 × MS) := (if t0 = 0 ∨ t0 = 1 then some (t0, σ) else none)
def J_X12_oath_35  (σ : MS) : Option (Int32 × MS) := J_X12_oath_36 (0 : Int32) σ
def f_X12_oath (p1 : Int32) (p2 : Int32) (σ : MS) : Option (Int32 × MS) := (ltM (mu σ 171 0 (0 : Int32)) (fun s2 => ((f_X12_noPerson p1 s2).bind (fun q8 => ((f_X12_throwsIf q8 (1 : Int32) s2).bind (fun q12 => (if q12.1 = 0 then ((f_X12_of p1 (3 : Int32) q12.2).bind (fun q21 => (if (q21 &&& (p2 ^^^ (-1 : Int32))) = 0 then J_X12_oath_36 (1 : Int32) q12.2 else J_X12_oath_35  q12.2))) else J_X12_oath_35  q12.2)))))))
set_option maxRecDepth 20000 in
set_option maxHeartbeats 2000000 in
theorem c_X12_oath (w : TG) (p1 : Int32) (p2 : Int32) (σ : MS) : MC m_X12_oath w [.ref (wB w + 171), .int p1, .int p2] σ (f_X12_oath p1 p2 σ) := by
  refine V_meth (by decide +kernel) (Nat.le_of_ble_eq_true rfl) (by intro v hv; simp only [List.mem_cons, List.not_mem_nil, or_false] at hv; rcases hv with rfl | rfl | rfl <;> rfl) (fun g x => ?_)
  show VV m_X12_oath w g 0 0 (QM m_X12_oath w g x) (fun b : Int32 × MS => b = x) 0 [some (.ref (wB w + 171)), some (.int p1), some (.int p2)] [] σ (f_X12_oath p1 p2 σ)
  have hJ36 : ∀ (t0 : Int32) (σ : MS), VV m_X12_oath w g 0 0 (QM m_X12_oath w g x) (fun b : Int32 × MS => b = x) 36 [none, none, none] [.int t0] σ (J_X12_oath_36 t0 σ) := by
    intro t0 σ
    exact V_iretZ (pc := 36) dX12_oath_36 rfl (hk := fun h => h)
  have hJ35 : ∀ (σ : MS), VV m_X12_oath w g 0 0 (QM m_X12_oath w g x) (fun b : Int32 × MS => b = x) 35 [none, none, none] [] σ (J_X12_oath_35  σ) := by
    intro σ
    refine V_iconst (pc := 35) dX12_oath_35 ic_0 ?_
    exact hJ36 (0 : Int32) σ
  refine V_aload_n (pc := 0) dX12_oath_0 rfl rfl ?_
  refine V_iconst (pc := 1) dX12_oath_1 ic_0 ?_
  refine V_puti (pc := 2) fp_X12_3 rfl dX12_oath_2 kc_171 rf_12_0_171 (fun s2 => ?_)
  refine V_aload_n (pc := 5) dX12_oath_5 rfl rfl ?_
  refine V_aload_n (pc := 6) dX12_oath_6 rfl rfl ?_
  refine V_iload_n (pc := 7) dX12_oath_7 rfl rfl ?_
  refine V_callVpi (pc := 8) (As := [.int p1]) (rest := [.ref (wB w + 171)]) (c_X12_noPerson w p1 s2) cw_X12_297 rfl rfl dX12_oath_8 kc_171 ci_12 ⟨Nat.le_of_ble_eq_true rfl, Nat.le_of_ble_eq_true rfl⟩ rfl rfl (Nat.le_of_ble_eq_true rfl) (Nat.le_of_ble_eq_true rfl) (Nat.le_of_ble_eq_true rfl) rfl (fun q8 => ?_)
  refine V_iconst (pc := 11) dX12_oath_11 ic_1 ?_
  refine V_callVi (pc := 12) (As := [.int q8, .int (1 : Int32)]) (rest := []) (c_X12_throwsIf w q8 (1 : Int32) s2) cw_X12_257 rfl rfl dX12_oath_12 kc_171 ci_12 ⟨Nat.le_of_ble_eq_true rfl, Nat.le_of_ble_eq_true rfl⟩ rfl rfl (Nat.le_of_ble_eq_true rfl) (Nat.le_of_ble_eq_true rfl) (Nat.le_of_ble_eq_true rfl) rfl (fun q12 => ?_)
  refine V_if_ne (pc := 15) (tgt := 35) dX12_oath_15 (by decide +kernel) ?_ ?_
  · refine V_sub (vs' := [none, none, none]) (show vless _ _ from trivial) rfl ?_
    exact hJ35 q12.2
  · refine V_aload_n (pc := 18) dX12_oath_18 rfl rfl ?_
    refine V_iload_n (pc := 19) dX12_oath_19 rfl rfl ?_
    refine V_iconst (pc := 20) dX12_oath_20 ic_3 ?_
    refine V_callVpi (pc := 21) (As := [.int p1, .int (3 : Int32)]) (rest := []) (c_X12_of w p1 (3 : Int32) q12.2) cw_X12_73 rfl rfl dX12_oath_21 kc_171 ci_12 ⟨Nat.le_of_ble_eq_true rfl, Nat.le_of_ble_eq_true rfl⟩ rfl rfl (Nat.le_of_ble_eq_true rfl) (Nat.le_of_ble_eq_true rfl) (Nat.le_of_ble_eq_true rfl) rfl (fun q21 => ?_)
    refine V_iload_n (pc := 24) dX12_oath_24 rfl rfl ?_
    refine V_iconst (pc := 25) dX12_oath_25 ic_m1 ?_
    refine V_ixor (pc := 26) dX12_oath_26 ?_
    refine V_iand (pc := 27) dX12_oath_27 ?_
    refine V_if_ne (pc := 28) (tgt := 35) dX12_oath_28 (by decide +kernel) ?_ ?_
    · refine V_sub (vs' := [none, none, none]) (show vless _ _ from trivial) rfl ?_
      exact hJ35 q12.2
    · refine V_iconst (pc := 31) dX12_oath_31 ic_1 ?_
      refine V_goto (pc := 32) (tgt := 36) dX12_oath_32 (by decide +kernel) ?_
      refine V_sub (vs' := [none, none, none]) (show vless _ _ from trivial) rfl ?_
      exact hJ36 (1 : Int32) q12.2
def J_X12_shortest_31 (t0 : Int32) (σ : MS) : Option (Int32 × MS) := some (t0, σ)
def f_X12_shortest (p1 : Int32) (σ : MS) : Option (Int32 × MS) := (ltM (mu σ 171 0 (0 : Int32)) (fun s2 => ((f_X12_noPerson p1 s2).bind (fun q8 => ((f_X12_throwsIf q8 (1 : Int32) s2).bind (fun q12 => (if q12.1 = 0 then ((f_X12_of p1 (3 : Int32) q12.2).bind (fun q25 => ((f_J6_bitCount_0f7a4 q25 q12.2).bind (fun q28 => J_X12_shortest_31 q28 q12.2)))) else J_X12_shortest_31 (0 : Int32) q12.2)))))))
set_option maxRecDepth 20000 in
set_option maxHeartbeats 2000000 in
theorem c_X12_shortest (w : TG) (p1 : Int32) (σ : MS) : MC m_X12_shortest w [.ref (wB w + 171), .int p1] σ (f_X12_shortest p1 σ) := by
  refine V_meth (by decide +kernel) (Nat.le_of_ble_eq_true rfl) (by intro v hv; simp only [List.mem_cons, List.not_mem_nil, or_false] at hv; rcases hv with rfl | rfl <;> rfl) (fun g x => ?_)
  show VV m_X12_shortest w g 0 0 (QM m_X12_shortest w g x) (fun b : Int32 × MS => b = x) 0 [some (.ref (wB w + 171)), some (.int p1)] [] σ (f_X12_shortest p1 σ)
  have hJ31 : ∀ (t0 : Int32) (σ : MS), VV m_X12_shortest w g 0 0 (QM m_X12_shortest w g x) (fun b : Int32 × MS => b = x) 31 [none, none] [.int t0] σ (J_X12_shortest_31 t0 σ) := by
    intro t0 σ
    exact V_ireti (pc := 31) dX12_shortest_31 rfl (hk := fun h => h)
  refine V_aload_n (pc := 0) dX12_shortest_0 rfl rfl ?_
  refine V_iconst (pc := 1) dX12_shortest_1 ic_0 ?_
  refine V_puti (pc := 2) fp_X12_3 rfl dX12_shortest_2 kc_171 rf_12_0_171 (fun s2 => ?_)
  refine V_aload_n (pc := 5) dX12_shortest_5 rfl rfl ?_
  refine V_aload_n (pc := 6) dX12_shortest_6 rfl rfl ?_
  refine V_iload_n (pc := 7) dX12_shortest_7 rfl rfl ?_
  refine V_callVpi (pc := 8) (As := [.int p1]) (rest := [.ref (wB w + 171)]) (c_X12_noPerson w p1 s2) cw_X12_297 rfl rfl dX12_shortest_8 kc_171 ci_12 ⟨Nat.le_of_ble_eq_true rfl, Nat.le_of_ble_eq_true rfl⟩ rfl rfl (Nat.le_of_ble_eq_true rfl) (Nat.le_of_ble_eq_true rfl) (Nat.le_of_ble_eq_true rfl) rfl (fun q8 => ?_)
  refine V_iconst (pc := 11) dX12_shortest_11 ic_1 ?_
  refine V_callVi (pc := 12) (As := [.int q8, .int (1 : Int32)]) (rest := []) (c_X12_throwsIf w q8 (1 : Int32) s2) cw_X12_257 rfl rfl dX12_shortest_12 kc_171 ci_12 ⟨Nat.le_of_ble_eq_true rfl, Nat.le_of_ble_eq_true rfl⟩ rfl rfl (Nat.le_of_ble_eq_true rfl) (Nat.le_of_ble_eq_true rfl) (Nat.le_of_ble_eq_true rfl) rfl (fun q12 => ?_)
  refine V_if_eq (pc := 15) (tgt := 22) dX12_shortest_15 (by decide +kernel) ?_ ?_
  · refine V_aload_n (pc := 22) dX12_shortest_22 rfl rfl ?_
    refine V_iload_n (pc := 23) dX12_shortest_23 rfl rfl ?_
    refine V_iconst (pc := 24) dX12_shortest_24 ic_3 ?_
    refine V_callVpi (pc := 25) (As := [.int p1, .int (3 : Int32)]) (rest := []) (c_X12_of w p1 (3 : Int32) q12.2) cw_X12_73 rfl rfl dX12_shortest_25 kc_171 ci_12 ⟨Nat.le_of_ble_eq_true rfl, Nat.le_of_ble_eq_true rfl⟩ rfl rfl (Nat.le_of_ble_eq_true rfl) (Nat.le_of_ble_eq_true rfl) (Nat.le_of_ble_eq_true rfl) rfl (fun q25 => ?_)
    refine V_callSpi (pc := 28) (As := [.int q25]) (rest := []) (c_J6_bitCount_0f7a4 w q25 q12.2) cs_X12_318 rfl rfl dX12_shortest_28 ⟨Nat.le_of_ble_eq_true rfl, Nat.le_of_ble_eq_true rfl⟩ rfl rfl (Nat.le_of_ble_eq_true rfl) (Nat.le_of_ble_eq_true rfl) (Nat.le_of_ble_eq_true rfl) rfl (fun q28 => ?_)
    refine V_sub (vs' := [none, none]) (show vless _ _ from trivial) rfl ?_
    exact hJ31 q28 q12.2
  · refine V_iconst (pc := 18) dX12_shortest_18 ic_0 ?_
    refine V_goto (pc := 19) (tgt := 31) dX12_shortest_19 (by decide +kernel) ?_
    refine V_sub (vs' := [none, none]) (show vless _ _ from trivial) rfl ?_
    exact hJ31 (0 : Int32) q12.2
def J_X12_alibi_52 (n : Nat) (v1 : Int32) (v3 : Int32) (t0 : Int32) (t1 : Int32) (σ : MS) : Option ((Int32 × Int32) ⊕ (Int32 × MS)) := some (.inl ((t1 ||| t0), (v3 + (1 : Int32))))
def L_X12_alibi_24 (n : Nat) (v1 : Int32) (σ : MS) (a24 : Int32 × Int32) : Option ((Int32 × Int32) ⊕ (Int32 × MS)) := ((f_X12_people  σ).bind (fun q26 => (if q26 ≤ a24.2 then (some (a24.1, σ)).map Sum.inr else ((f_X12_of a24.2 (3 : Int32) σ).bind (fun q36 => (if q36 = (shlI (1 : Int32) v1) then J_X12_alibi_52 n v1 a24.2 (shlI (1 : Int32) a24.2) a24.1 σ else J_X12_alibi_52 n v1 a24.2 (0 : Int32) a24.1 σ))))))
def f_X12_alibi (n : Nat) (p1 : Int32) (σ : MS) : Option (Int32 × MS) := (ltM (mu σ 171 0 (0 : Int32)) (fun s2 => ((f_X12_noPerson p1 s2).bind (fun q8 => ((f_X12_throwsIf q8 (1 : Int32) s2).bind (fun q12 => (if q12.1 = 0 then itr (L_X12_alibi_24 n p1 q12.2) n ((0 : Int32), (0 : Int32)) else some ((0 : Int32), q12.2))))))))
set_option maxRecDepth 20000 in
set_option maxHeartbeats 2000000 in
theorem c_X12_alibi (w : TG) (n : Nat) (p1 : Int32) (σ : MS) : MC m_X12_alibi w [.ref (wB w + 171), .int p1] σ (f_X12_alibi n p1 σ) := by
  refine V_meth (by decide +kernel) (Nat.le_of_ble_eq_true rfl) (by intro v hv; simp only [List.mem_cons, List.not_mem_nil, or_false] at hv; rcases hv with rfl | rfl <;> rfl) (fun g x => ?_)
  show VV m_X12_alibi w g 0 0 (QM m_X12_alibi w g x) (fun b : Int32 × MS => b = x) 0 [some (.ref (wB w + 171)), some (.int p1), none, none] [] σ (f_X12_alibi n p1 σ)
  have hL24 : ∀ (σ : MS) (n0 : Nat) (a : Int32 × Int32), VV m_X12_alibi w g 0 0 (QM m_X12_alibi w g x) (fun b : Int32 × MS => b = x) 24 [some (.ref (wB w + 171)), some (.int p1), some (.int a.1), some (.int a.2)] [] σ (itr (L_X12_alibi_24 n p1 σ) n0 a) := by
    intro σ
    refine V_itr (vf := fun a : Int32 × Int32 => [some (.ref (wB w + 171)), some (.int p1), some (.int a.1), some (.int a.2)]) (sf := fun a : Int32 × Int32 => σ) (fun κ24 b24 r24 a24 => ?_)
    obtain ⟨a24_1, a24_2⟩ := a24
    show VV m_X12_alibi w g 0 0 (QM m_X12_alibi w g x) κ24 24 [some (.ref (wB w + 171)), some (.int p1), some (.int a24_1), some (.int a24_2)] [] σ (L_X12_alibi_24 n p1 σ (a24_1, a24_2))
    have hJ52 : ∀ (v3 : Int32) (t0 : Int32) (t1 : Int32), VV m_X12_alibi w g 0 0 (QM m_X12_alibi w g x) κ24 52 [some (.ref (wB w + 171)), some (.int p1), none, some (.int v3)] [.int t0, .int t1] σ (J_X12_alibi_52 n p1 v3 t0 t1 σ) := by
      intro v3 t0 t1
      refine V_ior (pc := 52) dX12_alibi_52 ?_
      refine V_istore_n (pc := 53) (vs' := [some (.ref (wB w + 171)), some (.int p1), some (.int (t1 ||| t0)), some (.int v3)]) dX12_alibi_53 rfl (Nat.le_of_ble_eq_true rfl) (Nat.le_of_ble_eq_true rfl) rfl ?_
      refine V_iincC (pc := 54) (vs' := [some (.ref (wB w + 171)), some (.int p1), some (.int (t1 ||| t0)), some (.int (v3 + (1 : Int32)))]) dX12_alibi_54 (Nat.le_of_ble_eq_true rfl) rfl ic_1 rfl ?_
      refine V_goto (pc := 57) (tgt := 24) dX12_alibi_57 (by decide +kernel) ?_
      exact V_back (b24 ((t1 ||| t0), (v3 + (1 : Int32))))
    refine V_iload_n (pc := 24) dX12_alibi_24 rfl rfl ?_
    refine V_aload_n (pc := 25) dX12_alibi_25 rfl rfl ?_
    refine V_callVpi (pc := 26) (As := []) (rest := [.int a24_2]) (c_X12_people w  σ) cw_X12_58 rfl rfl dX12_alibi_26 kc_171 ci_12 ⟨Nat.le_of_ble_eq_true rfl, Nat.le_of_ble_eq_true rfl⟩ rfl rfl (Nat.le_of_ble_eq_true rfl) (Nat.le_of_ble_eq_true rfl) (Nat.le_of_ble_eq_true rfl) rfl (fun q26 => ?_)
    refine V_icmp_ge (pc := 29) (tgt := 60) dX12_alibi_29 (by decide +kernel) ?_ ?_
    · refine V_exit r24 ?_
      refine V_iload_n (pc := 60) dX12_alibi_60 rfl rfl ?_
      exact V_ireti (pc := 61) dX12_alibi_61 rfl (hk := fun h => h)
    · refine V_iload_n (pc := 32) dX12_alibi_32 rfl rfl ?_
      refine V_aload_n (pc := 33) dX12_alibi_33 rfl rfl ?_
      refine V_iload_n (pc := 34) dX12_alibi_34 rfl rfl ?_
      refine V_iconst (pc := 35) dX12_alibi_35 ic_3 ?_
      refine V_callVpi (pc := 36) (As := [.int a24_2, .int (3 : Int32)]) (rest := [.int a24_1]) (c_X12_of w a24_2 (3 : Int32) σ) cw_X12_73 rfl rfl dX12_alibi_36 kc_171 ci_12 ⟨Nat.le_of_ble_eq_true rfl, Nat.le_of_ble_eq_true rfl⟩ rfl rfl (Nat.le_of_ble_eq_true rfl) (Nat.le_of_ble_eq_true rfl) (Nat.le_of_ble_eq_true rfl) rfl (fun q36 => ?_)
      refine V_iconst (pc := 39) dX12_alibi_39 ic_1 ?_
      refine V_iload_n (pc := 40) dX12_alibi_40 rfl rfl ?_
      refine V_ishl (pc := 41) dX12_alibi_41 ?_
      refine V_icmp_ne (pc := 42) (tgt := 51) dX12_alibi_42 (by decide +kernel) ?_ ?_
      · refine V_iconst (pc := 51) dX12_alibi_51 ic_0 ?_
        refine V_sub (vs' := [some (.ref (wB w + 171)), some (.int p1), none, some (.int a24_2)]) (show vless _ _ from ⟨rfl, ⟨rfl, ⟨rfl, trivial⟩⟩⟩) rfl ?_
        exact hJ52 a24_2 (0 : Int32) a24_1
      · refine V_iconst (pc := 45) dX12_alibi_45 ic_1 ?_
        refine V_iload_n (pc := 46) dX12_alibi_46 rfl rfl ?_
        refine V_ishl (pc := 47) dX12_alibi_47 ?_
        refine V_goto (pc := 48) (tgt := 52) dX12_alibi_48 (by decide +kernel) ?_
        refine V_sub (vs' := [some (.ref (wB w + 171)), some (.int p1), none, some (.int a24_2)]) (show vless _ _ from ⟨rfl, ⟨rfl, ⟨rfl, trivial⟩⟩⟩) rfl ?_
        exact hJ52 a24_2 (shlI (1 : Int32) a24_2) a24_1
  refine V_aload_n (pc := 0) dX12_alibi_0 rfl rfl ?_
  refine V_iconst (pc := 1) dX12_alibi_1 ic_0 ?_
  refine V_puti (pc := 2) fp_X12_3 rfl dX12_alibi_2 kc_171 rf_12_0_171 (fun s2 => ?_)
  refine V_aload_n (pc := 5) dX12_alibi_5 rfl rfl ?_
  refine V_aload_n (pc := 6) dX12_alibi_6 rfl rfl ?_
  refine V_iload_n (pc := 7) dX12_alibi_7 rfl rfl ?_
  refine V_callVpi (pc := 8) (As := [.int p1]) (rest := [.ref (wB w + 171)]) (c_X12_noPerson w p1 s2) cw_X12_297 rfl rfl dX12_alibi_8 kc_171 ci_12 ⟨Nat.le_of_ble_eq_true rfl, Nat.le_of_ble_eq_true rfl⟩ rfl rfl (Nat.le_of_ble_eq_true rfl) (Nat.le_of_ble_eq_true rfl) (Nat.le_of_ble_eq_true rfl) rfl (fun q8 => ?_)
  refine V_iconst (pc := 11) dX12_alibi_11 ic_1 ?_
  refine V_callVi (pc := 12) (As := [.int q8, .int (1 : Int32)]) (rest := []) (c_X12_throwsIf w q8 (1 : Int32) s2) cw_X12_257 rfl rfl dX12_alibi_12 kc_171 ci_12 ⟨Nat.le_of_ble_eq_true rfl, Nat.le_of_ble_eq_true rfl⟩ rfl rfl (Nat.le_of_ble_eq_true rfl) (Nat.le_of_ble_eq_true rfl) (Nat.le_of_ble_eq_true rfl) rfl (fun q12 => ?_)
  refine V_if_eq (pc := 15) (tgt := 20) dX12_alibi_15 (by decide +kernel) ?_ ?_
  · refine V_iconst (pc := 20) dX12_alibi_20 ic_0 ?_
    refine V_istore_n (pc := 21) (vs' := [some (.ref (wB w + 171)), some (.int p1), some (.int (0 : Int32)), none]) dX12_alibi_21 rfl (Nat.le_of_ble_eq_true rfl) (Nat.le_of_ble_eq_true rfl) rfl ?_
    refine V_iconst (pc := 22) dX12_alibi_22 ic_0 ?_
    refine V_istore_n (pc := 23) (vs' := [some (.ref (wB w + 171)), some (.int p1), some (.int (0 : Int32)), some (.int (0 : Int32))]) dX12_alibi_23 rfl (Nat.le_of_ble_eq_true rfl) (Nat.le_of_ble_eq_true rfl) rfl ?_
    exact hL24 q12.2 n ((0 : Int32), (0 : Int32))
  · refine V_iconst (pc := 18) dX12_alibi_18 ic_0 ?_
    exact V_ireti (pc := 19) dX12_alibi_19 rfl (hk := fun h => h)
def J_X12_oddsOf_20 (n : Nat) (t0 : Int32) (σ : MS) : Option (Int32) := some t0
def f_X12_oddsOf (n : Nat) (p1 : Int32) (σ : MS) : Option (Int32) := ((f_X12_mostOf n p1 σ).bind (fun q2 => (if 0 ≤ q2 then ((f_X12_bondOf p1 q2 σ).bind (fun q17 => J_X12_oddsOf_20 n q17 σ)) else J_X12_oddsOf_20 n (0 : Int32) σ)))
set_option maxRecDepth 20000 in
set_option maxHeartbeats 2000000 in
theorem c_X12_oddsOf (w : TG) (n : Nat) (p1 : Int32) (σ : MS) : MC m_X12_oddsOf w [.ref (wB w + 171), .int p1] σ ((f_X12_oddsOf n p1 σ).map (fun r => (r, σ))) := by
  refine V_methp (by decide +kernel) (Nat.le_of_ble_eq_true rfl) (by intro v hv; simp only [List.mem_cons, List.not_mem_nil, or_false] at hv; rcases hv with rfl | rfl <;> rfl) (fun g x => ?_)
  show VV m_X12_oddsOf w g 0 0 (QM m_X12_oddsOf w g x) (fun b : Int32 => (b, σ) = x) 0 [some (.ref (wB w + 171)), some (.int p1), none] [] σ (f_X12_oddsOf n p1 σ)
  have hJ20 : ∀ (t0 : Int32), VV m_X12_oddsOf w g 0 0 (QM m_X12_oddsOf w g x) (fun b : Int32 => (b, σ) = x) 20 [none, none, none] [.int t0] σ (J_X12_oddsOf_20 n t0 σ) := by
    intro t0
    exact V_ireti (pc := 20) dX12_oddsOf_20 rfl (hk := fun h => h)
  refine V_aload_n (pc := 0) dX12_oddsOf_0 rfl rfl ?_
  refine V_iload_n (pc := 1) dX12_oddsOf_1 rfl rfl ?_
  refine V_callVpi (pc := 2) (As := [.int p1]) (rest := []) (c_X12_mostOf w n p1 σ) cw_X12_354 rfl rfl dX12_oddsOf_2 kc_171 ci_12 ⟨Nat.le_of_ble_eq_true rfl, Nat.le_of_ble_eq_true rfl⟩ rfl rfl (Nat.le_of_ble_eq_true rfl) (Nat.le_of_ble_eq_true rfl) (Nat.le_of_ble_eq_true rfl) rfl (fun q2 => ?_)
  refine V_istore_n (pc := 5) (vs' := [some (.ref (wB w + 171)), some (.int p1), some (.int q2)]) dX12_oddsOf_5 rfl (Nat.le_of_ble_eq_true rfl) (Nat.le_of_ble_eq_true rfl) rfl ?_
  refine V_iload_n (pc := 6) dX12_oddsOf_6 rfl rfl ?_
  refine V_if_ge (pc := 7) (tgt := 14) dX12_oddsOf_7 (by decide +kernel) ?_ ?_
  · refine V_aload_n (pc := 14) dX12_oddsOf_14 rfl rfl ?_
    refine V_iload_n (pc := 15) dX12_oddsOf_15 rfl rfl ?_
    refine V_iload_n (pc := 16) dX12_oddsOf_16 rfl rfl ?_
    refine V_callVpi (pc := 17) (As := [.int p1, .int q2]) (rest := []) (c_X12_bondOf w p1 q2 σ) cw_X12_315 rfl rfl dX12_oddsOf_17 kc_171 ci_12 ⟨Nat.le_of_ble_eq_true rfl, Nat.le_of_ble_eq_true rfl⟩ rfl rfl (Nat.le_of_ble_eq_true rfl) (Nat.le_of_ble_eq_true rfl) (Nat.le_of_ble_eq_true rfl) rfl (fun q17 => ?_)
    refine V_sub (vs' := [none, none, none]) (show vless _ _ from trivial) rfl ?_
    exact hJ20 q17
  · refine V_iconst (pc := 10) dX12_oddsOf_10 ic_0 ?_
    refine V_goto (pc := 11) (tgt := 20) dX12_oddsOf_11 (by decide +kernel) ?_
    refine V_sub (vs' := [none, none, none]) (show vless _ _ from trivial) rfl ?_
    exact hJ20 (0 : Int32)
def J_X12_odds_52 (n : Nat) (t0 : Int32) (σ : MS) : Option (Int32 × MS) := some (t0, σ)
def J_X12_odds_37 (n : Nat)  (σ : MS) : Option (Int32 × MS) := J_X12_odds_52 n (0 : Int32) σ
def J_X12_odds_30 (n : Nat) (v1 : Int32) (v2 : Int32) (t0 : Int32) (σ : MS) : Option (Int32 × MS) := ((f_X12_throwsIf t0 (2 : Int32) σ).bind (fun q31 => (if q31.1 = 0 then ((f_X12_oddsOf n v1 q31.2).bind (fun q43 => ((f_X12_oddsOf n v2 q31.2).bind (fun q48 => J_X12_odds_52 n (q43 * q48) q31.2)))) else J_X12_odds_37 n  q31.2)))
def f_X12_odds (n : Nat) (p1 : Int32) (p2 : Int32) (σ : MS) : Option (Int32 × MS) := (ltM (mu σ 171 0 (0 : Int32)) (fun s2 => ((f_X12_noBoth p1 p2 s2).bind (fun q9 => ((f_X12_throwsIf q9 (1 : Int32) s2).bind (fun q13 => (if q13.1 = 0 then (if p1 = p2 then J_X12_odds_30 n p1 p2 (1 : Int32) q13.2 else J_X12_odds_30 n p1 p2 (0 : Int32) q13.2) else J_X12_odds_37 n  q13.2)))))))
set_option maxRecDepth 20000 in
set_option maxHeartbeats 2000000 in
theorem c_X12_odds (w : TG) (n : Nat) (p1 : Int32) (p2 : Int32) (σ : MS) : MC m_X12_odds w [.ref (wB w + 171), .int p1, .int p2] σ (f_X12_odds n p1 p2 σ) := by
  refine V_meth (by decide +kernel) (Nat.le_of_ble_eq_true rfl) (by intro v hv; simp only [List.mem_cons, List.not_mem_nil, or_false] at hv; rcases hv with rfl | rfl | rfl <;> rfl) (fun g x => ?_)
  show VV m_X12_odds w g 0 0 (QM m_X12_odds w g x) (fun b : Int32 × MS => b = x) 0 [some (.ref (wB w + 171)), some (.int p1), some (.int p2)] [] σ (f_X12_odds n p1 p2 σ)
  have hJ52 : ∀ (t0 : Int32) (σ : MS), VV m_X12_odds w g 0 0 (QM m_X12_odds w g x) (fun b : Int32 × MS => b = x) 52 [none, none, none] [.int t0] σ (J_X12_odds_52 n t0 σ) := by
    intro t0 σ
    exact V_ireti (pc := 52) dX12_odds_52 rfl (hk := fun h => h)
  have hJ37 : ∀ (σ : MS), VV m_X12_odds w g 0 0 (QM m_X12_odds w g x) (fun b : Int32 × MS => b = x) 37 [none, none, none] [] σ (J_X12_odds_37 n  σ) := by
    intro σ
    refine V_iconst (pc := 37) dX12_odds_37 ic_0 ?_
    refine V_goto (pc := 38) (tgt := 52) dX12_odds_38 (by decide +kernel) ?_
    exact hJ52 (0 : Int32) σ
  have hJ30 : ∀ (t0 : Int32) (σ : MS), VV m_X12_odds w g 0 0 (QM m_X12_odds w g x) (fun b : Int32 × MS => b = x) 30 [some (.ref (wB w + 171)), some (.int p1), some (.int p2)] [.int t0, .ref (wB w + 171)] σ (J_X12_odds_30 n p1 p2 t0 σ) := by
    intro t0 σ
    refine V_iconst (pc := 30) dX12_odds_30 ic_2 ?_
    refine V_callVi (pc := 31) (As := [.int t0, .int (2 : Int32)]) (rest := []) (c_X12_throwsIf w t0 (2 : Int32) σ) cw_X12_257 rfl rfl dX12_odds_31 kc_171 ci_12 ⟨Nat.le_of_ble_eq_true rfl, Nat.le_of_ble_eq_true rfl⟩ rfl rfl (Nat.le_of_ble_eq_true rfl) (Nat.le_of_ble_eq_true rfl) (Nat.le_of_ble_eq_true rfl) rfl (fun q31 => ?_)
    refine V_if_eq (pc := 34) (tgt := 41) dX12_odds_34 (by decide +kernel) ?_ ?_
    · refine V_aload_n (pc := 41) dX12_odds_41 rfl rfl ?_
      refine V_iload_n (pc := 42) dX12_odds_42 rfl rfl ?_
      refine V_callVpi (pc := 43) (As := [.int p1]) (rest := []) (c_X12_oddsOf w n p1 q31.2) cw_X12_428 rfl rfl dX12_odds_43 kc_171 ci_12 ⟨Nat.le_of_ble_eq_true rfl, Nat.le_of_ble_eq_true rfl⟩ rfl rfl (Nat.le_of_ble_eq_true rfl) (Nat.le_of_ble_eq_true rfl) (Nat.le_of_ble_eq_true rfl) rfl (fun q43 => ?_)
      refine V_aload_n (pc := 46) dX12_odds_46 rfl rfl ?_
      refine V_iload_n (pc := 47) dX12_odds_47 rfl rfl ?_
      refine V_callVpi (pc := 48) (As := [.int p2]) (rest := [.int q43]) (c_X12_oddsOf w n p2 q31.2) cw_X12_428 rfl rfl dX12_odds_48 kc_171 ci_12 ⟨Nat.le_of_ble_eq_true rfl, Nat.le_of_ble_eq_true rfl⟩ rfl rfl (Nat.le_of_ble_eq_true rfl) (Nat.le_of_ble_eq_true rfl) (Nat.le_of_ble_eq_true rfl) rfl (fun q48 => ?_)
      refine V_imul (pc := 51) dX12_odds_51 ?_
      refine V_sub (vs' := [none, none, none]) (show vless _ _ from trivial) rfl ?_
      exact hJ52 (q43 * q48) q31.2
    · refine V_sub (vs' := [none, none, none]) (show vless _ _ from trivial) rfl ?_
      exact hJ37 q31.2
  refine V_aload_n (pc := 0) dX12_odds_0 rfl rfl ?_
  refine V_iconst (pc := 1) dX12_odds_1 ic_0 ?_
  refine V_puti (pc := 2) fp_X12_3 rfl dX12_odds_2 kc_171 rf_12_0_171 (fun s2 => ?_)
  refine V_aload_n (pc := 5) dX12_odds_5 rfl rfl ?_
  refine V_aload_n (pc := 6) dX12_odds_6 rfl rfl ?_
  refine V_iload_n (pc := 7) dX12_odds_7 rfl rfl ?_
  refine V_iload_n (pc := 8) dX12_odds_8 rfl rfl ?_
  refine V_callVpi (pc := 9) (As := [.int p1, .int p2]) (rest := [.ref (wB w + 171)]) (c_X12_noBoth w p1 p2 s2) cw_X12_300 rfl rfl dX12_odds_9 kc_171 ci_12 ⟨Nat.le_of_ble_eq_true rfl, Nat.le_of_ble_eq_true rfl⟩ rfl rfl (Nat.le_of_ble_eq_true rfl) (Nat.le_of_ble_eq_true rfl) (Nat.le_of_ble_eq_true rfl) rfl (fun q9 => ?_)
  refine V_iconst (pc := 12) dX12_odds_12 ic_1 ?_
  refine V_callVi (pc := 13) (As := [.int q9, .int (1 : Int32)]) (rest := []) (c_X12_throwsIf w q9 (1 : Int32) s2) cw_X12_257 rfl rfl dX12_odds_13 kc_171 ci_12 ⟨Nat.le_of_ble_eq_true rfl, Nat.le_of_ble_eq_true rfl⟩ rfl rfl (Nat.le_of_ble_eq_true rfl) (Nat.le_of_ble_eq_true rfl) (Nat.le_of_ble_eq_true rfl) rfl (fun q13 => ?_)
  refine V_if_ne (pc := 16) (tgt := 37) dX12_odds_16 (by decide +kernel) ?_ ?_
  · refine V_sub (vs' := [none, none, none]) (show vless _ _ from trivial) rfl ?_
    exact hJ37 q13.2
  · refine V_aload_n (pc := 19) dX12_odds_19 rfl rfl ?_
    refine V_iload_n (pc := 20) dX12_odds_20 rfl rfl ?_
    refine V_iload_n (pc := 21) dX12_odds_21 rfl rfl ?_
    refine V_icmp_ne (pc := 22) (tgt := 29) dX12_odds_22 (by decide +kernel) ?_ ?_
    · refine V_iconst (pc := 29) dX12_odds_29 ic_0 ?_
      exact hJ30 (0 : Int32) q13.2
    · refine V_iconst (pc := 25) dX12_odds_25 ic_1 ?_
      refine V_goto (pc := 26) (tgt := 30) dX12_odds_26 (by decide +kernel) ?_
      exact hJ30 (1 : Int32) q13.2
def L_X12_suspectedOfAll_4 (n : Nat)  (σ : MS) (a4 : Int32 × Int32) : Option ((Int32 × Int32) ⊕ (Int32)) := ((f_X12_people  σ).bind (fun q6 => (if q6 ≤ a4.2 then (some a4.1).map Sum.inr else ((f_X12_of a4.2 (2 : Int32) σ).bind (fun q16 => some (.inl ((a4.1 + q16), (a4.2 + (1 : Int32)))))))))
def f_X12_suspectedOfAll (n : Nat)  (σ : MS) : Option (Int32) := itr (L_X12_suspectedOfAll_4 n  σ) n ((0 : Int32), (0 : Int32))
set_option maxRecDepth 20000 in
set_option maxHeartbeats 2000000 in
theorem c_X12_suspectedOfAll (w : TG) (n : Nat)  (σ : MS) : MC m_X12_suspectedOfAll w [.ref (wB w + 171)] σ ((f_X12_suspectedOfAll n  σ).map (fun r => (r, σ))) := by
  refine V_methp (by decide +kernel) (Nat.le_of_ble_eq_true rfl) (by intro v hv; simp only [List.mem_cons, List.not_mem_nil, or_false] at hv; subst hv; rfl) (fun g x => ?_)
  show VV m_X12_suspectedOfAll w g 0 0 (QM m_X12_suspectedOfAll w g x) (fun b : Int32 => (b, σ) = x) 0 [some (.ref (wB w + 171)), none, none] [] σ (f_X12_suspectedOfAll n  σ)
  have hL4 : ∀  (n0 : Nat) (a : Int32 × Int32), VV m_X12_suspectedOfAll w g 0 0 (QM m_X12_suspectedOfAll w g x) (fun b : Int32 => (b, σ) = x) 4 [some (.ref (wB w + 171)), some (.int a.1), some (.int a.2)] [] σ (itr (L_X12_suspectedOfAll_4 n  σ) n0 a) := by
    refine V_itr (vf := fun a : Int32 × Int32 => [some (.ref (wB w + 171)), some (.int a.1), some (.int a.2)]) (sf := fun a : Int32 × Int32 => σ) (fun κ4 b4 r4 a4 => ?_)
    obtain ⟨a4_1, a4_2⟩ := a4
    show VV m_X12_suspectedOfAll w g 0 0 (QM m_X12_suspectedOfAll w g x) κ4 4 [some (.ref (wB w + 171)), some (.int a4_1), some (.int a4_2)] [] σ (L_X12_suspectedOfAll_4 n  σ (a4_1, a4_2))
    refine V_iload_n (pc := 4) dX12_suspectedOfAll_4 rfl rfl ?_
    refine V_aload_n (pc := 5) dX12_suspectedOfAll_5 rfl rfl ?_
    refine V_callVpi (pc := 6) (As := []) (rest := [.int a4_2]) (c_X12_people w  σ) cw_X12_58 rfl rfl dX12_suspectedOfAll_6 kc_171 ci_12 ⟨Nat.le_of_ble_eq_true rfl, Nat.le_of_ble_eq_true rfl⟩ rfl rfl (Nat.le_of_ble_eq_true rfl) (Nat.le_of_ble_eq_true rfl) (Nat.le_of_ble_eq_true rfl) rfl (fun q6 => ?_)
    refine V_icmp_ge (pc := 9) (tgt := 27) dX12_suspectedOfAll_9 (by decide +kernel) ?_ ?_
    · refine V_exit r4 ?_
      refine V_iload_n (pc := 27) dX12_suspectedOfAll_27 rfl rfl ?_
      exact V_ireti (pc := 28) dX12_suspectedOfAll_28 rfl (hk := fun h => h)
    · refine V_iload_n (pc := 12) dX12_suspectedOfAll_12 rfl rfl ?_
      refine V_aload_n (pc := 13) dX12_suspectedOfAll_13 rfl rfl ?_
      refine V_iload_n (pc := 14) dX12_suspectedOfAll_14 rfl rfl ?_
      refine V_iconst (pc := 15) dX12_suspectedOfAll_15 ic_2 ?_
      refine V_callVpi (pc := 16) (As := [.int a4_2, .int (2 : Int32)]) (rest := [.int a4_1]) (c_X12_of w a4_2 (2 : Int32) σ) cw_X12_73 rfl rfl dX12_suspectedOfAll_16 kc_171 ci_12 ⟨Nat.le_of_ble_eq_true rfl, Nat.le_of_ble_eq_true rfl⟩ rfl rfl (Nat.le_of_ble_eq_true rfl) (Nat.le_of_ble_eq_true rfl) (Nat.le_of_ble_eq_true rfl) rfl (fun q16 => ?_)
      refine V_iadd (pc := 19) dX12_suspectedOfAll_19 ?_
      refine V_istore_n (pc := 20) (vs' := [some (.ref (wB w + 171)), some (.int (a4_1 + q16)), some (.int a4_2)]) dX12_suspectedOfAll_20 rfl (Nat.le_of_ble_eq_true rfl) (Nat.le_of_ble_eq_true rfl) rfl ?_
      refine V_iincC (pc := 21) (vs' := [some (.ref (wB w + 171)), some (.int (a4_1 + q16)), some (.int (a4_2 + (1 : Int32)))]) dX12_suspectedOfAll_21 (Nat.le_of_ble_eq_true rfl) rfl ic_1 rfl ?_
      refine V_goto (pc := 24) (tgt := 4) dX12_suspectedOfAll_24 (by decide +kernel) ?_
      exact V_back (b4 ((a4_1 + q16), (a4_2 + (1 : Int32))))
  refine V_iconst (pc := 0) dX12_suspectedOfAll_0 ic_0 ?_
  refine V_istore_n (pc := 1) (vs' := [some (.ref (wB w + 171)), some (.int (0 : Int32)), none]) dX12_suspectedOfAll_1 rfl (Nat.le_of_ble_eq_true rfl) (Nat.le_of_ble_eq_true rfl) rfl ?_
  refine V_iconst (pc := 2) dX12_suspectedOfAll_2 ic_0 ?_
  refine V_istore_n (pc := 3) (vs' := [some (.ref (wB w + 171)), some (.int (0 : Int32)), some (.int (0 : Int32))]) dX12_suspectedOfAll_3 rfl (Nat.le_of_ble_eq_true rfl) (Nat.le_of_ble_eq_true rfl) rfl ?_
  exact hL4 n ((0 : Int32), (0 : Int32))
def J_X12_trial_71 (n : Nat) (t0 : Int32) (σ : MS) : Option (Int32 × MS) := ((f_X12_bringsBack n  σ).bind (fun q74 => some (t0, q74.2)))
def L_X12_trial_39 (n : Nat) (v1 : Int32) (v2 : Int32) (σ : MS) (a39 : Int32 × Int32 × MS) : Option ((Int32 × Int32 × MS) ⊕ (Int32 × MS)) := (if v1 ≤ a39.2.1 then ((if v2 = 0 then J_X12_trial_71 n a39.1 a39.2.2 else ((f_X12_suspectedOfAll n  a39.2.2).bind (fun q64 => J_X12_trial_71 n q64 a39.2.2)))).map Sum.inr else ((f_X12_oneDay n (0 : Int32) a39.2.2).bind (fun q48 => some (.inl ((a39.1 + q48.1), (a39.2.1 + (1 : Int32)), q48.2)))))
def J_X12_trial_21 (n : Nat) (v1 : Int32) (v2 : Int32) (t0 : Int32) (σ : MS) : Option (Int32 × MS) := ((f_X12_throwsIf t0 (1 : Int32) σ).bind (fun q22 => (if q22.1 = 0 then ((f_X12_keepsAll n  q22.2).bind (fun q31 => itr (L_X12_trial_39 n v1 v2 σ) n ((0 : Int32), (0 : Int32), q31.2))) else some ((0 : Int32), q22.2))))
def f_X12_trial (n : Nat) (p1 : Int32) (p2 : Int32) (σ : MS) : Option (Int32 × MS) := (ltM (mu σ 171 0 (0 : Int32)) (fun s2 => ((f_X12_in p1 (0 : Int32) (60 : Int32) s2).bind (fun q10 => (if q10 = 0 then J_X12_trial_21 n p1 p2 (1 : Int32) s2 else J_X12_trial_21 n p1 p2 (0 : Int32) s2)))))
set_option maxRecDepth 20000 in
set_option maxHeartbeats 2000000 in
theorem c_X12_trial (w : TG) (n : Nat) (p1 : Int32) (p2 : Int32) (σ : MS) : MC m_X12_trial w [.ref (wB w + 171), .int p1, .int p2] σ (f_X12_trial n p1 p2 σ) := by
  refine V_meth (by decide +kernel) (Nat.le_of_ble_eq_true rfl) (by intro v hv; simp only [List.mem_cons, List.not_mem_nil, or_false] at hv; rcases hv with rfl | rfl | rfl <;> rfl) (fun g x => ?_)
  show VV m_X12_trial w g 0 0 (QM m_X12_trial w g x) (fun b : Int32 × MS => b = x) 0 [some (.ref (wB w + 171)), some (.int p1), some (.int p2), none, none] [] σ (f_X12_trial n p1 p2 σ)
  have hJ71 : ∀ (t0 : Int32) (σ : MS), VV m_X12_trial w g 0 0 (QM m_X12_trial w g x) (fun b : Int32 × MS => b = x) 71 [some (.ref (wB w + 171)), none, none, none, none] [.int t0] σ (J_X12_trial_71 n t0 σ) := by
    intro t0 σ
    refine V_istore (pc := 71) (vs' := [some (.ref (wB w + 171)), none, none, none, some (.int t0)]) dX12_trial_71 (Nat.le_of_ble_eq_true rfl) (Nat.le_of_ble_eq_true rfl) rfl ?_
    refine V_aload_n (pc := 73) dX12_trial_73 rfl rfl ?_
    refine V_callVv (pc := 74) (As := []) (rest := []) (c_X12_bringsBack w n  σ) cw_X12_342 rfl rfl dX12_trial_74 kc_171 ci_12 ⟨Nat.le_of_ble_eq_true rfl, Nat.le_of_ble_eq_true rfl⟩ rfl rfl (Nat.le_of_ble_eq_true rfl) (Nat.le_of_ble_eq_true rfl) (Nat.le_of_ble_eq_true rfl) rfl (fun q74 => ?_)
    refine V_iload (pc := 77) dX12_trial_77 rfl ?_
    exact V_ireti (pc := 79) dX12_trial_79 rfl (hk := fun h => h)
  have hL39 : ∀  (n0 : Nat) (a : Int32 × Int32 × MS), VV m_X12_trial w g 0 0 (QM m_X12_trial w g x) (fun b : Int32 × MS => b = x) 39 [some (.ref (wB w + 171)), some (.int p1), some (.int p2), some (.int a.1), some (.int a.2.1)] [] a.2.2 (itr (L_X12_trial_39 n p1 p2 σ) n0 a) := by
    refine V_itr (vf := fun a : Int32 × Int32 × MS => [some (.ref (wB w + 171)), some (.int p1), some (.int p2), some (.int a.1), some (.int a.2.1)]) (sf := fun a : Int32 × Int32 × MS => a.2.2) (fun κ39 b39 r39 a39 => ?_)
    obtain ⟨a39_1, a39_2, a39_3⟩ := a39
    show VV m_X12_trial w g 0 0 (QM m_X12_trial w g x) κ39 39 [some (.ref (wB w + 171)), some (.int p1), some (.int p2), some (.int a39_1), some (.int a39_2)] [] a39_3 (L_X12_trial_39 n p1 p2 σ (a39_1, a39_2, a39_3))
    refine V_iload (pc := 39) dX12_trial_39 rfl ?_
    refine V_iload_n (pc := 41) dX12_trial_41 rfl rfl ?_
    refine V_icmp_ge (pc := 42) (tgt := 59) dX12_trial_42 (by decide +kernel) ?_ ?_
    · refine V_exit r39 ?_
      refine V_iload_n (pc := 59) dX12_trial_59 rfl rfl ?_
      refine V_if_eq (pc := 60) (tgt := 70) dX12_trial_60 (by decide +kernel) ?_ ?_
      · refine V_iload_n (pc := 70) dX12_trial_70 rfl rfl ?_
        refine V_sub (vs' := [some (.ref (wB w + 171)), none, none, none, none]) (show vless _ _ from ⟨rfl, trivial⟩) rfl ?_
        exact hJ71 a39_1 a39_3
      · refine V_aload_n (pc := 63) dX12_trial_63 rfl rfl ?_
        refine V_callVpi (pc := 64) (As := []) (rest := []) (c_X12_suspectedOfAll w n  a39_3) cw_X12_431 rfl rfl dX12_trial_64 kc_171 ci_12 ⟨Nat.le_of_ble_eq_true rfl, Nat.le_of_ble_eq_true rfl⟩ rfl rfl (Nat.le_of_ble_eq_true rfl) (Nat.le_of_ble_eq_true rfl) (Nat.le_of_ble_eq_true rfl) rfl (fun q64 => ?_)
        refine V_goto (pc := 67) (tgt := 71) dX12_trial_67 (by decide +kernel) ?_
        refine V_sub (vs' := [some (.ref (wB w + 171)), none, none, none, none]) (show vless _ _ from ⟨rfl, trivial⟩) rfl ?_
        exact hJ71 q64 a39_3
    · refine V_iload_n (pc := 45) dX12_trial_45 rfl rfl ?_
      refine V_aload_n (pc := 46) dX12_trial_46 rfl rfl ?_
      refine V_iconst (pc := 47) dX12_trial_47 ic_0 ?_
      refine V_callVi (pc := 48) (As := [.int (0 : Int32)]) (rest := [.int a39_1]) (c_X12_oneDay w n (0 : Int32) a39_3) cw_X12_409 rfl rfl dX12_trial_48 kc_171 ci_12 ⟨Nat.le_of_ble_eq_true rfl, Nat.le_of_ble_eq_true rfl⟩ rfl rfl (Nat.le_of_ble_eq_true rfl) (Nat.le_of_ble_eq_true rfl) (Nat.le_of_ble_eq_true rfl) rfl (fun q48 => ?_)
      refine V_iadd (pc := 51) dX12_trial_51 ?_
      refine V_istore_n (pc := 52) (vs' := [some (.ref (wB w + 171)), some (.int p1), some (.int p2), some (.int (a39_1 + q48.1)), some (.int a39_2)]) dX12_trial_52 rfl (Nat.le_of_ble_eq_true rfl) (Nat.le_of_ble_eq_true rfl) rfl ?_
      refine V_iincC (pc := 53) (vs' := [some (.ref (wB w + 171)), some (.int p1), some (.int p2), some (.int (a39_1 + q48.1)), some (.int (a39_2 + (1 : Int32)))]) dX12_trial_53 (Nat.le_of_ble_eq_true rfl) rfl ic_1 rfl ?_
      refine V_goto (pc := 56) (tgt := 39) dX12_trial_56 (by decide +kernel) ?_
      exact V_back (b39 ((a39_1 + q48.1), (a39_2 + (1 : Int32)), q48.2))
  have hJ21 : ∀ (t0 : Int32) (σ : MS), VV m_X12_trial w g 0 0 (QM m_X12_trial w g x) (fun b : Int32 × MS => b = x) 21 [some (.ref (wB w + 171)), some (.int p1), some (.int p2), none, none] [.int t0, .ref (wB w + 171)] σ (J_X12_trial_21 n p1 p2 t0 σ) := by
    intro t0 σ
    refine V_iconst (pc := 21) dX12_trial_21 ic_1 ?_
    refine V_callVi (pc := 22) (As := [.int t0, .int (1 : Int32)]) (rest := []) (c_X12_throwsIf w t0 (1 : Int32) σ) cw_X12_257 rfl rfl dX12_trial_22 kc_171 ci_12 ⟨Nat.le_of_ble_eq_true rfl, Nat.le_of_ble_eq_true rfl⟩ rfl rfl (Nat.le_of_ble_eq_true rfl) (Nat.le_of_ble_eq_true rfl) (Nat.le_of_ble_eq_true rfl) rfl (fun q22 => ?_)
    refine V_if_eq (pc := 25) (tgt := 30) dX12_trial_25 (by decide +kernel) ?_ ?_
    · refine V_aload_n (pc := 30) dX12_trial_30 rfl rfl ?_
      refine V_callVv (pc := 31) (As := []) (rest := []) (c_X12_keepsAll w n  q22.2) cw_X12_339 rfl rfl dX12_trial_31 kc_171 ci_12 ⟨Nat.le_of_ble_eq_true rfl, Nat.le_of_ble_eq_true rfl⟩ rfl rfl (Nat.le_of_ble_eq_true rfl) (Nat.le_of_ble_eq_true rfl) (Nat.le_of_ble_eq_true rfl) rfl (fun q31 => ?_)
      refine V_iconst (pc := 34) dX12_trial_34 ic_0 ?_
      refine V_istore_n (pc := 35) (vs' := [some (.ref (wB w + 171)), some (.int p1), some (.int p2), some (.int (0 : Int32)), none]) dX12_trial_35 rfl (Nat.le_of_ble_eq_true rfl) (Nat.le_of_ble_eq_true rfl) rfl ?_
      refine V_iconst (pc := 36) dX12_trial_36 ic_0 ?_
      refine V_istore (pc := 37) (vs' := [some (.ref (wB w + 171)), some (.int p1), some (.int p2), some (.int (0 : Int32)), some (.int (0 : Int32))]) dX12_trial_37 (Nat.le_of_ble_eq_true rfl) (Nat.le_of_ble_eq_true rfl) rfl ?_
      exact hL39 n ((0 : Int32), (0 : Int32), q31.2)
    · refine V_iconst (pc := 28) dX12_trial_28 ic_0 ?_
      exact V_ireti (pc := 29) dX12_trial_29 rfl (hk := fun h => h)
  refine V_aload_n (pc := 0) dX12_trial_0 rfl rfl ?_
  refine V_iconst (pc := 1) dX12_trial_1 ic_0 ?_
  refine V_puti (pc := 2) fp_X12_3 rfl dX12_trial_2 kc_171 rf_12_0_171 (fun s2 => ?_)
  refine V_aload_n (pc := 5) dX12_trial_5 rfl rfl ?_
  refine V_iload_n (pc := 6) dX12_trial_6 rfl rfl ?_
  refine V_iconst (pc := 7) dX12_trial_7 ic_0 ?_
  refine V_bipush (pc := 8) dX12_trial_8 bp_60 ?_
  refine V_callSpi (pc := 10) (As := [.int p1, .int (0 : Int32), .int (60 : Int32)]) (rest := [.ref (wB w + 171)]) (c_X12_in w p1 (0 : Int32) (60 : Int32) s2) cs_X12_79 rfl rfl dX12_trial_10 ⟨Nat.le_of_ble_eq_true rfl, Nat.le_of_ble_eq_true rfl⟩ rfl rfl (Nat.le_of_ble_eq_true rfl) (Nat.le_of_ble_eq_true rfl) (Nat.le_of_ble_eq_true rfl) rfl (fun q10 => ?_)
  refine V_if_ne (pc := 13) (tgt := 20) dX12_trial_13 (by decide +kernel) ?_ ?_
  · refine V_iconst (pc := 20) dX12_trial_20 ic_0 ?_
    exact hJ21 (0 : Int32) s2
  · refine V_iconst (pc := 16) dX12_trial_16 ic_1 ?_
    refine V_goto (pc := 17) (tgt := 21) dX12_trial_17 (by decide +kernel) ?_
    exact hJ21 (1 : Int32) s2
def J_X12_span_115 (n : Nat) (v1 : Int32) (v2 : Int32) (v4 : Int32) (t0 : Int32) (σ : MS) : Option ((Int32 × Int32 × MS) ⊕ (Int32 × MS)) := some (.inl (t0, (v4 + (1 : Int32)), σ))
def L_X12_span_61 (n : Nat) (v1 : Int32) (v2 : Int32) (v3 : Int32) (v4 : Int32) (σ : MS) (a61 : Int32 × Int32 × MS) : Option ((Int32 × Int32 × MS) ⊕ ((Int32 × Int32 × MS) ⊕ (Int32 × MS))) := (if v1 ≤ a61.2.1 then (((f_X12_bringsBack n  a61.2.2).bind (fun q84 => (if 0 ≤ v3 then (if v2 = 0 then J_X12_span_115 n v1 v2 v4 (mnI v3 a61.1) q84.2 else J_X12_span_115 n v1 v2 v4 (mxI v3 a61.1) q84.2) else J_X12_span_115 n v1 v2 v4 a61.1 q84.2)))).map Sum.inr else ((f_X12_oneDay n (0 : Int32) a61.2.2).bind (fun q71 => some (.inl ((a61.1 + q71.1), (a61.2.1 + (1 : Int32)), q71.2)))))
def L_X12_span_39 (n : Nat) (v1 : Int32) (v2 : Int32) (σ : MS) (a39 : Int32 × Int32 × MS) : Option ((Int32 × Int32 × MS) ⊕ (Int32 × MS)) := (if (6 : Int32) < a39.2.1 then (some (a39.1, a39.2.2)).map Sum.inr else (ltM (mu a39.2.2 172 9 a39.2.1) (fun s54 => itr (L_X12_span_61 n v1 v2 a39.1 a39.2.1 σ) n ((0 : Int32), (0 : Int32), s54))))
def J_X12_span_21 (n : Nat) (v1 : Int32) (v2 : Int32) (t0 : Int32) (σ : MS) : Option (Int32 × MS) := ((f_X12_throwsIf t0 (1 : Int32) σ).bind (fun q22 => (if q22.1 = 0 then ((f_X12_keepsAll n  q22.2).bind (fun q31 => itr (L_X12_span_39 n v1 v2 σ) n ((-1 : Int32), (1 : Int32), q31.2))) else some ((0 : Int32), q22.2))))
def f_X12_span (n : Nat) (p1 : Int32) (p2 : Int32) (σ : MS) : Option (Int32 × MS) := (ltM (mu σ 171 0 (0 : Int32)) (fun s2 => ((f_X12_in p1 (0 : Int32) (60 : Int32) s2).bind (fun q10 => (if q10 = 0 then J_X12_span_21 n p1 p2 (1 : Int32) s2 else J_X12_span_21 n p1 p2 (0 : Int32) s2)))))
set_option maxRecDepth 20000 in
set_option maxHeartbeats 2000000 in
theorem c_X12_span (w : TG) (n : Nat) (p1 : Int32) (p2 : Int32) (σ : MS) : MC m_X12_span w [.ref (wB w + 171), .int p1, .int p2] σ (f_X12_span n p1 p2 σ) := by
  refine V_meth (by decide +kernel) (Nat.le_of_ble_eq_true rfl) (by intro v hv; simp only [List.mem_cons, List.not_mem_nil, or_false] at hv; rcases hv with rfl | rfl | rfl <;> rfl) (fun g x => ?_)
  show VV m_X12_span w g 0 0 (QM m_X12_span w g x) (fun b : Int32 × MS => b = x) 0 [some (.ref (wB w + 171)), some (.int p1), some (.int p2), none, none, none, none] [] σ (f_X12_span n p1 p2 σ)
  have hL39 : ∀  (n0 : Nat) (a : Int32 × Int32 × MS), VV m_X12_span w g 0 0 (QM m_X12_span w g x) (fun b : Int32 × MS => b = x) 39 [some (.ref (wB w + 171)), some (.int p1), some (.int p2), some (.int a.1), some (.int a.2.1), none, none] [] a.2.2 (itr (L_X12_span_39 n p1 p2 σ) n0 a) := by
    refine V_itr (vf := fun a : Int32 × Int32 × MS => [some (.ref (wB w + 171)), some (.int p1), some (.int p2), some (.int a.1), some (.int a.2.1), none, none]) (sf := fun a : Int32 × Int32 × MS => a.2.2) (fun κ39 b39 r39 a39 => ?_)
    obtain ⟨a39_1, a39_2, a39_3⟩ := a39
    show VV m_X12_span w g 0 0 (QM m_X12_span w g x) κ39 39 [some (.ref (wB w + 171)), some (.int p1), some (.int p2), some (.int a39_1), some (.int a39_2), none, none] [] a39_3 (L_X12_span_39 n p1 p2 σ (a39_1, a39_2, a39_3))
    have hJ115 : ∀ (v4 : Int32) (t0 : Int32) (σ : MS), VV m_X12_span w g 0 0 (QM m_X12_span w g x) κ39 115 [some (.ref (wB w + 171)), some (.int p1), some (.int p2), none, some (.int v4), none, none] [.int t0] σ (J_X12_span_115 n p1 p2 v4 t0 σ) := by
      intro v4 t0 σ
      refine V_istore_n (pc := 115) (vs' := [some (.ref (wB w + 171)), some (.int p1), some (.int p2), some (.int t0), some (.int v4), none, none]) dX12_span_115 rfl (Nat.le_of_ble_eq_true rfl) (Nat.le_of_ble_eq_true rfl) rfl ?_
      refine V_iincC (pc := 116) (vs' := [some (.ref (wB w + 171)), some (.int p1), some (.int p2), some (.int t0), some (.int (v4 + (1 : Int32))), none, none]) dX12_span_116 (Nat.le_of_ble_eq_true rfl) rfl ic_1 rfl ?_
      refine V_goto (pc := 119) (tgt := 39) dX12_span_119 (by decide +kernel) ?_
      exact V_back (b39 (t0, (v4 + (1 : Int32)), σ))
    have hL61 : ∀ (v3 : Int32) (v4 : Int32) (n0 : Nat) (a : Int32 × Int32 × MS), VV m_X12_span w g 0 0 (QM m_X12_span w g x) κ39 61 [some (.ref (wB w + 171)), some (.int p1), some (.int p2), some (.int v3), some (.int v4), some (.int a.1), some (.int a.2.1)] [] a.2.2 (itr (L_X12_span_61 n p1 p2 v3 v4 σ) n0 a) := by
      intro v3 v4
      refine V_itr (vf := fun a : Int32 × Int32 × MS => [some (.ref (wB w + 171)), some (.int p1), some (.int p2), some (.int v3), some (.int v4), some (.int a.1), some (.int a.2.1)]) (sf := fun a : Int32 × Int32 × MS => a.2.2) (fun κ61 b61 r61 a61 => ?_)
      obtain ⟨a61_1, a61_2, a61_3⟩ := a61
      show VV m_X12_span w g 0 0 (QM m_X12_span w g x) κ61 61 [some (.ref (wB w + 171)), some (.int p1), some (.int p2), some (.int v3), some (.int v4), some (.int a61_1), some (.int a61_2)] [] a61_3 (L_X12_span_61 n p1 p2 v3 v4 σ (a61_1, a61_2, a61_3))
      refine V_iload (pc := 61) dX12_span_61 rfl ?_
      refine V_iload_n (pc := 63) dX12_span_63 rfl rfl ?_
      refine V_icmp_ge (pc := 64) (tgt := 83) dX12_span_64 (by decide +kernel) ?_ ?_
      · refine V_exit r61 ?_
        refine V_aload_n (pc := 83) dX12_span_83 rfl rfl ?_
        refine V_callVv (pc := 84) (As := []) (rest := []) (c_X12_bringsBack w n  a61_3) cw_X12_342 rfl rfl dX12_span_84 kc_171 ci_12 ⟨Nat.le_of_ble_eq_true rfl, Nat.le_of_ble_eq_true rfl⟩ rfl rfl (Nat.le_of_ble_eq_true rfl) (Nat.le_of_ble_eq_true rfl) (Nat.le_of_ble_eq_true rfl) rfl (fun q84 => ?_)
        refine V_iload_n (pc := 87) dX12_span_87 rfl rfl ?_
        refine V_if_ge (pc := 88) (tgt := 96) dX12_span_88 (by decide +kernel) ?_ ?_
        · refine V_iload_n (pc := 96) dX12_span_96 rfl rfl ?_
          refine V_if_eq (pc := 97) (tgt := 109) dX12_span_97 (by decide +kernel) ?_ ?_
          · refine V_iload_n (pc := 109) dX12_span_109 rfl rfl ?_
            refine V_iload (pc := 110) dX12_span_110 rfl ?_
            refine V_mmin (pc := 112) dX12_span_112 rfl mw_X12_283 (Nat.le_of_ble_eq_true rfl) (Nat.le_of_ble_eq_true rfl) (Nat.le_of_ble_eq_true rfl) (Nat.le_of_ble_eq_true rfl) ?_
            refine V_sub (vs' := [some (.ref (wB w + 171)), some (.int p1), some (.int p2), none, some (.int v4), none, none]) (show vless _ _ from ⟨rfl, ⟨rfl, ⟨rfl, ⟨rfl, trivial⟩⟩⟩⟩) rfl ?_
            exact hJ115 v4 (mnI v3 a61_1) q84.2
          · refine V_iload_n (pc := 100) dX12_span_100 rfl rfl ?_
            refine V_iload (pc := 101) dX12_span_101 rfl ?_
            refine V_mmax (pc := 103) dX12_span_103 rfl mw_X12_288 (Nat.le_of_ble_eq_true rfl) (Nat.le_of_ble_eq_true rfl) (Nat.le_of_ble_eq_true rfl) (Nat.le_of_ble_eq_true rfl) ?_
            refine V_goto (pc := 106) (tgt := 115) dX12_span_106 (by decide +kernel) ?_
            refine V_sub (vs' := [some (.ref (wB w + 171)), some (.int p1), some (.int p2), none, some (.int v4), none, none]) (show vless _ _ from ⟨rfl, ⟨rfl, ⟨rfl, ⟨rfl, trivial⟩⟩⟩⟩) rfl ?_
            exact hJ115 v4 (mxI v3 a61_1) q84.2
        · refine V_iload (pc := 91) dX12_span_91 rfl ?_
          refine V_goto (pc := 93) (tgt := 115) dX12_span_93 (by decide +kernel) ?_
          refine V_sub (vs' := [some (.ref (wB w + 171)), some (.int p1), some (.int p2), none, some (.int v4), none, none]) (show vless _ _ from ⟨rfl, ⟨rfl, ⟨rfl, ⟨rfl, trivial⟩⟩⟩⟩) rfl ?_
          exact hJ115 v4 a61_1 q84.2
      · refine V_iload (pc := 67) dX12_span_67 rfl ?_
        refine V_aload_n (pc := 69) dX12_span_69 rfl rfl ?_
        refine V_iconst (pc := 70) dX12_span_70 ic_0 ?_
        refine V_callVi (pc := 71) (As := [.int (0 : Int32)]) (rest := [.int a61_1]) (c_X12_oneDay w n (0 : Int32) a61_3) cw_X12_409 rfl rfl dX12_span_71 kc_171 ci_12 ⟨Nat.le_of_ble_eq_true rfl, Nat.le_of_ble_eq_true rfl⟩ rfl rfl (Nat.le_of_ble_eq_true rfl) (Nat.le_of_ble_eq_true rfl) (Nat.le_of_ble_eq_true rfl) rfl (fun q71 => ?_)
        refine V_iadd (pc := 74) dX12_span_74 ?_
        refine V_istore (pc := 75) (vs' := [some (.ref (wB w + 171)), some (.int p1), some (.int p2), some (.int v3), some (.int v4), some (.int (a61_1 + q71.1)), some (.int a61_2)]) dX12_span_75 (Nat.le_of_ble_eq_true rfl) (Nat.le_of_ble_eq_true rfl) rfl ?_
        refine V_iincC (pc := 77) (vs' := [some (.ref (wB w + 171)), some (.int p1), some (.int p2), some (.int v3), some (.int v4), some (.int (a61_1 + q71.1)), some (.int (a61_2 + (1 : Int32)))]) dX12_span_77 (Nat.le_of_ble_eq_true rfl) rfl ic_1 rfl ?_
        refine V_goto (pc := 80) (tgt := 61) dX12_span_80 (by decide +kernel) ?_
        exact V_back (b61 ((a61_1 + q71.1), (a61_2 + (1 : Int32)), q71.2))
    refine V_iload (pc := 39) dX12_span_39 rfl ?_
    refine V_bipush (pc := 41) dX12_span_41 bp_6 ?_
    refine V_icmp_gt (pc := 43) (tgt := 122) dX12_span_43 (by decide +kernel) ?_ ?_
    · refine V_exit r39 ?_
      refine V_iload_n (pc := 122) dX12_span_122 rfl rfl ?_
      exact V_ireti (pc := 123) dX12_span_123 rfl (hk := fun h => h)
    · refine V_aload_n (pc := 46) dX12_span_46 rfl rfl ?_
      refine V_getr (pc := 47) (t := 172) fk_X12_13 rfl dX12_span_47 kc_171 rf_12_1_171 ?_
      refine V_bipush (pc := 50) dX12_span_50 bp_9 ?_
      refine V_iload (pc := 52) dX12_span_52 rfl ?_
      refine V_iastC (pc := 54) (n := 2172) dX12_span_54 kc_172 lc_172 inb_9_2172 (fun s54 => ?_)
      refine V_iconst (pc := 55) dX12_span_55 ic_0 ?_
      refine V_istore (pc := 56) (vs' := [some (.ref (wB w + 171)), some (.int p1), some (.int p2), some (.int a39_1), some (.int a39_2), some (.int (0 : Int32)), none]) dX12_span_56 (Nat.le_of_ble_eq_true rfl) (Nat.le_of_ble_eq_true rfl) rfl ?_
      refine V_iconst (pc := 58) dX12_span_58 ic_0 ?_
      refine V_istore (pc := 59) (vs' := [some (.ref (wB w + 171)), some (.int p1), some (.int p2), some (.int a39_1), some (.int a39_2), some (.int (0 : Int32)), some (.int (0 : Int32))]) dX12_span_59 (Nat.le_of_ble_eq_true rfl) (Nat.le_of_ble_eq_true rfl) rfl ?_
      exact hL61 a39_1 a39_2 n ((0 : Int32), (0 : Int32), s54)
  have hJ21 : ∀ (t0 : Int32) (σ : MS), VV m_X12_span w g 0 0 (QM m_X12_span w g x) (fun b : Int32 × MS => b = x) 21 [some (.ref (wB w + 171)), some (.int p1), some (.int p2), none, none, none, none] [.int t0, .ref (wB w + 171)] σ (J_X12_span_21 n p1 p2 t0 σ) := by
    intro t0 σ
    refine V_iconst (pc := 21) dX12_span_21 ic_1 ?_
    refine V_callVi (pc := 22) (As := [.int t0, .int (1 : Int32)]) (rest := []) (c_X12_throwsIf w t0 (1 : Int32) σ) cw_X12_257 rfl rfl dX12_span_22 kc_171 ci_12 ⟨Nat.le_of_ble_eq_true rfl, Nat.le_of_ble_eq_true rfl⟩ rfl rfl (Nat.le_of_ble_eq_true rfl) (Nat.le_of_ble_eq_true rfl) (Nat.le_of_ble_eq_true rfl) rfl (fun q22 => ?_)
    refine V_if_eq (pc := 25) (tgt := 30) dX12_span_25 (by decide +kernel) ?_ ?_
    · refine V_aload_n (pc := 30) dX12_span_30 rfl rfl ?_
      refine V_callVv (pc := 31) (As := []) (rest := []) (c_X12_keepsAll w n  q22.2) cw_X12_339 rfl rfl dX12_span_31 kc_171 ci_12 ⟨Nat.le_of_ble_eq_true rfl, Nat.le_of_ble_eq_true rfl⟩ rfl rfl (Nat.le_of_ble_eq_true rfl) (Nat.le_of_ble_eq_true rfl) (Nat.le_of_ble_eq_true rfl) rfl (fun q31 => ?_)
      refine V_iconst (pc := 34) dX12_span_34 ic_m1 ?_
      refine V_istore_n (pc := 35) (vs' := [some (.ref (wB w + 171)), some (.int p1), some (.int p2), some (.int (-1 : Int32)), none, none, none]) dX12_span_35 rfl (Nat.le_of_ble_eq_true rfl) (Nat.le_of_ble_eq_true rfl) rfl ?_
      refine V_iconst (pc := 36) dX12_span_36 ic_1 ?_
      refine V_istore (pc := 37) (vs' := [some (.ref (wB w + 171)), some (.int p1), some (.int p2), some (.int (-1 : Int32)), some (.int (1 : Int32)), none, none]) dX12_span_37 (Nat.le_of_ble_eq_true rfl) (Nat.le_of_ble_eq_true rfl) rfl ?_
      exact hL39 n ((-1 : Int32), (1 : Int32), q31.2)
    · refine V_iconst (pc := 28) dX12_span_28 ic_0 ?_
      exact V_ireti (pc := 29) dX12_span_29 rfl (hk := fun h => h)
  refine V_aload_n (pc := 0) dX12_span_0 rfl rfl ?_
  refine V_iconst (pc := 1) dX12_span_1 ic_0 ?_
  refine V_puti (pc := 2) fp_X12_3 rfl dX12_span_2 kc_171 rf_12_0_171 (fun s2 => ?_)
  refine V_aload_n (pc := 5) dX12_span_5 rfl rfl ?_
  refine V_iload_n (pc := 6) dX12_span_6 rfl rfl ?_
  refine V_iconst (pc := 7) dX12_span_7 ic_0 ?_
  refine V_bipush (pc := 8) dX12_span_8 bp_60 ?_
  refine V_callSpi (pc := 10) (As := [.int p1, .int (0 : Int32), .int (60 : Int32)]) (rest := [.ref (wB w + 171)]) (c_X12_in w p1 (0 : Int32) (60 : Int32) s2) cs_X12_79 rfl rfl dX12_span_10 ⟨Nat.le_of_ble_eq_true rfl, Nat.le_of_ble_eq_true rfl⟩ rfl rfl (Nat.le_of_ble_eq_true rfl) (Nat.le_of_ble_eq_true rfl) (Nat.le_of_ble_eq_true rfl) rfl (fun q10 => ?_)
  refine V_if_ne (pc := 13) (tgt := 20) dX12_span_13 (by decide +kernel) ?_ ?_
  · refine V_iconst (pc := 20) dX12_span_20 ic_0 ?_
    exact hJ21 (0 : Int32) s2
  · refine V_iconst (pc := 16) dX12_span_16 ic_1 ?_
    refine V_goto (pc := 17) (tgt := 21) dX12_span_17 (by decide +kernel) ?_
    exact hJ21 (1 : Int32) s2
def f_X12_ofLog (p1 : Int32) (p2 : Int32) (σ : MS) : Option (Int32) := (if inb (((234 : Int32) + ((4 : Int32) * p1)) + p2) 2172 then some (σ 172 (ix (((234 : Int32) + ((4 : Int32) * p1)) + p2))) else none)
set_option maxRecDepth 20000 in
set_option maxHeartbeats 2000000 in
theorem c_X12_ofLog (w : TG) (p1 : Int32) (p2 : Int32) (σ : MS) : MC m_X12_ofLog w [.ref (wB w + 171), .int p1, .int p2] σ ((f_X12_ofLog p1 p2 σ).map (fun r => (r, σ))) := by
  refine V_methp (by decide +kernel) (Nat.le_of_ble_eq_true rfl) (by intro v hv; simp only [List.mem_cons, List.not_mem_nil, or_false] at hv; rcases hv with rfl | rfl | rfl <;> rfl) (fun g x => ?_)
  show VV m_X12_ofLog w g 0 0 (QM m_X12_ofLog w g x) (fun b : Int32 => (b, σ) = x) 0 [some (.ref (wB w + 171)), some (.int p1), some (.int p2)] [] σ (f_X12_ofLog p1 p2 σ)
  refine V_aload_n (pc := 0) dX12_ofLog_0 rfl rfl ?_
  refine V_getr (pc := 1) (t := 172) fk_X12_13 rfl dX12_ofLog_1 kc_171 rf_12_1_171 ?_
  refine V_sipush (pc := 4) dX12_ofLog_4 sp_234 ?_
  refine V_iconst (pc := 7) dX12_ofLog_7 ic_4 ?_
  refine V_iload_n (pc := 8) dX12_ofLog_8 rfl rfl ?_
  refine V_imul (pc := 9) dX12_ofLog_9 ?_
  refine V_iadd (pc := 10) dX12_ofLog_10 ?_
  refine V_iload_n (pc := 11) dX12_ofLog_11 rfl rfl ?_
  refine V_iadd (pc := 12) dX12_ofLog_12 ?_
  refine V_iald (pc := 13) (n := 2172) dX12_ofLog_13 kc_172 lc_172 ?_
  exact V_ireti (pc := 14) dX12_ofLog_14 rfl (hk := fun h => h)
def J_X12_led_94 (n : Nat) (t0 : Int32) (σ : MS) : Option (Int32 × MS) := some (t0, σ)
def J_X12_led_78 (n : Nat) (v1 : Int32) (v2 : Int32) (v3 : Int32) (v4 : Int32) (v5 : Int32) (σ : MS) : Option ((Int32 × Int32 × Int32) ⊕ (Int32 × MS)) := some (.inl (v3, v4, (v5 + (-1 : Int32))))
def J_X12_led_66 (n : Nat) (v1 : Int32) (v2 : Int32) (v3 : Int32) (v5 : Int32) (σ : MS) : Option ((Int32 × Int32 × Int32) ⊕ (Int32 × MS)) := ((f_X12_ofLog v5 (3 : Int32) σ).bind (fun q73 => J_X12_led_78 n v1 v2 (v3 + (1 : Int32)) q73 v5 σ))
def L_X12_led_36 (n : Nat) (v1 : Int32) (v2 : Int32) (σ : MS) (a36 : Int32 × Int32 × Int32) : Option ((Int32 × Int32 × Int32) ⊕ (Int32 × MS)) := (if a36.2.2 < 0 then ((if v2 = 0 then J_X12_led_94 n a36.1 σ else J_X12_led_94 n a36.2.1 σ)).map Sum.inr else ((f_X12_ofLog a36.2.2 (1 : Int32) σ).bind (fun q45 => (if q45 = v1 then J_X12_led_66 n v1 v2 a36.1 a36.2.2 σ else ((f_X12_ofLog a36.2.2 (2 : Int32) σ).bind (fun q56 => (if q56 = v1 then J_X12_led_66 n v1 v2 a36.1 a36.2.2 σ else J_X12_led_78 n v1 v2 a36.1 a36.2.1 a36.2.2 σ)))))))
def f_X12_led (n : Nat) (p1 : Int32) (p2 : Int32) (σ : MS) : Option (Int32 × MS) := (ltM (mu σ 171 0 (0 : Int32)) (fun s2 => ((f_X12_noPerson p1 s2).bind (fun q8 => ((f_X12_throwsIf q8 (1 : Int32) s2).bind (fun q12 => (if q12.1 = 0 then itr (L_X12_led_36 n p1 p2 q12.2) n ((0 : Int32), (-1 : Int32), ((q12.2 172 8) - (1 : Int32))) else some ((0 : Int32), q12.2))))))))
set_option maxRecDepth 20000 in
set_option maxHeartbeats 2000000 in
theorem c_X12_led (w : TG) (n : Nat) (p1 : Int32) (p2 : Int32) (σ : MS) : MC m_X12_led w [.ref (wB w + 171), .int p1, .int p2] σ (f_X12_led n p1 p2 σ) := by
  refine V_meth (by decide +kernel) (Nat.le_of_ble_eq_true rfl) (by intro v hv; simp only [List.mem_cons, List.not_mem_nil, or_false] at hv; rcases hv with rfl | rfl | rfl <;> rfl) (fun g x => ?_)
  show VV m_X12_led w g 0 0 (QM m_X12_led w g x) (fun b : Int32 × MS => b = x) 0 [some (.ref (wB w + 171)), some (.int p1), some (.int p2), none, none, none] [] σ (f_X12_led n p1 p2 σ)
  have hJ94 : ∀ (t0 : Int32) (σ : MS), VV m_X12_led w g 0 0 (QM m_X12_led w g x) (fun b : Int32 × MS => b = x) 94 [none, none, none, none, none, none] [.int t0] σ (J_X12_led_94 n t0 σ) := by
    intro t0 σ
    exact V_ireti (pc := 94) dX12_led_94 rfl (hk := fun h => h)
  have hL36 : ∀ (σ : MS) (n0 : Nat) (a : Int32 × Int32 × Int32), VV m_X12_led w g 0 0 (QM m_X12_led w g x) (fun b : Int32 × MS => b = x) 36 [some (.ref (wB w + 171)), some (.int p1), some (.int p2), some (.int a.1), some (.int a.2.1), some (.int a.2.2)] [] σ (itr (L_X12_led_36 n p1 p2 σ) n0 a) := by
    intro σ
    refine V_itr (vf := fun a : Int32 × Int32 × Int32 => [some (.ref (wB w + 171)), some (.int p1), some (.int p2), some (.int a.1), some (.int a.2.1), some (.int a.2.2)]) (sf := fun a : Int32 × Int32 × Int32 => σ) (fun κ36 b36 r36 a36 => ?_)
    obtain ⟨a36_1, a36_2, a36_3⟩ := a36
    show VV m_X12_led w g 0 0 (QM m_X12_led w g x) κ36 36 [some (.ref (wB w + 171)), some (.int p1), some (.int p2), some (.int a36_1), some (.int a36_2), some (.int a36_3)] [] σ (L_X12_led_36 n p1 p2 σ (a36_1, a36_2, a36_3))
    have hJ78 : ∀ (v3 : Int32) (v4 : Int32) (v5 : Int32), VV m_X12_led w g 0 0 (QM m_X12_led w g x) κ36 78 [some (.ref (wB w + 171)), some (.int p1), some (.int p2), some (.int v3), some (.int v4), some (.int v5)] [] σ (J_X12_led_78 n p1 p2 v3 v4 v5 σ) := by
      intro v3 v4 v5
      refine V_iincC (pc := 78) (vs' := [some (.ref (wB w + 171)), some (.int p1), some (.int p2), some (.int v3), some (.int v4), some (.int (v5 + (-1 : Int32)))]) dX12_led_78 (Nat.le_of_ble_eq_true rfl) rfl ic_m1 rfl ?_
      refine V_goto (pc := 81) (tgt := 36) dX12_led_81 (by decide +kernel) ?_
      exact V_back (b36 (v3, v4, (v5 + (-1 : Int32))))
    have hJ66 : ∀ (v3 : Int32) (v5 : Int32), VV m_X12_led w g 0 0 (QM m_X12_led w g x) κ36 66 [some (.ref (wB w + 171)), some (.int p1), some (.int p2), some (.int v3), none, some (.int v5)] [] σ (J_X12_led_66 n p1 p2 v3 v5 σ) := by
      intro v3 v5
      refine V_iincC (pc := 66) (vs' := [some (.ref (wB w + 171)), some (.int p1), some (.int p2), some (.int (v3 + (1 : Int32))), none, some (.int v5)]) dX12_led_66 (Nat.le_of_ble_eq_true rfl) rfl ic_1 rfl ?_
      refine V_aload_n (pc := 69) dX12_led_69 rfl rfl ?_
      refine V_iload (pc := 70) dX12_led_70 rfl ?_
      refine V_iconst (pc := 72) dX12_led_72 ic_3 ?_
      refine V_callVpi (pc := 73) (As := [.int v5, .int (3 : Int32)]) (rest := []) (c_X12_ofLog w v5 (3 : Int32) σ) cw_X12_434 rfl rfl dX12_led_73 kc_171 ci_12 ⟨Nat.le_of_ble_eq_true rfl, Nat.le_of_ble_eq_true rfl⟩ rfl rfl (Nat.le_of_ble_eq_true rfl) (Nat.le_of_ble_eq_true rfl) (Nat.le_of_ble_eq_true rfl) rfl (fun q73 => ?_)
      refine V_istore (pc := 76) (vs' := [some (.ref (wB w + 171)), some (.int p1), some (.int p2), some (.int (v3 + (1 : Int32))), some (.int q73), some (.int v5)]) dX12_led_76 (Nat.le_of_ble_eq_true rfl) (Nat.le_of_ble_eq_true rfl) rfl ?_
      exact hJ78 (v3 + (1 : Int32)) q73 v5
    refine V_iload (pc := 36) dX12_led_36 rfl ?_
    refine V_if_lt (pc := 38) (tgt := 84) dX12_led_38 (by decide +kernel) ?_ ?_
    · refine V_exit r36 ?_
      refine V_iload_n (pc := 84) dX12_led_84 rfl rfl ?_
      refine V_if_eq (pc := 85) (tgt := 93) dX12_led_85 (by decide +kernel) ?_ ?_
      · refine V_iload_n (pc := 93) dX12_led_93 rfl rfl ?_
        refine V_sub (vs' := [none, none, none, none, none, none]) (show vless _ _ from trivial) rfl ?_
        exact hJ94 a36_1 σ
      · refine V_iload (pc := 88) dX12_led_88 rfl ?_
        refine V_goto (pc := 90) (tgt := 94) dX12_led_90 (by decide +kernel) ?_
        refine V_sub (vs' := [none, none, none, none, none, none]) (show vless _ _ from trivial) rfl ?_
        exact hJ94 a36_2 σ
    · refine V_aload_n (pc := 41) dX12_led_41 rfl rfl ?_
      refine V_iload (pc := 42) dX12_led_42 rfl ?_
      refine V_iconst (pc := 44) dX12_led_44 ic_1 ?_
      refine V_callVpi (pc := 45) (As := [.int a36_3, .int (1 : Int32)]) (rest := []) (c_X12_ofLog w a36_3 (1 : Int32) σ) cw_X12_434 rfl rfl dX12_led_45 kc_171 ci_12 ⟨Nat.le_of_ble_eq_true rfl, Nat.le_of_ble_eq_true rfl⟩ rfl rfl (Nat.le_of_ble_eq_true rfl) (Nat.le_of_ble_eq_true rfl) (Nat.le_of_ble_eq_true rfl) rfl (fun q45 => ?_)
      refine V_iload_n (pc := 48) dX12_led_48 rfl rfl ?_
      refine V_icmp_eq (pc := 49) (tgt := 66) dX12_led_49 (by decide +kernel) ?_ ?_
      · refine V_sub (vs' := [some (.ref (wB w + 171)), some (.int p1), some (.int p2), some (.int a36_1), none, some (.int a36_3)]) (show vless _ _ from ⟨rfl, ⟨rfl, ⟨rfl, ⟨rfl, ⟨rfl, trivial⟩⟩⟩⟩⟩) rfl ?_
        exact hJ66 a36_1 a36_3
      · refine V_aload_n (pc := 52) dX12_led_52 rfl rfl ?_
        refine V_iload (pc := 53) dX12_led_53 rfl ?_
        refine V_iconst (pc := 55) dX12_led_55 ic_2 ?_
        refine V_callVpi (pc := 56) (As := [.int a36_3, .int (2 : Int32)]) (rest := []) (c_X12_ofLog w a36_3 (2 : Int32) σ) cw_X12_434 rfl rfl dX12_led_56 kc_171 ci_12 ⟨Nat.le_of_ble_eq_true rfl, Nat.le_of_ble_eq_true rfl⟩ rfl rfl (Nat.le_of_ble_eq_true rfl) (Nat.le_of_ble_eq_true rfl) (Nat.le_of_ble_eq_true rfl) rfl (fun q56 => ?_)
        refine V_iload_n (pc := 59) dX12_led_59 rfl rfl ?_
        refine V_icmp_eq (pc := 60) (tgt := 66) dX12_led_60 (by decide +kernel) ?_ ?_
        · refine V_sub (vs' := [some (.ref (wB w + 171)), some (.int p1), some (.int p2), some (.int a36_1), none, some (.int a36_3)]) (show vless _ _ from ⟨rfl, ⟨rfl, ⟨rfl, ⟨rfl, ⟨rfl, trivial⟩⟩⟩⟩⟩) rfl ?_
          exact hJ66 a36_1 a36_3
        · refine V_goto (pc := 63) (tgt := 78) dX12_led_63 (by decide +kernel) ?_
          exact hJ78 a36_1 a36_2 a36_3
  refine V_aload_n (pc := 0) dX12_led_0 rfl rfl ?_
  refine V_iconst (pc := 1) dX12_led_1 ic_0 ?_
  refine V_puti (pc := 2) fp_X12_3 rfl dX12_led_2 kc_171 rf_12_0_171 (fun s2 => ?_)
  refine V_aload_n (pc := 5) dX12_led_5 rfl rfl ?_
  refine V_aload_n (pc := 6) dX12_led_6 rfl rfl ?_
  refine V_iload_n (pc := 7) dX12_led_7 rfl rfl ?_
  refine V_callVpi (pc := 8) (As := [.int p1]) (rest := [.ref (wB w + 171)]) (c_X12_noPerson w p1 s2) cw_X12_297 rfl rfl dX12_led_8 kc_171 ci_12 ⟨Nat.le_of_ble_eq_true rfl, Nat.le_of_ble_eq_true rfl⟩ rfl rfl (Nat.le_of_ble_eq_true rfl) (Nat.le_of_ble_eq_true rfl) (Nat.le_of_ble_eq_true rfl) rfl (fun q8 => ?_)
  refine V_iconst (pc := 11) dX12_led_11 ic_1 ?_
  refine V_callVi (pc := 12) (As := [.int q8, .int (1 : Int32)]) (rest := []) (c_X12_throwsIf w q8 (1 : Int32) s2) cw_X12_257 rfl rfl dX12_led_12 kc_171 ci_12 ⟨Nat.le_of_ble_eq_true rfl, Nat.le_of_ble_eq_true rfl⟩ rfl rfl (Nat.le_of_ble_eq_true rfl) (Nat.le_of_ble_eq_true rfl) (Nat.le_of_ble_eq_true rfl) rfl (fun q12 => ?_)
  refine V_if_eq (pc := 15) (tgt := 20) dX12_led_15 (by decide +kernel) ?_ ?_
  · refine V_iconst (pc := 20) dX12_led_20 ic_0 ?_
    refine V_istore_n (pc := 21) (vs' := [some (.ref (wB w + 171)), some (.int p1), some (.int p2), some (.int (0 : Int32)), none, none]) dX12_led_21 rfl (Nat.le_of_ble_eq_true rfl) (Nat.le_of_ble_eq_true rfl) rfl ?_
    refine V_iconst (pc := 22) dX12_led_22 ic_m1 ?_
    refine V_istore (pc := 23) (vs' := [some (.ref (wB w + 171)), some (.int p1), some (.int p2), some (.int (0 : Int32)), some (.int (-1 : Int32)), none]) dX12_led_23 (Nat.le_of_ble_eq_true rfl) (Nat.le_of_ble_eq_true rfl) rfl ?_
    refine V_aload_n (pc := 25) dX12_led_25 rfl rfl ?_
    refine V_getr (pc := 26) (t := 172) fk_X12_13 rfl dX12_led_26 kc_171 rf_12_1_171 ?_
    refine V_bipush (pc := 29) dX12_led_29 bp_8 ?_
    refine V_ialdC (pc := 31) (n := 2172) dX12_led_31 kc_172 lc_172 inb_8_2172 ?_
    refine V_iconst (pc := 32) dX12_led_32 ic_1 ?_
    refine V_isub (pc := 33) dX12_led_33 ?_
    refine V_istore (pc := 34) (vs' := [some (.ref (wB w + 171)), some (.int p1), some (.int p2), some (.int (0 : Int32)), some (.int (-1 : Int32)), some (.int ((q12.2 172 8) - (1 : Int32)))]) dX12_led_34 (Nat.le_of_ble_eq_true rfl) (Nat.le_of_ble_eq_true rfl) rfl ?_
    exact hL36 q12.2 n ((0 : Int32), (-1 : Int32), ((q12.2 172 8) - (1 : Int32)))
  · refine V_iconst (pc := 18) dX12_led_18 ic_0 ?_
    exact V_ireti (pc := 19) dX12_led_19 rfl (hk := fun h => h)
def J_X12_log_56 (t0 : Int32) (σ : MS) : Option (Int32 × MS) := some (t0, σ)
def J_X12_log_20 (v1 : Int32) (v2 : Int32) (t0 : Int32) (σ : MS) : Option (Int32 × MS) := ((f_X12_throwsIf t0 (1 : Int32) σ).bind (fun q21 => (if q21.1 = 0 then ((f_X12_in v1 (0 : Int32) ((q21.2 172 8) - (1 : Int32)) q21.2).bind (fun q40 => (if q40 = 0 then J_X12_log_56 (-1 : Int32) q21.2 else ((f_X12_ofLog v1 v2 q21.2).bind (fun q49 => J_X12_log_56 q49 q21.2))))) else some ((0 : Int32), q21.2))))
def f_X12_log (p1 : Int32) (p2 : Int32) (σ : MS) : Option (Int32 × MS) := (ltM (mu σ 171 0 (0 : Int32)) (fun s2 => ((f_X12_in p2 (0 : Int32) (3 : Int32) s2).bind (fun q9 => (if q9 = 0 then J_X12_log_20 p1 p2 (1 : Int32) s2 else J_X12_log_20 p1 p2 (0 : Int32) s2)))))
set_option maxRecDepth 20000 in
set_option maxHeartbeats 2000000 in
theorem c_X12_log (w : TG) (p1 : Int32) (p2 : Int32) (σ : MS) : MC m_X12_log w [.ref (wB w + 171), .int p1, .int p2] σ (f_X12_log p1 p2 σ) := by
  refine V_meth (by decide +kernel) (Nat.le_of_ble_eq_true rfl) (by intro v hv; simp only [List.mem_cons, List.not_mem_nil, or_false] at hv; rcases hv with rfl | rfl | rfl <;> rfl) (fun g x => ?_)
  show VV m_X12_log w g 0 0 (QM m_X12_log w g x) (fun b : Int32 × MS => b = x) 0 [some (.ref (wB w + 171)), some (.int p1), some (.int p2)] [] σ (f_X12_log p1 p2 σ)
  have hJ56 : ∀ (t0 : Int32) (σ : MS), VV m_X12_log w g 0 0 (QM m_X12_log w g x) (fun b : Int32 × MS => b = x) 56 [none, none, none] [.int t0] σ (J_X12_log_56 t0 σ) := by
    intro t0 σ
    exact V_ireti (pc := 56) dX12_log_56 rfl (hk := fun h => h)
  have hJ20 : ∀ (t0 : Int32) (σ : MS), VV m_X12_log w g 0 0 (QM m_X12_log w g x) (fun b : Int32 × MS => b = x) 20 [some (.ref (wB w + 171)), some (.int p1), some (.int p2)] [.int t0, .ref (wB w + 171)] σ (J_X12_log_20 p1 p2 t0 σ) := by
    intro t0 σ
    refine V_iconst (pc := 20) dX12_log_20 ic_1 ?_
    refine V_callVi (pc := 21) (As := [.int t0, .int (1 : Int32)]) (rest := []) (c_X12_throwsIf w t0 (1 : Int32) σ) cw_X12_257 rfl rfl dX12_log_21 kc_171 ci_12 ⟨Nat.le_of_ble_eq_true rfl, Nat.le_of_ble_eq_true rfl⟩ rfl rfl (Nat.le_of_ble_eq_true rfl) (Nat.le_of_ble_eq_true rfl) (Nat.le_of_ble_eq_true rfl) rfl (fun q21 => ?_)
    refine V_if_eq (pc := 24) (tgt := 29) dX12_log_24 (by decide +kernel) ?_ ?_
    · refine V_iload_n (pc := 29) dX12_log_29 rfl rfl ?_
      refine V_iconst (pc := 30) dX12_log_30 ic_0 ?_
      refine V_aload_n (pc := 31) dX12_log_31 rfl rfl ?_
      refine V_getr (pc := 32) (t := 172) fk_X12_13 rfl dX12_log_32 kc_171 rf_12_1_171 ?_
      refine V_bipush (pc := 35) dX12_log_35 bp_8 ?_
      refine V_ialdC (pc := 37) (n := 2172) dX12_log_37 kc_172 lc_172 inb_8_2172 ?_
      refine V_iconst (pc := 38) dX12_log_38 ic_1 ?_
      refine V_isub (pc := 39) dX12_log_39 ?_
      refine V_callSpi (pc := 40) (As := [.int p1, .int (0 : Int32), .int ((q21.2 172 8) - (1 : Int32))]) (rest := []) (c_X12_in w p1 (0 : Int32) ((q21.2 172 8) - (1 : Int32)) q21.2) cs_X12_79 rfl rfl dX12_log_40 ⟨Nat.le_of_ble_eq_true rfl, Nat.le_of_ble_eq_true rfl⟩ rfl rfl (Nat.le_of_ble_eq_true rfl) (Nat.le_of_ble_eq_true rfl) (Nat.le_of_ble_eq_true rfl) rfl (fun q40 => ?_)
      refine V_if_eq (pc := 43) (tgt := 55) dX12_log_43 (by decide +kernel) ?_ ?_
      · refine V_iconst (pc := 55) dX12_log_55 ic_m1 ?_
        refine V_sub (vs' := [none, none, none]) (show vless _ _ from trivial) rfl ?_
        exact hJ56 (-1 : Int32) q21.2
      · refine V_aload_n (pc := 46) dX12_log_46 rfl rfl ?_
        refine V_iload_n (pc := 47) dX12_log_47 rfl rfl ?_
        refine V_iload_n (pc := 48) dX12_log_48 rfl rfl ?_
        refine V_callVpi (pc := 49) (As := [.int p1, .int p2]) (rest := []) (c_X12_ofLog w p1 p2 q21.2) cw_X12_434 rfl rfl dX12_log_49 kc_171 ci_12 ⟨Nat.le_of_ble_eq_true rfl, Nat.le_of_ble_eq_true rfl⟩ rfl rfl (Nat.le_of_ble_eq_true rfl) (Nat.le_of_ble_eq_true rfl) (Nat.le_of_ble_eq_true rfl) rfl (fun q49 => ?_)
        refine V_goto (pc := 52) (tgt := 56) dX12_log_52 (by decide +kernel) ?_
        refine V_sub (vs' := [none, none, none]) (show vless _ _ from trivial) rfl ?_
        exact hJ56 q49 q21.2
    · refine V_iconst (pc := 27) dX12_log_27 ic_0 ?_
      exact V_ireti (pc := 28) dX12_log_28 rfl (hk := fun h => h)
  refine V_aload_n (pc := 0) dX12_log_0 rfl rfl ?_
  refine V_iconst (pc := 1) dX12_log_1 ic_0 ?_
  refine V_puti (pc := 2) fp_X12_3 rfl dX12_log_2 kc_171 rf_12_0_171 (fun s2 => ?_)
  refine V_aload_n (pc := 5) dX12_log_5 rfl rfl ?_
  refine V_iload_n (pc := 6) dX12_log_6 rfl rfl ?_
  refine V_iconst (pc := 7) dX12_log_7 ic_0 ?_
  refine V_iconst (pc := 8) dX12_log_8 ic_3 ?_
  refine V_callSpi (pc := 9) (As := [.int p2, .int (0 : Int32), .int (3 : Int32)]) (rest := [.ref (wB w + 171)]) (c_X12_in w p2 (0 : Int32) (3 : Int32) s2) cs_X12_79 rfl rfl dX12_log_9 ⟨Nat.le_of_ble_eq_true rfl, Nat.le_of_ble_eq_true rfl⟩ rfl rfl (Nat.le_of_ble_eq_true rfl) (Nat.le_of_ble_eq_true rfl) (Nat.le_of_ble_eq_true rfl) rfl (fun q9 => ?_)
  refine V_if_ne (pc := 12) (tgt := 19) dX12_log_12 (by decide +kernel) ?_ ?_
  · refine V_iconst (pc := 19) dX12_log_19 ic_0 ?_
    exact hJ20 (0 : Int32) s2
  · refine V_iconst (pc := 15) dX12_log_15 ic_1 ?_
    refine V_goto (pc := 16) (tgt := 20) dX12_log_16 (by decide +kernel) ?_
    exact hJ20 (1 : Int32) s2
def f_X12_seed (p1 : Int32) (σ : MS) : Option (Int32 × MS) := (ltM (mu σ 171 0 (0 : Int32)) (fun s2 => (ltM (mu s2 172 9 p1) (fun s20 => some ((s2 172 9), s20)))))
set_option maxRecDepth 20000 in
set_option maxHeartbeats 2000000 in
theorem c_X12_seed (w : TG) (p1 : Int32) (σ : MS) : MC m_X12_seed w [.ref (wB w + 171), .int p1] σ (f_X12_seed p1 σ) := by
  refine V_meth (by decide +kernel) (Nat.le_of_ble_eq_true rfl) (by intro v hv; simp only [List.mem_cons, List.not_mem_nil, or_false] at hv; rcases hv with rfl | rfl <;> rfl) (fun g x => ?_)
  show VV m_X12_seed w g 0 0 (QM m_X12_seed w g x) (fun b : Int32 × MS => b = x) 0 [some (.ref (wB w + 171)), some (.int p1), none] [] σ (f_X12_seed p1 σ)
  refine V_aload_n (pc := 0) dX12_seed_0 rfl rfl ?_
  refine V_iconst (pc := 1) dX12_seed_1 ic_0 ?_
  refine V_puti (pc := 2) fp_X12_3 rfl dX12_seed_2 kc_171 rf_12_0_171 (fun s2 => ?_)
  refine V_aload_n (pc := 5) dX12_seed_5 rfl rfl ?_
  refine V_getr (pc := 6) (t := 172) fk_X12_13 rfl dX12_seed_6 kc_171 rf_12_1_171 ?_
  refine V_bipush (pc := 9) dX12_seed_9 bp_9 ?_
  refine V_ialdC (pc := 11) (n := 2172) dX12_seed_11 kc_172 lc_172 inb_9_2172 ?_
  refine V_istore_n (pc := 12) (vs' := [some (.ref (wB w + 171)), some (.int p1), some (.int (s2 172 9))]) dX12_seed_12 rfl (Nat.le_of_ble_eq_true rfl) (Nat.le_of_ble_eq_true rfl) rfl ?_
  refine V_aload_n (pc := 13) dX12_seed_13 rfl rfl ?_
  refine V_getr (pc := 14) (t := 172) fk_X12_13 rfl dX12_seed_14 kc_171 rf_12_1_171 ?_
  refine V_bipush (pc := 17) dX12_seed_17 bp_9 ?_
  refine V_iload_n (pc := 19) dX12_seed_19 rfl rfl ?_
  refine V_iastC (pc := 20) (n := 2172) dX12_seed_20 kc_172 lc_172 inb_9_2172 (fun s20 => ?_)
  refine V_iload_n (pc := 21) dX12_seed_21 rfl rfl ?_
  exact V_ireti (pc := 22) dX12_seed_22 rfl (hk := fun h => h)
def J_X12_pairsWed_28 (n : Nat) (v2 : Int32) (t0 : Int32) (t1 : Int32) (σ : MS) : Option ((Int32 × Int32) ⊕ (Int32)) := some (.inl ((t1 + t0), (v2 + (1 : Int32))))
def L_X12_pairsWed_4 (n : Nat)  (σ : MS) (a4 : Int32 × Int32) : Option ((Int32 × Int32) ⊕ (Int32)) := ((f_X12_people  σ).bind (fun q6 => (if q6 ≤ a4.2 then (some a4.1).map Sum.inr else ((f_X12_of a4.2 (1 : Int32) σ).bind (fun q16 => (if q16 ≤ a4.2 then J_X12_pairsWed_28 n a4.2 (0 : Int32) a4.1 σ else J_X12_pairsWed_28 n a4.2 (1 : Int32) a4.1 σ))))))
def f_X12_pairsWed (n : Nat)  (σ : MS) : Option (Int32) := itr (L_X12_pairsWed_4 n  σ) n ((0 : Int32), (0 : Int32))
set_option maxRecDepth 20000 in
set_option maxHeartbeats 2000000 in
theorem c_X12_pairsWed (w : TG) (n : Nat)  (σ : MS) : MC m_X12_pairsWed w [.ref (wB w + 171)] σ ((f_X12_pairsWed n  σ).map (fun r => (r, σ))) := by
  refine V_methp (by decide +kernel) (Nat.le_of_ble_eq_true rfl) (by intro v hv; simp only [List.mem_cons, List.not_mem_nil, or_false] at hv; subst hv; rfl) (fun g x => ?_)
  show VV m_X12_pairsWed w g 0 0 (QM m_X12_pairsWed w g x) (fun b : Int32 => (b, σ) = x) 0 [some (.ref (wB w + 171)), none, none] [] σ (f_X12_pairsWed n  σ)
  have hL4 : ∀  (n0 : Nat) (a : Int32 × Int32), VV m_X12_pairsWed w g 0 0 (QM m_X12_pairsWed w g x) (fun b : Int32 => (b, σ) = x) 4 [some (.ref (wB w + 171)), some (.int a.1), some (.int a.2)] [] σ (itr (L_X12_pairsWed_4 n  σ) n0 a) := by
    refine V_itr (vf := fun a : Int32 × Int32 => [some (.ref (wB w + 171)), some (.int a.1), some (.int a.2)]) (sf := fun a : Int32 × Int32 => σ) (fun κ4 b4 r4 a4 => ?_)
    obtain ⟨a4_1, a4_2⟩ := a4
    show VV m_X12_pairsWed w g 0 0 (QM m_X12_pairsWed w g x) κ4 4 [some (.ref (wB w + 171)), some (.int a4_1), some (.int a4_2)] [] σ (L_X12_pairsWed_4 n  σ (a4_1, a4_2))
    have hJ28 : ∀ (v2 : Int32) (t0 : Int32) (t1 : Int32), VV m_X12_pairsWed w g 0 0 (QM m_X12_pairsWed w g x) κ4 28 [some (.ref (wB w + 171)), none, some (.int v2)] [.int t0, .int t1] σ (J_X12_pairsWed_28 n v2 t0 t1 σ) := by
      intro v2 t0 t1
      refine V_iadd (pc := 28) dX12_pairsWed_28 ?_
      refine V_istore_n (pc := 29) (vs' := [some (.ref (wB w + 171)), some (.int (t1 + t0)), some (.int v2)]) dX12_pairsWed_29 rfl (Nat.le_of_ble_eq_true rfl) (Nat.le_of_ble_eq_true rfl) rfl ?_
      refine V_iincC (pc := 30) (vs' := [some (.ref (wB w + 171)), some (.int (t1 + t0)), some (.int (v2 + (1 : Int32)))]) dX12_pairsWed_30 (Nat.le_of_ble_eq_true rfl) rfl ic_1 rfl ?_
      refine V_goto (pc := 33) (tgt := 4) dX12_pairsWed_33 (by decide +kernel) ?_
      exact V_back (b4 ((t1 + t0), (v2 + (1 : Int32))))
    refine V_iload_n (pc := 4) dX12_pairsWed_4 rfl rfl ?_
    refine V_aload_n (pc := 5) dX12_pairsWed_5 rfl rfl ?_
    refine V_callVpi (pc := 6) (As := []) (rest := [.int a4_2]) (c_X12_people w  σ) cw_X12_58 rfl rfl dX12_pairsWed_6 kc_171 ci_12 ⟨Nat.le_of_ble_eq_true rfl, Nat.le_of_ble_eq_true rfl⟩ rfl rfl (Nat.le_of_ble_eq_true rfl) (Nat.le_of_ble_eq_true rfl) (Nat.le_of_ble_eq_true rfl) rfl (fun q6 => ?_)
    refine V_icmp_ge (pc := 9) (tgt := 36) dX12_pairsWed_9 (by decide +kernel) ?_ ?_
    · refine V_exit r4 ?_
      refine V_iload_n (pc := 36) dX12_pairsWed_36 rfl rfl ?_
      exact V_ireti (pc := 37) dX12_pairsWed_37 rfl (hk := fun h => h)
    · refine V_iload_n (pc := 12) dX12_pairsWed_12 rfl rfl ?_
      refine V_aload_n (pc := 13) dX12_pairsWed_13 rfl rfl ?_
      refine V_iload_n (pc := 14) dX12_pairsWed_14 rfl rfl ?_
      refine V_iconst (pc := 15) dX12_pairsWed_15 ic_1 ?_
      refine V_callVpi (pc := 16) (As := [.int a4_2, .int (1 : Int32)]) (rest := [.int a4_1]) (c_X12_of w a4_2 (1 : Int32) σ) cw_X12_73 rfl rfl dX12_pairsWed_16 kc_171 ci_12 ⟨Nat.le_of_ble_eq_true rfl, Nat.le_of_ble_eq_true rfl⟩ rfl rfl (Nat.le_of_ble_eq_true rfl) (Nat.le_of_ble_eq_true rfl) (Nat.le_of_ble_eq_true rfl) rfl (fun q16 => ?_)
      refine V_iload_n (pc := 19) dX12_pairsWed_19 rfl rfl ?_
      refine V_icmp_le (pc := 20) (tgt := 27) dX12_pairsWed_20 (by decide +kernel) ?_ ?_
      · refine V_iconst (pc := 27) dX12_pairsWed_27 ic_0 ?_
        refine V_sub (vs' := [some (.ref (wB w + 171)), none, some (.int a4_2)]) (show vless _ _ from ⟨rfl, ⟨rfl, trivial⟩⟩) rfl ?_
        exact hJ28 a4_2 (0 : Int32) a4_1
      · refine V_iconst (pc := 23) dX12_pairsWed_23 ic_1 ?_
        refine V_goto (pc := 24) (tgt := 28) dX12_pairsWed_24 (by decide +kernel) ?_
        refine V_sub (vs' := [some (.ref (wB w + 171)), none, some (.int a4_2)]) (show vless _ _ from ⟨rfl, ⟨rfl, trivial⟩⟩) rfl ?_
        exact hJ28 a4_2 (1 : Int32) a4_1
  refine V_iconst (pc := 0) dX12_pairsWed_0 ic_0 ?_
  refine V_istore_n (pc := 1) (vs' := [some (.ref (wB w + 171)), some (.int (0 : Int32)), none]) dX12_pairsWed_1 rfl (Nat.le_of_ble_eq_true rfl) (Nat.le_of_ble_eq_true rfl) rfl ?_
  refine V_iconst (pc := 2) dX12_pairsWed_2 ic_0 ?_
  refine V_istore_n (pc := 3) (vs' := [some (.ref (wB w + 171)), some (.int (0 : Int32)), some (.int (0 : Int32))]) dX12_pairsWed_3 rfl (Nat.le_of_ble_eq_true rfl) (Nat.le_of_ble_eq_true rfl) rfl ?_
  exact hL4 n ((0 : Int32), (0 : Int32))
