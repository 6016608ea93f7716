def m_X12_lovers : MD := (yX12_lovers, cX12_lovers, 6, (some .int), 7, 269, 0, 0)
def m_X12_waysOf : MD := (yX12_waysOf, cX12_waysOf, 3, (some .int), 0, 0, 0, 0)
def m_X12_freeOne : MD := (yX12_freeOne, cX12_freeOne, 5, (some .int), 1, 20, 0, 0)
def m_X12_laysWay : MD := (yX12_laysWay, cX12_laysWay, 8, none, 2, 44, 0, 0)
def m_X12_likesIts : MD := (yX12_likesIts, cX12_likesIts, 2, (some .int), 2, 43, 0, 0)
def m_X12_isSteady : MD := (yX12_isSteady, cX12_isSteady, 4, (some .boolean), 3, 64, 0, 0)
def m_X12_steady : MD := (yX12_steady, cX12_steady, 6, (some .int), 4, 87, 0, 0)
def m_X12_fondest : MD := (yX12_fondest, cX12_fondest, 4, (some .int), 4, 200, 0, 0)
def m_X12_wash : MD := (yX12_wash, cX12_wash, 4, (some .int), 3, 65, 0, 0)
def m_X12_go : MD := (yX12_go, cX12_go, 4, (some .int), 2, 43, 0, 0)
def m_X12_strew : MD := (yX12_strew, cX12_strew, 4, (some .boolean), 2, 42, 0, 0)
def m_X12_wed : MD := (yX12_wed, cX12_wed, 3, none, 3, 65, 0, 0)
def m_X12_clear : MD := (yX12_clear, cX12_clear, 3, (some .int), 2, 43, 0, 0)
def m_X12_suspects : MD := (yX12_suspects, cX12_suspects, 3, none, 4, 200, 0, 0)
def m_X12_leavesFootprints : MD := (yX12_leavesFootprints, cX12_leavesFootprints, 5, none, 7, 224, 0, 0)
def m_X12_oneDay : MD := (yX12_oneDay, cX12_oneDay, 5, (some .int), 8, 248, 0, 0)
def m_X12_days : MD := (yX12_days, cX12_days, 4, (some .int), 9, 272, 0, 0)
theorem fk_X12_42 : fk RX12 42 12 22 := ⟨_, _, _, rfl, in_12, by decide, rfl, by decide, gm (by decide +kernel) (by decide +kernel)⟩
theorem cs_X12_382 : csp RX12 382 m_X12_waysOf 1 := ⟨goodIn_of _ (by decide +kernel), by decide +kernel, by decide +kernel, by decide +kernel⟩
theorem cw_X12_385 : cwp RX12 385 m_X12_freeOne 2 := ⟨goodIn_of _ (by decide +kernel), by decide +kernel, by decide +kernel, by decide +kernel⟩
theorem cw_X12_388 : cwp RX12 388 m_X12_likesIts 1 := ⟨goodIn_of _ (by decide +kernel), by decide +kernel, by decide +kernel, by decide +kernel⟩
theorem fk_X12_45 : fk RX12 45 12 23 := ⟨_, _, _, rfl, in_12, by decide, rfl, by decide, gm (by decide +kernel) (by decide +kernel)⟩
theorem cw_X12_391 : cwp RX12 391 m_X12_laysWay 2 := ⟨goodIn_of _ (by decide +kernel), by decide +kernel, by decide +kernel, by decide +kernel⟩
theorem cw_X12_394 : cwp RX12 394 m_X12_isSteady 0 := ⟨goodIn_of _ (by decide +kernel), by decide +kernel, by decide +kernel, by decide +kernel⟩
theorem fk_X12_48 : fk RX12 48 12 24 := ⟨_, _, _, rfl, in_12, by decide, rfl, by decide, gm (by decide +kernel) (by decide +kernel)⟩
theorem cw_X12_397 : cwp RX12 397 m_X12_hasFlour 1 := ⟨goodIn_of _ (by decide +kernel), by decide +kernel, by decide +kernel, by decide +kernel⟩
theorem cw_X12_400 : cwp RX12 400 m_X12_suspects 2 := ⟨goodIn_of _ (by decide +kernel), by decide +kernel, by decide +kernel, by decide +kernel⟩
theorem cw_X12_406 : cwp RX12 406 m_X12_leavesFootprints 2 := ⟨goodIn_of _ (by decide +kernel), by decide +kernel, by decide +kernel, by decide +kernel⟩
theorem cw_X12_403 : cwp RX12 403 m_X12_drawn 1 := ⟨goodIn_of _ (by decide +kernel), by decide +kernel, by decide +kernel, by decide +kernel⟩
theorem cw_X12_409 : cwp RX12 409 m_X12_oneDay 1 := ⟨goodIn_of _ (by decide +kernel), by decide +kernel, by decide +kernel, by decide +kernel⟩
def J_X12_lovers_95 (n : Nat) (t0 : Int32) (σ : MS) : Option (Int32 × MS) := some (t0, σ)
def J_X12_lovers_74 (n : Nat) (v1 : Int32) (v4 : Int32) (v2 : Int32) (v3 : Int32) (v5 : Int32) (σ : MS) : Option ((Int32 × Int32 × Int32) ⊕ ((Int32 × Int32 × Int32) ⊕ (Int32 × MS))) := some (.inl (v2, v3, (v5 + (-1 : Int32))))
def L_X12_lovers_30 (n : Nat) (v1 : Int32) (v4 : Int32) (σ : MS) (a30 : Int32 × Int32 × Int32) : Option ((Int32 × Int32 × Int32) ⊕ ((Int32 × Int32 × Int32) ⊕ (Int32 × MS))) := (if a30.2.2 ≤ v4 then (some (.inl (a30.1, a30.2.1, (v4 + (-1 : Int32))))).map Sum.inr else ((f_X12_isGladder n v4 a30.2.2 σ).bind (fun q42 => (if q42 = 0 then J_X12_lovers_74 n v1 v4 a30.1 a30.2.1 a30.2.2 σ else ((f_X12_isGladder n a30.2.2 v4 σ).bind (fun q53 => (if q53 = 0 then J_X12_lovers_74 n v1 v4 a30.1 a30.2.1 a30.2.2 σ else J_X12_lovers_74 n v1 v4 (a30.1 + (1 : Int32)) (((10 : Int32) * v4) + a30.2.2) a30.2.2 σ)))))))
def L_X12_lovers_17 (n : Nat) (v1 : Int32) (σ : MS) (a17 : Int32 × Int32 × Int32) : Option ((Int32 × Int32 × Int32) ⊕ (Int32 × MS)) := (if a17.2.2 < 0 then ((if v1 = 0 then J_X12_lovers_95 n a17.1 σ else J_X12_lovers_95 n a17.2.1 σ)).map Sum.inr else ((f_X12_people  σ).bind (fun q23 => itr (L_X12_lovers_30 n v1 a17.2.2 σ) n (a17.1, a17.2.1, (q23 - (1 : Int32))))))
def f_X12_lovers (n : Nat) (p1 : Int32) (σ : MS) : Option (Int32 × MS) := (ltM (mu σ 171 0 (0 : Int32)) (fun s2 => ((f_X12_people  s2).bind (fun q10 => itr (L_X12_lovers_17 n p1 s2) n ((0 : Int32), (-1 : Int32), (q10 - (1 : Int32)))))))
set_option maxRecDepth 20000 in
set_option maxHeartbeats 2000000 in
theorem c_X12_lovers (w : TG) (n : Nat) (p1 : Int32) (σ : MS) : MC m_X12_lovers w [.ref (wB w + 171), .int p1] σ (f_X12_lovers n p1 σ) := by
  refine V_meth (by decide +kernel) (Nat.le_of_ble_eq_true rfl) (by intro v hv; simp only [List.mem_cons, List.not_mem_nil, or_false] at hv; rcases hv with rfl | rfl <;> rfl) (fun g x => ?_)
  show VV m_X12_lovers w g 0 0 (QM m_X12_lovers w g x) (fun b : Int32 × MS => b = x) 0 [some (.ref (wB w + 171)), some (.int p1), none, none, none, none] [] σ (f_X12_lovers n p1 σ)
  have hJ95 : ∀ (t0 : Int32) (σ : MS), VV m_X12_lovers w g 0 0 (QM m_X12_lovers w g x) (fun b : Int32 × MS => b = x) 95 [none, none, none, none, none, none] [.int t0] σ (J_X12_lovers_95 n t0 σ) := by
    intro t0 σ
    exact V_ireti (pc := 95) dX12_lovers_95 rfl (hk := fun h => h)
  have hL17 : ∀ (σ : MS) (n0 : Nat) (a : Int32 × Int32 × Int32), VV m_X12_lovers w g 0 0 (QM m_X12_lovers w g x) (fun b : Int32 × MS => b = x) 17 [some (.ref (wB w + 171)), some (.int p1), some (.int a.1), some (.int a.2.1), some (.int a.2.2), none] [] σ (itr (L_X12_lovers_17 n p1 σ) n0 a) := by
    intro σ
    refine V_itr (vf := fun a : Int32 × Int32 × Int32 => [some (.ref (wB w + 171)), some (.int p1), some (.int a.1), some (.int a.2.1), some (.int a.2.2), none]) (sf := fun a : Int32 × Int32 × Int32 => σ) (fun κ17 b17 r17 a17 => ?_)
    show VV m_X12_lovers w g 0 0 (QM m_X12_lovers w g x) κ17 17 [some (.ref (wB w + 171)), some (.int p1), some (.int a17.1), some (.int a17.2.1), some (.int a17.2.2), none] [] σ (L_X12_lovers_17 n p1 σ a17)
    have hL30 : ∀ (v4 : Int32) (σ : MS) (n0 : Nat) (a : Int32 × Int32 × Int32), VV m_X12_lovers w g 0 0 (QM m_X12_lovers w g x) κ17 30 [some (.ref (wB w + 171)), some (.int p1), some (.int a.1), some (.int a.2.1), some (.int v4), some (.int a.2.2)] [] σ (itr (L_X12_lovers_30 n p1 v4 σ) n0 a) := by
      intro v4 σ
      refine V_itr (vf := fun a : Int32 × Int32 × Int32 => [some (.ref (wB w + 171)), some (.int p1), some (.int a.1), some (.int a.2.1), some (.int v4), some (.int a.2.2)]) (sf := fun a : Int32 × Int32 × Int32 => σ) (fun κ30 b30 r30 a30 => ?_)
      show VV m_X12_lovers w g 0 0 (QM m_X12_lovers w g x) κ30 30 [some (.ref (wB w + 171)), some (.int p1), some (.int a30.1), some (.int a30.2.1), some (.int v4), some (.int a30.2.2)] [] σ (L_X12_lovers_30 n p1 v4 σ a30)
      have hJ74 : ∀ (v2 : Int32) (v3 : Int32) (v5 : Int32) (σ : MS), VV m_X12_lovers w g 0 0 (QM m_X12_lovers w g x) κ30 74 [some (.ref (wB w + 171)), some (.int p1), some (.int v2), some (.int v3), some (.int v4), some (.int v5)] [] σ (J_X12_lovers_74 n p1 v4 v2 v3 v5 σ) := by
        intro v2 v3 v5 σ
        refine V_iinc (pc := 74) (v := (v5 + (-1 : Int32))) (vs' := [some (.ref (wB w + 171)), some (.int p1), some (.int v2), some (.int v3), some (.int v4), some (.int (v5 + (-1 : Int32)))]) dX12_lovers_74 (Nat.le_of_ble_eq_true rfl) rfl rfl rfl ?_
        refine V_goto (pc := 77) (tgt := 30) dX12_lovers_77 (by decide) ?_
        exact V_back (b30 (v2, v3, (v5 + (-1 : Int32))))
      refine V_iload (pc := 30) dX12_lovers_30 rfl ?_
      refine V_iload (pc := 32) dX12_lovers_32 rfl ?_
      refine V_icmp_le (pc := 34) (tgt := 80) dX12_lovers_34 (by decide) ?_ ?_
      · refine V_exit r30 ?_
        refine V_iinc (pc := 80) (v := (v4 + (-1 : Int32))) (vs' := [some (.ref (wB w + 171)), some (.int p1), some (.int a30.1), some (.int a30.2.1), some (.int (v4 + (-1 : Int32))), some (.int a30.2.2)]) dX12_lovers_80 (Nat.le_of_ble_eq_true rfl) rfl rfl rfl ?_
        refine V_goto (pc := 83) (tgt := 17) dX12_lovers_83 (by decide) ?_
        refine V_sub (vs' := [some (.ref (wB w + 171)), some (.int p1), some (.int a30.1), some (.int a30.2.1), some (.int (v4 + (-1 : Int32))), none]) (show vless _ _ from ⟨rfl, ⟨rfl, ⟨rfl, ⟨rfl, ⟨rfl, trivial⟩⟩⟩⟩⟩) rfl ?_
        exact V_back (b17 (a30.1, a30.2.1, (v4 + (-1 : Int32))))
      · refine V_aload_n (pc := 37) dX12_lovers_37 rfl rfl ?_
        refine V_iload (pc := 38) dX12_lovers_38 rfl ?_
        refine V_iload (pc := 40) dX12_lovers_40 rfl ?_
        refine V_callVpi (pc := 42) (As := [.int v4, .int a30.2.2]) (rest := []) (c_X12_isGladder w n v4 a30.2.2 σ) cw_X12_360 rfl rfl dX12_lovers_42 kc_171 rfl ⟨Nat.le_of_ble_eq_true rfl, Nat.le_of_ble_eq_true rfl⟩ rfl rfl (Nat.le_of_ble_eq_true rfl) (Nat.le_of_ble_eq_true rfl) (Nat.le_of_ble_eq_true rfl) rfl (fun q42 => ?_)
        refine V_if_eq (pc := 45) (tgt := 74) dX12_lovers_45 (by decide) ?_ ?_
        · exact hJ74 a30.1 a30.2.1 a30.2.2 σ
        · refine V_aload_n (pc := 48) dX12_lovers_48 rfl rfl ?_
          refine V_iload (pc := 49) dX12_lovers_49 rfl ?_
          refine V_iload (pc := 51) dX12_lovers_51 rfl ?_
          refine V_callVpi (pc := 53) (As := [.int a30.2.2, .int v4]) (rest := []) (c_X12_isGladder w n a30.2.2 v4 σ) cw_X12_360 rfl rfl dX12_lovers_53 kc_171 rfl ⟨Nat.le_of_ble_eq_true rfl, Nat.le_of_ble_eq_true rfl⟩ rfl rfl (Nat.le_of_ble_eq_true rfl) (Nat.le_of_ble_eq_true rfl) (Nat.le_of_ble_eq_true rfl) rfl (fun q53 => ?_)
          refine V_if_ne (pc := 56) (tgt := 62) dX12_lovers_56 (by decide) ?_ ?_
          · refine V_iinc (pc := 62) (v := (a30.1 + (1 : Int32))) (vs' := [some (.ref (wB w + 171)), some (.int p1), some (.int (a30.1 + (1 : Int32))), some (.int a30.2.1), some (.int v4), some (.int a30.2.2)]) dX12_lovers_62 (Nat.le_of_ble_eq_true rfl) rfl rfl rfl ?_
            refine V_bipush (pc := 65) (v := (10 : Int32)) dX12_lovers_65 rfl ?_
            refine V_iload (pc := 67) dX12_lovers_67 rfl ?_
            refine V_imul (pc := 69) dX12_lovers_69 ?_
            refine V_iload (pc := 70) dX12_lovers_70 rfl ?_
            refine V_iadd (pc := 72) dX12_lovers_72 ?_
            refine V_istore_n (pc := 73) (vs' := [some (.ref (wB w + 171)), some (.int p1), some (.int (a30.1 + (1 : Int32))), some (.int (((10 : Int32) * v4) + a30.2.2)), some (.int v4), some (.int a30.2.2)]) dX12_lovers_73 rfl (Nat.le_of_ble_eq_true rfl) (Nat.le_of_ble_eq_true rfl) rfl ?_
            exact hJ74 (a30.1 + (1 : Int32)) (((10 : Int32) * v4) + a30.2.2) a30.2.2 σ
          · refine V_goto (pc := 59) (tgt := 74) dX12_lovers_59 (by decide) ?_
            exact hJ74 a30.1 a30.2.1 a30.2.2 σ
    refine V_iload (pc := 17) dX12_lovers_17 rfl ?_
    refine V_if_lt (pc := 19) (tgt := 86) dX12_lovers_19 (by decide) ?_ ?_
    · refine V_exit r17 ?_
      refine V_iload_n (pc := 86) dX12_lovers_86 rfl rfl ?_
      refine V_if_eq (pc := 87) (tgt := 94) dX12_lovers_87 (by decide) ?_ ?_
      · refine V_iload_n (pc := 94) dX12_lovers_94 rfl rfl ?_
        refine V_sub (vs' := [none, none, none, none, none, none]) (show vless _ _ from trivial) rfl ?_
        exact hJ95 a17.1 σ
      · refine V_iload_n (pc := 90) dX12_lovers_90 rfl rfl ?_
        refine V_goto (pc := 91) (tgt := 95) dX12_lovers_91 (by decide) ?_
        refine V_sub (vs' := [none, none, none, none, none, none]) (show vless _ _ from trivial) rfl ?_
        exact hJ95 a17.2.1 σ
    · refine V_aload_n (pc := 22) dX12_lovers_22 rfl rfl ?_
      refine V_callVpi (pc := 23) (As := []) (rest := []) (c_X12_people w  σ) cw_X12_58 rfl rfl dX12_lovers_23 kc_171 rfl ⟨Nat.le_of_ble_eq_true rfl, Nat.le_of_ble_eq_true rfl⟩ rfl rfl (Nat.le_of_ble_eq_true rfl) (Nat.le_of_ble_eq_true rfl) (Nat.le_of_ble_eq_true rfl) rfl (fun q23 => ?_)
      refine V_iconst (pc := 26) (v := (1 : Int32)) dX12_lovers_26 rfl ?_
      refine V_isub (pc := 27) dX12_lovers_27 ?_
      refine V_istore (pc := 28) (vs' := [some (.ref (wB w + 171)), some (.int p1), some (.int a17.1), some (.int a17.2.1), some (.int a17.2.2), some (.int (q23 - (1 : Int32)))]) dX12_lovers_28 (Nat.le_of_ble_eq_true rfl) (Nat.le_of_ble_eq_true rfl) rfl ?_
      exact hL30 a17.2.2 σ n (a17.1, a17.2.1, (q23 - (1 : Int32)))
  refine V_aload_n (pc := 0) dX12_lovers_0 rfl rfl ?_
  refine V_iconst (pc := 1) (v := (0 : Int32)) dX12_lovers_1 rfl ?_
  refine V_puti (pc := 2) fp_X12_3 rfl dX12_lovers_2 kc_171 rfl (fun s2 => ?_)
  refine V_iconst (pc := 5) (v := (0 : Int32)) dX12_lovers_5 rfl ?_
  refine V_istore_n (pc := 6) (vs' := [some (.ref (wB w + 171)), some (.int p1), some (.int (0 : Int32)), none, none, none]) dX12_lovers_6 rfl (Nat.le_of_ble_eq_true rfl) (Nat.le_of_ble_eq_true rfl) rfl ?_
  refine V_iconst (pc := 7) (v := (-1 : Int32)) dX12_lovers_7 rfl ?_
  refine V_istore_n (pc := 8) (vs' := [some (.ref (wB w + 171)), some (.int p1), some (.int (0 : Int32)), some (.int (-1 : Int32)), none, none]) dX12_lovers_8 rfl (Nat.le_of_ble_eq_true rfl) (Nat.le_of_ble_eq_true rfl) rfl ?_
  refine V_aload_n (pc := 9) dX12_lovers_9 rfl rfl ?_
  refine V_callVpi (pc := 10) (As := []) (rest := []) (c_X12_people w  s2) cw_X12_58 rfl rfl dX12_lovers_10 kc_171 rfl ⟨Nat.le_of_ble_eq_true rfl, Nat.le_of_ble_eq_true rfl⟩ rfl rfl (Nat.le_of_ble_eq_true rfl) (Nat.le_of_ble_eq_true rfl) (Nat.le_of_ble_eq_true rfl) rfl (fun q10 => ?_)
  refine V_iconst (pc := 13) (v := (1 : Int32)) dX12_lovers_13 rfl ?_
  refine V_isub (pc := 14) dX12_lovers_14 ?_
  refine V_istore (pc := 15) (vs' := [some (.ref (wB w + 171)), some (.int p1), some (.int (0 : Int32)), some (.int (-1 : Int32)), some (.int (q10 - (1 : Int32))), none]) dX12_lovers_15 (Nat.le_of_ble_eq_true rfl) (Nat.le_of_ble_eq_true rfl) rfl ?_
  exact hL17 s2 n ((0 : Int32), (-1 : Int32), (q10 - (1 : Int32)))
def L_X12_waysOf_6 (n : Nat)  (σ : MS) (a6 : Int32 × Int32) : Option ((Int32 × Int32) ⊕ (Int32)) := (if a6.2 ≤ (1 : Int32) then (some a6.1).map Sum.inr else some (.inl ((a6.1 * a6.2), (a6.2 + (-2 : Int32)))))
def f_X12_waysOf (n : Nat) (p0 : Int32) (σ : MS) : Option (Int32) := itr (L_X12_waysOf_6 n  σ) n ((1 : Int32), (p0 - (1 : Int32)))
set_option maxRecDepth 20000 in
set_option maxHeartbeats 2000000 in
theorem c_X12_waysOf (w : TG) (n : Nat) (p0 : Int32) (σ : MS) : MC m_X12_waysOf w [.int p0] σ ((f_X12_waysOf n p0 σ).map (fun r => (r, σ))) := by
  refine V_methp (by decide +kernel) (Nat.le_of_ble_eq_true rfl) (by intro v hv; simp only [List.mem_cons, List.not_mem_nil, or_false] at hv; subst hv; rfl) (fun g x => ?_)
  show VV m_X12_waysOf w g 0 0 (QM m_X12_waysOf w g x) (fun b : Int32 => (b, σ) = x) 0 [some (.int p0), none, none] [] σ (f_X12_waysOf n p0 σ)
  have hL6 : ∀  (n0 : Nat) (a : Int32 × Int32), VV m_X12_waysOf w g 0 0 (QM m_X12_waysOf w g x) (fun b : Int32 => (b, σ) = x) 6 [none, some (.int a.1), some (.int a.2)] [] σ (itr (L_X12_waysOf_6 n  σ) n0 a) := by
    refine V_itr (vf := fun a : Int32 × Int32 => [none, some (.int a.1), some (.int a.2)]) (sf := fun a : Int32 × Int32 => σ) (fun κ6 b6 r6 a6 => ?_)
    show VV m_X12_waysOf w g 0 0 (QM m_X12_waysOf w g x) κ6 6 [none, some (.int a6.1), some (.int a6.2)] [] σ (L_X12_waysOf_6 n  σ a6)
    refine V_iload_n (pc := 6) dX12_waysOf_6 rfl rfl ?_
    refine V_iconst (pc := 7) (v := (1 : Int32)) dX12_waysOf_7 rfl ?_
    refine V_icmp_le (pc := 8) (tgt := 21) dX12_waysOf_8 (by decide) ?_ ?_
    · refine V_exit r6 ?_
      refine V_iload_n (pc := 21) dX12_waysOf_21 rfl rfl ?_
      exact V_ireti (pc := 22) dX12_waysOf_22 rfl (hk := fun h => h)
    · refine V_iload_n (pc := 11) dX12_waysOf_11 rfl rfl ?_
      refine V_iload_n (pc := 12) dX12_waysOf_12 rfl rfl ?_
      refine V_imul (pc := 13) dX12_waysOf_13 ?_
      refine V_istore_n (pc := 14) (vs' := [none, some (.int (a6.1 * a6.2)), some (.int a6.2)]) dX12_waysOf_14 rfl (Nat.le_of_ble_eq_true rfl) (Nat.le_of_ble_eq_true rfl) rfl ?_
      refine V_iinc (pc := 15) (v := (a6.2 + (-2 : Int32))) (vs' := [none, some (.int (a6.1 * a6.2)), some (.int (a6.2 + (-2 : Int32)))]) dX12_waysOf_15 (Nat.le_of_ble_eq_true rfl) rfl rfl rfl ?_
      refine V_goto (pc := 18) (tgt := 6) dX12_waysOf_18 (by decide) ?_
      exact V_back (b6 ((a6.1 * a6.2), (a6.2 + (-2 : Int32))))
  refine V_iconst (pc := 0) (v := (1 : Int32)) dX12_waysOf_0 rfl ?_
  refine V_istore_n (pc := 1) (vs' := [some (.int p0), some (.int (1 : Int32)), none]) dX12_waysOf_1 rfl (Nat.le_of_ble_eq_true rfl) (Nat.le_of_ble_eq_true rfl) rfl ?_
  refine V_iload_n (pc := 2) dX12_waysOf_2 rfl rfl ?_
  refine V_iconst (pc := 3) (v := (1 : Int32)) dX12_waysOf_3 rfl ?_
  refine V_isub (pc := 4) dX12_waysOf_4 ?_
  refine V_istore_n (pc := 5) (vs' := [some (.int p0), some (.int (1 : Int32)), some (.int (p0 - (1 : Int32)))]) dX12_waysOf_5 rfl (Nat.le_of_ble_eq_true rfl) (Nat.le_of_ble_eq_true rfl) rfl ?_
  refine V_sub (vs' := [none, some (.int (1 : Int32)), some (.int (p0 - (1 : Int32)))]) (show vless _ _ from ⟨rfl, ⟨rfl, trivial⟩⟩) rfl ?_
  exact hL6 n ((1 : Int32), (p0 - (1 : Int32)))
def J_X12_freeOne_70 (n : Nat) (v4 : Int32) (t0 : Int32) (t1 : Int32) (σ : MS) : Option ((Int32 × Int32) ⊕ (Int32)) := some (.inl ((t1 - t0), (v4 + (1 : Int32))))
def J_X12_freeOne_53 (n : Nat) (v3 : Int32) (v4 : Int32) (σ : MS) : Option ((Int32 × Int32) ⊕ (Int32)) := (if inb v4 9 then (if (σ 180 (ix v4)) = (-1 : Int32) then J_X12_freeOne_70 n v4 (1 : Int32) v3 σ else J_X12_freeOne_70 n v4 (0 : Int32) v3 σ) else none)
def L_X12_freeOne_38 (n : Nat)  (σ : MS) (a38 : Int32 × Int32) : Option ((Int32 × Int32) ⊕ (Int32)) := (if inb a38.2 9 then (if (σ 180 (ix a38.2)) = (-1 : Int32) then (if a38.1 ≤ 0 then (some a38.2).map Sum.inr else J_X12_freeOne_53 n a38.1 a38.2 σ) else J_X12_freeOne_53 n a38.1 a38.2 σ) else none)
def J_X12_freeOne_35 (n : Nat) (v3 : Int32) (σ : MS) : Option (Int32) := itr (L_X12_freeOne_38 n  σ) n (v3, (0 : Int32))
def f_X12_freeOne (n : Nat) (p1 : Int32) (p2 : Int32) (σ : MS) : Option (Int32) := ((f_X12_people  σ).bind (fun q4 => (if p2 ≤ q4 then J_X12_freeOne_35 n p1 σ else ((f_X12_people  σ).bind (fun q15 => (if inb q15 9 then (if (σ 180 (ix q15)) = (-1 : Int32) then (if p1 = 0 then ((f_X12_people  σ).bind (fun q28 => some q28)) else J_X12_freeOne_35 n (p1 + (-1 : Int32)) σ) else J_X12_freeOne_35 n p1 σ) else none))))))
set_option maxRecDepth 20000 in
set_option maxHeartbeats 2000000 in
theorem c_X12_freeOne (w : TG) (n : Nat) (p1 : Int32) (p2 : Int32) (σ : MS) : MC m_X12_freeOne w [.ref (wB w + 171), .int p1, .int p2] σ ((f_X12_freeOne n p1 p2 σ).map (fun r => (r, σ))) := by
  refine V_methp (by decide +kernel) (Nat.le_of_ble_eq_true rfl) (by intro v hv; simp only [List.mem_cons, List.not_mem_nil, or_false] at hv; rcases hv with rfl | rfl | rfl <;> rfl) (fun g x => ?_)
  show VV m_X12_freeOne w g 0 0 (QM m_X12_freeOne w g x) (fun b : Int32 => (b, σ) = x) 0 [some (.ref (wB w + 171)), some (.int p1), some (.int p2), none, none] [] σ (f_X12_freeOne n p1 p2 σ)
  have hL38 : ∀  (n0 : Nat) (a : Int32 × Int32), VV m_X12_freeOne w g 0 0 (QM m_X12_freeOne w g x) (fun b : Int32 => (b, σ) = x) 38 [some (.ref (wB w + 171)), none, none, some (.int a.1), some (.int a.2)] [] σ (itr (L_X12_freeOne_38 n  σ) n0 a) := by
    refine V_itr (vf := fun a : Int32 × Int32 => [some (.ref (wB w + 171)), none, none, some (.int a.1), some (.int a.2)]) (sf := fun a : Int32 × Int32 => σ) (fun κ38 b38 r38 a38 => ?_)
    show VV m_X12_freeOne w g 0 0 (QM m_X12_freeOne w g x) κ38 38 [some (.ref (wB w + 171)), none, none, some (.int a38.1), some (.int a38.2)] [] σ (L_X12_freeOne_38 n  σ a38)
    have hJ70 : ∀ (v4 : Int32) (t0 : Int32) (t1 : Int32), VV m_X12_freeOne w g 0 0 (QM m_X12_freeOne w g x) κ38 70 [some (.ref (wB w + 171)), none, none, none, some (.int v4)] [.int t0, .int t1] σ (J_X12_freeOne_70 n v4 t0 t1 σ) := by
      intro v4 t0 t1
      refine V_isub (pc := 70) dX12_freeOne_70 ?_
      refine V_istore_n (pc := 71) (vs' := [some (.ref (wB w + 171)), none, none, some (.int (t1 - t0)), some (.int v4)]) dX12_freeOne_71 rfl (Nat.le_of_ble_eq_true rfl) (Nat.le_of_ble_eq_true rfl) rfl ?_
      refine V_iinc (pc := 72) (v := (v4 + (1 : Int32))) (vs' := [some (.ref (wB w + 171)), none, none, some (.int (t1 - t0)), some (.int (v4 + (1 : Int32)))]) dX12_freeOne_72 (Nat.le_of_ble_eq_true rfl) rfl rfl rfl ?_
      refine V_goto (pc := 75) (tgt := 38) dX12_freeOne_75 (by decide) ?_
      exact V_back (b38 ((t1 - t0), (v4 + (1 : Int32))))
    have hJ53 : ∀ (v3 : Int32) (v4 : Int32), VV m_X12_freeOne w g 0 0 (QM m_X12_freeOne w g x) κ38 53 [some (.ref (wB w + 171)), none, none, some (.int v3), some (.int v4)] [] σ (J_X12_freeOne_53 n v3 v4 σ) := by
      intro v3 v4
      refine V_iload_n (pc := 53) dX12_freeOne_53 rfl rfl ?_
      refine V_aload_n (pc := 54) dX12_freeOne_54 rfl rfl ?_
      refine V_getr (pc := 55) (t := 180) fk_X12_42 rfl dX12_freeOne_55 kc_171 rfl ?_
      refine V_iload (pc := 58) dX12_freeOne_58 rfl ?_
      refine V_iald (pc := 60) (n := 9) dX12_freeOne_60 kc_180 lc_180 ?_
      refine V_iconst (pc := 61) (v := (-1 : Int32)) dX12_freeOne_61 rfl ?_
      refine V_icmp_ne (pc := 62) (tgt := 69) dX12_freeOne_62 (by decide) ?_ ?_
      · refine V_iconst (pc := 69) (v := (0 : Int32)) dX12_freeOne_69 rfl ?_
        refine V_sub (vs' := [some (.ref (wB w + 171)), none, none, none, some (.int v4)]) (show vless _ _ from ⟨rfl, ⟨rfl, trivial⟩⟩) rfl ?_
        exact hJ70 v4 (0 : Int32) v3
      · refine V_iconst (pc := 65) (v := (1 : Int32)) dX12_freeOne_65 rfl ?_
        refine V_goto (pc := 66) (tgt := 70) dX12_freeOne_66 (by decide) ?_
        refine V_sub (vs' := [some (.ref (wB w + 171)), none, none, none, some (.int v4)]) (show vless _ _ from ⟨rfl, ⟨rfl, trivial⟩⟩) rfl ?_
        exact hJ70 v4 (1 : Int32) v3
    refine V_aload_n (pc := 38) dX12_freeOne_38 rfl rfl ?_
    refine V_getr (pc := 39) (t := 180) fk_X12_42 rfl dX12_freeOne_39 kc_171 rfl ?_
    refine V_iload (pc := 42) dX12_freeOne_42 rfl ?_
    refine V_iald (pc := 44) (n := 9) dX12_freeOne_44 kc_180 lc_180 ?_
    refine V_iconst (pc := 45) (v := (-1 : Int32)) dX12_freeOne_45 rfl ?_
    refine V_icmp_ne (pc := 46) (tgt := 53) dX12_freeOne_46 (by decide) ?_ ?_
    · exact hJ53 a38.1 a38.2
    · refine V_iload_n (pc := 49) dX12_freeOne_49 rfl rfl ?_
      refine V_if_le (pc := 50) (tgt := 78) dX12_freeOne_50 (by decide) ?_ ?_
      · refine V_exit r38 ?_
        refine V_iload (pc := 78) dX12_freeOne_78 rfl ?_
        exact V_ireti (pc := 80) dX12_freeOne_80 rfl (hk := fun h => h)
      · exact hJ53 a38.1 a38.2
  have hJ35 : ∀ (v3 : Int32), VV m_X12_freeOne w g 0 0 (QM m_X12_freeOne w g x) (fun b : Int32 => (b, σ) = x) 35 [some (.ref (wB w + 171)), none, none, some (.int v3), none] [] σ (J_X12_freeOne_35 n v3 σ) := by
    intro v3
    refine V_iconst (pc := 35) (v := (0 : Int32)) dX12_freeOne_35 rfl ?_
    refine V_istore (pc := 36) (vs' := [some (.ref (wB w + 171)), none, none, some (.int v3), some (.int (0 : Int32))]) dX12_freeOne_36 (Nat.le_of_ble_eq_true rfl) (Nat.le_of_ble_eq_true rfl) rfl ?_
    exact hL38 n (v3, (0 : Int32))
  refine V_iload_n (pc := 0) dX12_freeOne_0 rfl rfl ?_
  refine V_istore_n (pc := 1) (vs' := [some (.ref (wB w + 171)), some (.int p1), some (.int p2), some (.int p1), none]) dX12_freeOne_1 rfl (Nat.le_of_ble_eq_true rfl) (Nat.le_of_ble_eq_true rfl) rfl ?_
  refine V_iload_n (pc := 2) dX12_freeOne_2 rfl rfl ?_
  refine V_aload_n (pc := 3) dX12_freeOne_3 rfl rfl ?_
  refine V_callVpi (pc := 4) (As := []) (rest := [.int p2]) (c_X12_people w  σ) cw_X12_58 rfl rfl dX12_freeOne_4 kc_171 rfl ⟨Nat.le_of_ble_eq_true rfl, Nat.le_of_ble_eq_true rfl⟩ rfl rfl (Nat.le_of_ble_eq_true rfl) (Nat.le_of_ble_eq_true rfl) (Nat.le_of_ble_eq_true rfl) rfl (fun q4 => ?_)
  refine V_icmp_le (pc := 7) (tgt := 35) dX12_freeOne_7 (by decide) ?_ ?_
  · refine V_sub (vs' := [some (.ref (wB w + 171)), none, none, some (.int p1), none]) (show vless _ _ from ⟨rfl, ⟨rfl, trivial⟩⟩) rfl ?_
    exact hJ35 p1
  · refine V_aload_n (pc := 10) dX12_freeOne_10 rfl rfl ?_
    refine V_getr (pc := 11) (t := 180) fk_X12_42 rfl dX12_freeOne_11 kc_171 rfl ?_
    refine V_aload_n (pc := 14) dX12_freeOne_14 rfl rfl ?_
    refine V_callVpi (pc := 15) (As := []) (rest := [.ref (wB w + 180)]) (c_X12_people w  σ) cw_X12_58 rfl rfl dX12_freeOne_15 kc_171 rfl ⟨Nat.le_of_ble_eq_true rfl, Nat.le_of_ble_eq_true rfl⟩ rfl rfl (Nat.le_of_ble_eq_true rfl) (Nat.le_of_ble_eq_true rfl) (Nat.le_of_ble_eq_true rfl) rfl (fun q15 => ?_)
    refine V_iald (pc := 18) (n := 9) dX12_freeOne_18 kc_180 lc_180 ?_
    refine V_iconst (pc := 19) (v := (-1 : Int32)) dX12_freeOne_19 rfl ?_
    refine V_icmp_ne (pc := 20) (tgt := 35) dX12_freeOne_20 (by decide) ?_ ?_
    · refine V_sub (vs' := [some (.ref (wB w + 171)), none, none, some (.int p1), none]) (show vless _ _ from ⟨rfl, ⟨rfl, trivial⟩⟩) rfl ?_
      exact hJ35 p1
    · refine V_iload_n (pc := 23) dX12_freeOne_23 rfl rfl ?_
      refine V_if_ne (pc := 24) (tgt := 32) dX12_freeOne_24 (by decide) ?_ ?_
      · refine V_iinc (pc := 32) (v := (p1 + (-1 : Int32))) (vs' := [some (.ref (wB w + 171)), some (.int p1), some (.int p2), some (.int (p1 + (-1 : Int32))), none]) dX12_freeOne_32 (Nat.le_of_ble_eq_true rfl) rfl rfl rfl ?_
        refine V_sub (vs' := [some (.ref (wB w + 171)), none, none, some (.int (p1 + (-1 : Int32))), none]) (show vless _ _ from ⟨rfl, ⟨rfl, trivial⟩⟩) rfl ?_
        exact hJ35 (p1 + (-1 : Int32))
      · refine V_aload_n (pc := 27) dX12_freeOne_27 rfl rfl ?_
        refine V_callVpi (pc := 28) (As := []) (rest := []) (c_X12_people w  σ) cw_X12_58 rfl rfl dX12_freeOne_28 kc_171 rfl ⟨Nat.le_of_ble_eq_true rfl, Nat.le_of_ble_eq_true rfl⟩ rfl rfl (Nat.le_of_ble_eq_true rfl) (Nat.le_of_ble_eq_true rfl) (Nat.le_of_ble_eq_true rfl) rfl (fun q28 => ?_)
        exact V_ireti (pc := 31) dX12_freeOne_31 rfl (hk := fun h => h)
def L_X12_laysWay_34 (n : Nat) (v2 : Int32) (v3 : Int32) (v4 : Int32) (σ : MS) (a34 : Int32) : Option ((Int32) ⊕ ((Int32 × Int32 × MS) ⊕ (Int32 × MS))) := (if inb a34 9 then (if (σ 180 (ix a34)) = (-1 : Int32) then (((f_X12_waysOf n (v4 - (2 : Int32)) σ).bind (fun q55 => (if inb a34 9 then ltM (mu σ 180 (ix a34) a34) (fun s68 => (if q55 = 0 then none else ((f_X12_freeOne n (v3 / q55) v2 s68).bind (fun q75 => (if q55 = 0 then none else (if inb a34 9 then ltM (mu s68 180 (ix a34) q75) (fun s93 => (if inb q75 9 then ltM (mu s93 180 (ix q75) a34) (fun s102 => some (.inl ((remI v3 q55), (v4 + (-2 : Int32)), s102))) else none)) else none)))))) else none)))).map Sum.inr else some (.inl ((a34 + (1 : Int32))))) else none)
def L_X12_laysWay_26 (n : Nat) (v2 : Int32) (σ : MS) (a26 : Int32 × Int32 × MS) : Option ((Int32 × Int32 × MS) ⊕ (Int32 × MS)) := (if a26.2.1 ≤ 0 then (some (0, a26.2.2)).map Sum.inr else itr (L_X12_laysWay_34 n v2 a26.1 a26.2.1 a26.2.2) n ((0 : Int32)))
def L_X12_laysWay_2 (n : Nat) (v1 : Int32) (v2 : Int32) (σ : MS) (a2 : Int32 × MS) : Option ((Int32 × MS) ⊕ (Int32 × MS)) := (if (8 : Int32) < a2.1 then (itr (L_X12_laysWay_26 n v2 σ) n (v1, v2, a2.2)).map Sum.inr else (if inb a2.1 9 then ltM (mu a2.2 180 (ix a2.1) (-1 : Int32)) (fun s14 => some (.inl ((a2.1 + (1 : Int32)), s14))) else none))
def f_X12_laysWay (n : Nat) (p1 : Int32) (p2 : Int32) (σ : MS) : Option (Int32 × MS) := itr (L_X12_laysWay_2 n p1 p2 σ) n ((0 : Int32), σ)
set_option maxRecDepth 20000 in
set_option maxHeartbeats 2000000 in
theorem c_X12_laysWay (w : TG) (n : Nat) (p1 : Int32) (p2 : Int32) (σ : MS) : MC m_X12_laysWay w [.ref (wB w + 171), .int p1, .int p2] σ (f_X12_laysWay n p1 p2 σ) := by
  refine V_meth (by decide +kernel) (Nat.le_of_ble_eq_true rfl) (by intro v hv; simp only [List.mem_cons, List.not_mem_nil, or_false] at hv; rcases hv with rfl | rfl | rfl <;> rfl) (fun g x => ?_)
  show VV m_X12_laysWay w g 0 0 (QM m_X12_laysWay w g x) (fun b : Int32 × MS => b = x) 0 [some (.ref (wB w + 171)), some (.int p1), some (.int p2), none, none, none, none, none] [] σ (f_X12_laysWay n p1 p2 σ)
  have hL26 : ∀  (n0 : Nat) (a : Int32 × Int32 × MS), VV m_X12_laysWay w g 0 0 (QM m_X12_laysWay w g x) (fun b : Int32 × MS => b = x) 26 [some (.ref (wB w + 171)), none, some (.int p2), some (.int a.1), some (.int a.2.1), none, none, none] [] a.2.2 (itr (L_X12_laysWay_26 n p2 σ) n0 a) := by
    refine V_itr (vf := fun a : Int32 × Int32 × MS => [some (.ref (wB w + 171)), none, some (.int p2), some (.int a.1), some (.int a.2.1), none, none, none]) (sf := fun a : Int32 × Int32 × MS => a.2.2) (fun κ26 b26 r26 a26 => ?_)
    show VV m_X12_laysWay w g 0 0 (QM m_X12_laysWay w g x) κ26 26 [some (.ref (wB w + 171)), none, some (.int p2), some (.int a26.1), some (.int a26.2.1), none, none, none] [] a26.2.2 (L_X12_laysWay_26 n p2 σ a26)
    have hL34 : ∀ (v3 : Int32) (v4 : Int32) (σ : MS) (n0 : Nat) (a : Int32), VV m_X12_laysWay w g 0 0 (QM m_X12_laysWay w g x) κ26 34 [some (.ref (wB w + 171)), none, some (.int p2), some (.int v3), some (.int v4), some (.int a), none, none] [] σ (itr (L_X12_laysWay_34 n p2 v3 v4 σ) n0 a) := by
      intro v3 v4 σ
      refine V_itr (vf := fun a : Int32 => [some (.ref (wB w + 171)), none, some (.int p2), some (.int v3), some (.int v4), some (.int a), none, none]) (sf := fun a : Int32 => σ) (fun κ34 b34 r34 a34 => ?_)
      show VV m_X12_laysWay w g 0 0 (QM m_X12_laysWay w g x) κ34 34 [some (.ref (wB w + 171)), none, some (.int p2), some (.int v3), some (.int v4), some (.int a34), none, none] [] σ (L_X12_laysWay_34 n p2 v3 v4 σ a34)
      refine V_aload_n (pc := 34) dX12_laysWay_34 rfl rfl ?_
      refine V_getr (pc := 35) (t := 180) fk_X12_42 rfl dX12_laysWay_35 kc_171 rfl ?_
      refine V_iload (pc := 38) dX12_laysWay_38 rfl ?_
      refine V_iald (pc := 40) (n := 9) dX12_laysWay_40 kc_180 lc_180 ?_
      refine V_iconst (pc := 41) (v := (-1 : Int32)) dX12_laysWay_41 rfl ?_
      refine V_icmp_eq (pc := 42) (tgt := 51) dX12_laysWay_42 (by decide) ?_ ?_
      · refine V_exit r34 ?_
        refine V_iload (pc := 51) dX12_laysWay_51 rfl ?_
        refine V_iconst (pc := 53) (v := (2 : Int32)) dX12_laysWay_53 rfl ?_
        refine V_isub (pc := 54) dX12_laysWay_54 ?_
        refine V_callSpi (pc := 55) (As := [.int (v4 - (2 : Int32))]) (rest := []) (c_X12_waysOf w n (v4 - (2 : Int32)) σ) cs_X12_382 rfl rfl dX12_laysWay_55 ⟨Nat.le_of_ble_eq_true rfl, Nat.le_of_ble_eq_true rfl⟩ rfl rfl (Nat.le_of_ble_eq_true rfl) (Nat.le_of_ble_eq_true rfl) (Nat.le_of_ble_eq_true rfl) rfl (fun q55 => ?_)
        refine V_istore (pc := 58) (vs' := [some (.ref (wB w + 171)), none, some (.int p2), some (.int v3), some (.int v4), some (.int a34), some (.int q55), none]) dX12_laysWay_58 (Nat.le_of_ble_eq_true rfl) (Nat.le_of_ble_eq_true rfl) rfl ?_
        refine V_aload_n (pc := 60) dX12_laysWay_60 rfl rfl ?_
        refine V_getr (pc := 61) (t := 180) fk_X12_42 rfl dX12_laysWay_61 kc_171 rfl ?_
        refine V_iload (pc := 64) dX12_laysWay_64 rfl ?_
        refine V_iload (pc := 66) dX12_laysWay_66 rfl ?_
        refine V_iast (pc := 68) (n := 9) dX12_laysWay_68 kc_180 lc_180 (fun s68 => ?_)
        refine V_aload_n (pc := 69) dX12_laysWay_69 rfl rfl ?_
        refine V_iload_n (pc := 70) dX12_laysWay_70 rfl rfl ?_
        refine V_iload (pc := 71) dX12_laysWay_71 rfl ?_
        refine V_idivG (pc := 73) dX12_laysWay_73 ?_
        refine V_iload_n (pc := 74) dX12_laysWay_74 rfl rfl ?_
        refine V_callVpi (pc := 75) (As := [.int (v3 / q55), .int p2]) (rest := []) (c_X12_freeOne w n (v3 / q55) p2 s68) cw_X12_385 rfl rfl dX12_laysWay_75 kc_171 rfl ⟨Nat.le_of_ble_eq_true rfl, Nat.le_of_ble_eq_true rfl⟩ rfl rfl (Nat.le_of_ble_eq_true rfl) (Nat.le_of_ble_eq_true rfl) (Nat.le_of_ble_eq_true rfl) rfl (fun q75 => ?_)
        refine V_istore (pc := 78) (vs' := [some (.ref (wB w + 171)), none, some (.int p2), some (.int v3), some (.int v4), some (.int a34), some (.int q55), some (.int q75)]) dX12_laysWay_78 (Nat.le_of_ble_eq_true rfl) (Nat.le_of_ble_eq_true rfl) rfl ?_
        refine V_iload_n (pc := 80) dX12_laysWay_80 rfl rfl ?_
        refine V_iload (pc := 81) dX12_laysWay_81 rfl ?_
        refine V_iremG (pc := 83) dX12_laysWay_83 ?_
        refine V_istore_n (pc := 84) (vs' := [some (.ref (wB w + 171)), none, some (.int p2), some (.int (remI v3 q55)), some (.int v4), some (.int a34), some (.int q55), some (.int q75)]) dX12_laysWay_84 rfl (Nat.le_of_ble_eq_true rfl) (Nat.le_of_ble_eq_true rfl) rfl ?_
        refine V_aload_n (pc := 85) dX12_laysWay_85 rfl rfl ?_
        refine V_getr (pc := 86) (t := 180) fk_X12_42 rfl dX12_laysWay_86 kc_171 rfl ?_
        refine V_iload (pc := 89) dX12_laysWay_89 rfl ?_
        refine V_iload (pc := 91) dX12_laysWay_91 rfl ?_
        refine V_iast (pc := 93) (n := 9) dX12_laysWay_93 kc_180 lc_180 (fun s93 => ?_)
        refine V_aload_n (pc := 94) dX12_laysWay_94 rfl rfl ?_
        refine V_getr (pc := 95) (t := 180) fk_X12_42 rfl dX12_laysWay_95 kc_171 rfl ?_
        refine V_iload (pc := 98) dX12_laysWay_98 rfl ?_
        refine V_iload (pc := 100) dX12_laysWay_100 rfl ?_
        refine V_iast (pc := 102) (n := 9) dX12_laysWay_102 kc_180 lc_180 (fun s102 => ?_)
        refine V_iinc (pc := 103) (v := (v4 + (-2 : Int32))) (vs' := [some (.ref (wB w + 171)), none, some (.int p2), some (.int (remI v3 q55)), some (.int (v4 + (-2 : Int32))), some (.int a34), some (.int q55), some (.int q75)]) dX12_laysWay_103 (Nat.le_of_ble_eq_true rfl) rfl rfl rfl ?_
        refine V_goto (pc := 106) (tgt := 26) dX12_laysWay_106 (by decide) ?_
        refine V_sub (vs' := [some (.ref (wB w + 171)), none, some (.int p2), some (.int (remI v3 q55)), some (.int (v4 + (-2 : Int32))), none, none, none]) (show vless _ _ from ⟨rfl, ⟨rfl, ⟨rfl, ⟨rfl, trivial⟩⟩⟩⟩) rfl ?_
        exact V_back (b26 ((remI v3 q55), (v4 + (-2 : Int32)), s102))
      · refine V_iinc (pc := 45) (v := (a34 + (1 : Int32))) (vs' := [some (.ref (wB w + 171)), none, some (.int p2), some (.int v3), some (.int v4), some (.int (a34 + (1 : Int32))), none, none]) dX12_laysWay_45 (Nat.le_of_ble_eq_true rfl) rfl rfl rfl ?_
        refine V_goto (pc := 48) (tgt := 34) dX12_laysWay_48 (by decide) ?_
        exact V_back (b34 ((a34 + (1 : Int32))))
    refine V_iload (pc := 26) dX12_laysWay_26 rfl ?_
    refine V_if_le (pc := 28) (tgt := 109) dX12_laysWay_28 (by decide) ?_ ?_
    · refine V_exit r26 ?_
      exact V_ret (pc := 109) dX12_laysWay_109 rfl (hk := fun h => h)
    · refine V_iconst (pc := 31) (v := (0 : Int32)) dX12_laysWay_31 rfl ?_
      refine V_istore (pc := 32) (vs' := [some (.ref (wB w + 171)), none, some (.int p2), some (.int a26.1), some (.int a26.2.1), some (.int (0 : Int32)), none, none]) dX12_laysWay_32 (Nat.le_of_ble_eq_true rfl) (Nat.le_of_ble_eq_true rfl) rfl ?_
      exact hL34 a26.1 a26.2.1 a26.2.2 n ((0 : Int32))
  have hL2 : ∀  (n0 : Nat) (a : Int32 × MS), VV m_X12_laysWay w g 0 0 (QM m_X12_laysWay w g x) (fun b : Int32 × MS => b = x) 2 [some (.ref (wB w + 171)), some (.int p1), some (.int p2), some (.int a.1), none, none, none, none] [] a.2 (itr (L_X12_laysWay_2 n p1 p2 σ) n0 a) := by
    refine V_itr (vf := fun a : Int32 × MS => [some (.ref (wB w + 171)), some (.int p1), some (.int p2), some (.int a.1), none, none, none, none]) (sf := fun a : Int32 × MS => a.2) (fun κ2 b2 r2 a2 => ?_)
    show VV m_X12_laysWay w g 0 0 (QM m_X12_laysWay w g x) κ2 2 [some (.ref (wB w + 171)), some (.int p1), some (.int p2), some (.int a2.1), none, none, none, none] [] a2.2 (L_X12_laysWay_2 n p1 p2 σ a2)
    refine V_iload_n (pc := 2) dX12_laysWay_2 rfl rfl ?_
    refine V_bipush (pc := 3) (v := (8 : Int32)) dX12_laysWay_3 rfl ?_
    refine V_icmp_gt (pc := 5) (tgt := 21) dX12_laysWay_5 (by decide) ?_ ?_
    · refine V_exit r2 ?_
      refine V_iload_n (pc := 21) dX12_laysWay_21 rfl rfl ?_
      refine V_istore_n (pc := 22) (vs' := [some (.ref (wB w + 171)), some (.int p1), some (.int p2), some (.int p1), none, none, none, none]) dX12_laysWay_22 rfl (Nat.le_of_ble_eq_true rfl) (Nat.le_of_ble_eq_true rfl) rfl ?_
      refine V_iload_n (pc := 23) dX12_laysWay_23 rfl rfl ?_
      refine V_istore (pc := 24) (vs' := [some (.ref (wB w + 171)), some (.int p1), some (.int p2), some (.int p1), some (.int p2), none, none, none]) dX12_laysWay_24 (Nat.le_of_ble_eq_true rfl) (Nat.le_of_ble_eq_true rfl) rfl ?_
      refine V_sub (vs' := [some (.ref (wB w + 171)), none, some (.int p2), some (.int p1), some (.int p2), none, none, none]) (show vless _ _ from ⟨rfl, ⟨rfl, ⟨rfl, ⟨rfl, trivial⟩⟩⟩⟩) rfl ?_
      exact hL26 n (p1, p2, a2.2)
    · refine V_aload_n (pc := 8) dX12_laysWay_8 rfl rfl ?_
      refine V_getr (pc := 9) (t := 180) fk_X12_42 rfl dX12_laysWay_9 kc_171 rfl ?_
      refine V_iload_n (pc := 12) dX12_laysWay_12 rfl rfl ?_
      refine V_iconst (pc := 13) (v := (-1 : Int32)) dX12_laysWay_13 rfl ?_
      refine V_iast (pc := 14) (n := 9) dX12_laysWay_14 kc_180 lc_180 (fun s14 => ?_)
      refine V_iinc (pc := 15) (v := (a2.1 + (1 : Int32))) (vs' := [some (.ref (wB w + 171)), some (.int p1), some (.int p2), some (.int (a2.1 + (1 : Int32))), none, none, none, none]) dX12_laysWay_15 (Nat.le_of_ble_eq_true rfl) rfl rfl rfl ?_
      refine V_goto (pc := 18) (tgt := 2) dX12_laysWay_18 (by decide) ?_
      exact V_back (b2 ((a2.1 + (1 : Int32)), s14))
  refine V_iconst (pc := 0) (v := (0 : Int32)) dX12_laysWay_0 rfl ?_
  refine V_istore_n (pc := 1) (vs' := [some (.ref (wB w + 171)), some (.int p1), some (.int p2), some (.int (0 : Int32)), none, none, none, none]) dX12_laysWay_1 rfl (Nat.le_of_ble_eq_true rfl) (Nat.le_of_ble_eq_true rfl) rfl ?_
  exact hL2 n ((0 : Int32), σ)
def J_X12_likesIts_28 (t0 : Int32) (σ : MS) : Option (Int32) := some t0
def f_X12_likesIts (p1 : Int32) (σ : MS) : Option (Int32) := (if inb p1 9 then ((f_X12_people  σ).bind (fun q7 => (if (σ 180 (ix p1)) = q7 then J_X12_likesIts_28 (-1 : Int32) σ else (if inb p1 9 then ((f_X12_likes p1 (σ 180 (ix p1)) σ).bind (fun q25 => J_X12_likesIts_28 q25 σ)) else none)))) else none)
set_option maxRecDepth 20000 in
set_option maxHeartbeats 2000000 in
theorem c_X12_likesIts (w : TG) (p1 : Int32) (σ : MS) : MC m_X12_likesIts w [.ref (wB w + 171), .int p1] σ ((f_X12_likesIts p1 σ).map (fun r => (r, σ))) := by
  refine V_methp (by decide +kernel) (Nat.le_of_ble_eq_true rfl) (by intro v hv; simp only [List.mem_cons, List.not_mem_nil, or_false] at hv; rcases hv with rfl | rfl <;> rfl) (fun g x => ?_)
  show VV m_X12_likesIts w g 0 0 (QM m_X12_likesIts w g x) (fun b : Int32 => (b, σ) = x) 0 [some (.ref (wB w + 171)), some (.int p1)] [] σ (f_X12_likesIts p1 σ)
  have hJ28 : ∀ (t0 : Int32), VV m_X12_likesIts w g 0 0 (QM m_X12_likesIts w g x) (fun b : Int32 => (b, σ) = x) 28 [none, none] [.int t0] σ (J_X12_likesIts_28 t0 σ) := by
    intro t0
    exact V_ireti (pc := 28) dX12_likesIts_28 rfl (hk := fun h => h)
  refine V_aload_n (pc := 0) dX12_likesIts_0 rfl rfl ?_
  refine V_getr (pc := 1) (t := 180) fk_X12_42 rfl dX12_likesIts_1 kc_171 rfl ?_
  refine V_iload_n (pc := 4) dX12_likesIts_4 rfl rfl ?_
  refine V_iald (pc := 5) (n := 9) dX12_likesIts_5 kc_180 lc_180 ?_
  refine V_aload_n (pc := 6) dX12_likesIts_6 rfl rfl ?_
  refine V_callVpi (pc := 7) (As := []) (rest := [.int (σ 180 (ix p1))]) (c_X12_people w  σ) cw_X12_58 rfl rfl dX12_likesIts_7 kc_171 rfl ⟨Nat.le_of_ble_eq_true rfl, Nat.le_of_ble_eq_true rfl⟩ rfl rfl (Nat.le_of_ble_eq_true rfl) (Nat.le_of_ble_eq_true rfl) (Nat.le_of_ble_eq_true rfl) rfl (fun q7 => ?_)
  refine V_icmp_ne (pc := 10) (tgt := 17) dX12_likesIts_10 (by decide) ?_ ?_
  · refine V_aload_n (pc := 17) dX12_likesIts_17 rfl rfl ?_
    refine V_iload_n (pc := 18) dX12_likesIts_18 rfl rfl ?_
    refine V_aload_n (pc := 19) dX12_likesIts_19 rfl rfl ?_
    refine V_getr (pc := 20) (t := 180) fk_X12_42 rfl dX12_likesIts_20 kc_171 rfl ?_
    refine V_iload_n (pc := 23) dX12_likesIts_23 rfl rfl ?_
    refine V_iald (pc := 24) (n := 9) dX12_likesIts_24 kc_180 lc_180 ?_
    refine V_callVpi (pc := 25) (As := [.int p1, .int (σ 180 (ix p1))]) (rest := []) (c_X12_likes w p1 (σ 180 (ix p1)) σ) cw_X12_272 rfl rfl dX12_likesIts_25 kc_171 rfl ⟨Nat.le_of_ble_eq_true rfl, Nat.le_of_ble_eq_true rfl⟩ rfl rfl (Nat.le_of_ble_eq_true rfl) (Nat.le_of_ble_eq_true rfl) (Nat.le_of_ble_eq_true rfl) rfl (fun q25 => ?_)
    refine V_sub (vs' := [none, none]) (show vless _ _ from trivial) rfl ?_
    exact hJ28 q25
  · refine V_iconst (pc := 13) (v := (-1 : Int32)) dX12_likesIts_13 rfl ?_
    refine V_goto (pc := 14) (tgt := 28) dX12_likesIts_14 (by decide) ?_
    refine V_sub (vs' := [none, none]) (show vless _ _ from trivial) rfl ?_
    exact hJ28 (-1 : Int32)
def J_X12_isSteady_66 (n : Nat) (v2 : Int32) (v3 : Int32) (t0 : Int32) (σ : MS) : Option ((Int32 × Int32) ⊕ ((Int32 × Int32) ⊕ (Int32))) := some (.inl (t0, (v3 + (1 : Int32))))
def J_X12_isSteady_65 (n : Nat) (v2 : Int32) (v3 : Int32) (σ : MS) : Option ((Int32 × Int32) ⊕ ((Int32 × Int32) ⊕ (Int32))) := J_X12_isSteady_66 n v2 v3 (0 : Int32) σ
def J_X12_isSteady_61 (n : Nat) (v2 : Int32) (v3 : Int32) (σ : MS) : Option ((Int32 × Int32) ⊕ ((Int32 × Int32) ⊕ (Int32))) := J_X12_isSteady_66 n v2 v3 (1 : Int32) σ
def L_X12_isSteady_14 (n : Nat) (v2 : Int32) (σ : MS) (a14 : Int32 × Int32) : Option ((Int32 × Int32) ⊕ ((Int32 × Int32) ⊕ (Int32))) := (if v2 ≤ a14.2 then (some (.inl (a14.1, (v2 + (1 : Int32))))).map Sum.inr else (if a14.1 = 0 then J_X12_isSteady_65 n v2 a14.2 σ else (if inb v2 9 then (if (σ 180 (ix v2)) = a14.2 then J_X12_isSteady_61 n v2 a14.2 σ else ((f_X12_likes v2 a14.2 σ).bind (fun q36 => ((f_X12_likesIts v2 σ).bind (fun q41 => (if q36 ≤ q41 then J_X12_isSteady_61 n v2 a14.2 σ else ((f_X12_likes a14.2 v2 σ).bind (fun q50 => ((f_X12_likesIts a14.2 σ).bind (fun q55 => (if q55 < q50 then J_X12_isSteady_65 n v2 a14.2 σ else J_X12_isSteady_61 n v2 a14.2 σ))))))))))) else none)))
def L_X12_isSteady_4 (n : Nat)  (σ : MS) (a4 : Int32 × Int32) : Option ((Int32 × Int32) ⊕ (Int32)) := ((f_X12_people  σ).bind (fun q6 => (if q6 ≤ a4.2 then ((if a4.1 = 0 ∨ a4.1 = 1 then some a4.1 else none)).map Sum.inr else itr (L_X12_isSteady_14 n a4.2 σ) n (a4.1, (0 : Int32)))))
def f_X12_isSteady (n : Nat)  (σ : MS) : Option (Int32) := itr (L_X12_isSteady_4 n  σ) n ((1 : Int32), (0 : Int32))
set_option maxRecDepth 20000 in
set_option maxHeartbeats 2000000 in
theorem c_X12_isSteady (w : TG) (n : Nat)  (σ : MS) : MC m_X12_isSteady w [.ref (wB w + 171)] σ ((f_X12_isSteady n  σ).map (fun r => (r, σ))) := by
  refine V_methp (by decide +kernel) (Nat.le_of_ble_eq_true rfl) (by intro v hv; simp only [List.mem_cons, List.not_mem_nil, or_false] at hv; subst hv; rfl) (fun g x => ?_)
  show VV m_X12_isSteady w g 0 0 (QM m_X12_isSteady w g x) (fun b : Int32 => (b, σ) = x) 0 [some (.ref (wB w + 171)), none, none, none] [] σ (f_X12_isSteady n  σ)
  have hL4 : ∀  (n0 : Nat) (a : Int32 × Int32), VV m_X12_isSteady w g 0 0 (QM m_X12_isSteady w g x) (fun b : Int32 => (b, σ) = x) 4 [some (.ref (wB w + 171)), some (.int a.1), some (.int a.2), none] [] σ (itr (L_X12_isSteady_4 n  σ) n0 a) := by
    refine V_itr (vf := fun a : Int32 × Int32 => [some (.ref (wB w + 171)), some (.int a.1), some (.int a.2), none]) (sf := fun a : Int32 × Int32 => σ) (fun κ4 b4 r4 a4 => ?_)
    show VV m_X12_isSteady w g 0 0 (QM m_X12_isSteady w g x) κ4 4 [some (.ref (wB w + 171)), some (.int a4.1), some (.int a4.2), none] [] σ (L_X12_isSteady_4 n  σ a4)
    have hL14 : ∀ (v2 : Int32) (n0 : Nat) (a : Int32 × Int32), VV m_X12_isSteady w g 0 0 (QM m_X12_isSteady w g x) κ4 14 [some (.ref (wB w + 171)), some (.int a.1), some (.int v2), some (.int a.2)] [] σ (itr (L_X12_isSteady_14 n v2 σ) n0 a) := by
      intro v2
      refine V_itr (vf := fun a : Int32 × Int32 => [some (.ref (wB w + 171)), some (.int a.1), some (.int v2), some (.int a.2)]) (sf := fun a : Int32 × Int32 => σ) (fun κ14 b14 r14 a14 => ?_)
      show VV m_X12_isSteady w g 0 0 (QM m_X12_isSteady w g x) κ14 14 [some (.ref (wB w + 171)), some (.int a14.1), some (.int v2), some (.int a14.2)] [] σ (L_X12_isSteady_14 n v2 σ a14)
      have hJ66 : ∀ (v3 : Int32) (t0 : Int32), VV m_X12_isSteady w g 0 0 (QM m_X12_isSteady w g x) κ14 66 [some (.ref (wB w + 171)), none, some (.int v2), some (.int v3)] [.int t0] σ (J_X12_isSteady_66 n v2 v3 t0 σ) := by
        intro v3 t0
        refine V_istore_n (pc := 66) (vs' := [some (.ref (wB w + 171)), some (.int t0), some (.int v2), some (.int v3)]) dX12_isSteady_66 rfl (Nat.le_of_ble_eq_true rfl) (Nat.le_of_ble_eq_true rfl) rfl ?_
        refine V_iinc (pc := 67) (v := (v3 + (1 : Int32))) (vs' := [some (.ref (wB w + 171)), some (.int t0), some (.int v2), some (.int (v3 + (1 : Int32)))]) dX12_isSteady_67 (Nat.le_of_ble_eq_true rfl) rfl rfl rfl ?_
        refine V_goto (pc := 70) (tgt := 14) dX12_isSteady_70 (by decide) ?_
        exact V_back (b14 (t0, (v3 + (1 : Int32))))
      have hJ65 : ∀ (v3 : Int32), VV m_X12_isSteady w g 0 0 (QM m_X12_isSteady w g x) κ14 65 [some (.ref (wB w + 171)), none, some (.int v2), some (.int v3)] [] σ (J_X12_isSteady_65 n v2 v3 σ) := by
        intro v3
        refine V_iconst (pc := 65) (v := (0 : Int32)) dX12_isSteady_65 rfl ?_
        exact hJ66 v3 (0 : Int32)
      have hJ61 : ∀ (v3 : Int32), VV m_X12_isSteady w g 0 0 (QM m_X12_isSteady w g x) κ14 61 [some (.ref (wB w + 171)), none, some (.int v2), some (.int v3)] [] σ (J_X12_isSteady_61 n v2 v3 σ) := by
        intro v3
        refine V_iconst (pc := 61) (v := (1 : Int32)) dX12_isSteady_61 rfl ?_
        refine V_goto (pc := 62) (tgt := 66) dX12_isSteady_62 (by decide) ?_
        exact hJ66 v3 (1 : Int32)
      refine V_iload_n (pc := 14) dX12_isSteady_14 rfl rfl ?_
      refine V_iload_n (pc := 15) dX12_isSteady_15 rfl rfl ?_
      refine V_icmp_ge (pc := 16) (tgt := 73) dX12_isSteady_16 (by decide) ?_ ?_
      · refine V_exit r14 ?_
        refine V_iinc (pc := 73) (v := (v2 + (1 : Int32))) (vs' := [some (.ref (wB w + 171)), some (.int a14.1), some (.int (v2 + (1 : Int32))), some (.int a14.2)]) dX12_isSteady_73 (Nat.le_of_ble_eq_true rfl) rfl rfl rfl ?_
        refine V_goto (pc := 76) (tgt := 4) dX12_isSteady_76 (by decide) ?_
        refine V_sub (vs' := [some (.ref (wB w + 171)), some (.int a14.1), some (.int (v2 + (1 : Int32))), none]) (show vless _ _ from ⟨rfl, ⟨rfl, ⟨rfl, trivial⟩⟩⟩) rfl ?_
        exact V_back (b4 (a14.1, (v2 + (1 : Int32))))
      · refine V_iload_n (pc := 19) dX12_isSteady_19 rfl rfl ?_
        refine V_if_eq (pc := 20) (tgt := 65) dX12_isSteady_20 (by decide) ?_ ?_
        · refine V_sub (vs' := [some (.ref (wB w + 171)), none, some (.int v2), some (.int a14.2)]) (show vless _ _ from ⟨rfl, ⟨rfl, ⟨rfl, trivial⟩⟩⟩) rfl ?_
          exact hJ65 a14.2
        · refine V_aload_n (pc := 23) dX12_isSteady_23 rfl rfl ?_
          refine V_getr (pc := 24) (t := 180) fk_X12_42 rfl dX12_isSteady_24 kc_171 rfl ?_
          refine V_iload_n (pc := 27) dX12_isSteady_27 rfl rfl ?_
          refine V_iald (pc := 28) (n := 9) dX12_isSteady_28 kc_180 lc_180 ?_
          refine V_iload_n (pc := 29) dX12_isSteady_29 rfl rfl ?_
          refine V_icmp_eq (pc := 30) (tgt := 61) dX12_isSteady_30 (by decide) ?_ ?_
          · refine V_sub (vs' := [some (.ref (wB w + 171)), none, some (.int v2), some (.int a14.2)]) (show vless _ _ from ⟨rfl, ⟨rfl, ⟨rfl, trivial⟩⟩⟩) rfl ?_
            exact hJ61 a14.2
          · refine V_aload_n (pc := 33) dX12_isSteady_33 rfl rfl ?_
            refine V_iload_n (pc := 34) dX12_isSteady_34 rfl rfl ?_
            refine V_iload_n (pc := 35) dX12_isSteady_35 rfl rfl ?_
            refine V_callVpi (pc := 36) (As := [.int v2, .int a14.2]) (rest := []) (c_X12_likes w v2 a14.2 σ) cw_X12_272 rfl rfl dX12_isSteady_36 kc_171 rfl ⟨Nat.le_of_ble_eq_true rfl, Nat.le_of_ble_eq_true rfl⟩ rfl rfl (Nat.le_of_ble_eq_true rfl) (Nat.le_of_ble_eq_true rfl) (Nat.le_of_ble_eq_true rfl) rfl (fun q36 => ?_)
            refine V_aload_n (pc := 39) dX12_isSteady_39 rfl rfl ?_
            refine V_iload_n (pc := 40) dX12_isSteady_40 rfl rfl ?_
            refine V_callVpi (pc := 41) (As := [.int v2]) (rest := [.int q36]) (c_X12_likesIts w v2 σ) cw_X12_388 rfl rfl dX12_isSteady_41 kc_171 rfl ⟨Nat.le_of_ble_eq_true rfl, Nat.le_of_ble_eq_true rfl⟩ rfl rfl (Nat.le_of_ble_eq_true rfl) (Nat.le_of_ble_eq_true rfl) (Nat.le_of_ble_eq_true rfl) rfl (fun q41 => ?_)
            refine V_icmp_le (pc := 44) (tgt := 61) dX12_isSteady_44 (by decide) ?_ ?_
            · refine V_sub (vs' := [some (.ref (wB w + 171)), none, some (.int v2), some (.int a14.2)]) (show vless _ _ from ⟨rfl, ⟨rfl, ⟨rfl, trivial⟩⟩⟩) rfl ?_
              exact hJ61 a14.2
            · refine V_aload_n (pc := 47) dX12_isSteady_47 rfl rfl ?_
              refine V_iload_n (pc := 48) dX12_isSteady_48 rfl rfl ?_
              refine V_iload_n (pc := 49) dX12_isSteady_49 rfl rfl ?_
              refine V_callVpi (pc := 50) (As := [.int a14.2, .int v2]) (rest := []) (c_X12_likes w a14.2 v2 σ) cw_X12_272 rfl rfl dX12_isSteady_50 kc_171 rfl ⟨Nat.le_of_ble_eq_true rfl, Nat.le_of_ble_eq_true rfl⟩ rfl rfl (Nat.le_of_ble_eq_true rfl) (Nat.le_of_ble_eq_true rfl) (Nat.le_of_ble_eq_true rfl) rfl (fun q50 => ?_)
              refine V_aload_n (pc := 53) dX12_isSteady_53 rfl rfl ?_
              refine V_iload_n (pc := 54) dX12_isSteady_54 rfl rfl ?_
              refine V_callVpi (pc := 55) (As := [.int a14.2]) (rest := [.int q50]) (c_X12_likesIts w a14.2 σ) cw_X12_388 rfl rfl dX12_isSteady_55 kc_171 rfl ⟨Nat.le_of_ble_eq_true rfl, Nat.le_of_ble_eq_true rfl⟩ rfl rfl (Nat.le_of_ble_eq_true rfl) (Nat.le_of_ble_eq_true rfl) (Nat.le_of_ble_eq_true rfl) rfl (fun q55 => ?_)
              refine V_icmp_gt (pc := 58) (tgt := 65) dX12_isSteady_58 (by decide) ?_ ?_
              · refine V_sub (vs' := [some (.ref (wB w + 171)), none, some (.int v2), some (.int a14.2)]) (show vless _ _ from ⟨rfl, ⟨rfl, ⟨rfl, trivial⟩⟩⟩) rfl ?_
                exact hJ65 a14.2
              · refine V_sub (vs' := [some (.ref (wB w + 171)), none, some (.int v2), some (.int a14.2)]) (show vless _ _ from ⟨rfl, ⟨rfl, ⟨rfl, trivial⟩⟩⟩) rfl ?_
                exact hJ61 a14.2
    refine V_iload_n (pc := 4) dX12_isSteady_4 rfl rfl ?_
    refine V_aload_n (pc := 5) dX12_isSteady_5 rfl rfl ?_
    refine V_callVpi (pc := 6) (As := []) (rest := [.int a4.2]) (c_X12_people w  σ) cw_X12_58 rfl rfl dX12_isSteady_6 kc_171 rfl ⟨Nat.le_of_ble_eq_true rfl, Nat.le_of_ble_eq_true rfl⟩ rfl rfl (Nat.le_of_ble_eq_true rfl) (Nat.le_of_ble_eq_true rfl) (Nat.le_of_ble_eq_true rfl) rfl (fun q6 => ?_)
    refine V_icmp_ge (pc := 9) (tgt := 79) dX12_isSteady_9 (by decide) ?_ ?_
    · refine V_exit r4 ?_
      refine V_iload_n (pc := 79) dX12_isSteady_79 rfl rfl ?_
      exact V_iretZ (pc := 80) dX12_isSteady_80 rfl (hk := fun h => h)
    · refine V_iconst (pc := 12) (v := (0 : Int32)) dX12_isSteady_12 rfl ?_
      refine V_istore_n (pc := 13) (vs' := [some (.ref (wB w + 171)), some (.int a4.1), some (.int a4.2), some (.int (0 : Int32))]) dX12_isSteady_13 rfl (Nat.le_of_ble_eq_true rfl) (Nat.le_of_ble_eq_true rfl) rfl ?_
      exact hL14 a4.2 n (a4.1, (0 : Int32))
  refine V_iconst (pc := 0) (v := (1 : Int32)) dX12_isSteady_0 rfl ?_
  refine V_istore_n (pc := 1) (vs' := [some (.ref (wB w + 171)), some (.int (1 : Int32)), none, none]) dX12_isSteady_1 rfl (Nat.le_of_ble_eq_true rfl) (Nat.le_of_ble_eq_true rfl) rfl ?_
  refine V_iconst (pc := 2) (v := (0 : Int32)) dX12_isSteady_2 rfl ?_
  refine V_istore_n (pc := 3) (vs' := [some (.ref (wB w + 171)), some (.int (1 : Int32)), some (.int (0 : Int32)), none]) dX12_isSteady_3 rfl (Nat.le_of_ble_eq_true rfl) (Nat.le_of_ble_eq_true rfl) rfl ?_
  exact hL4 n ((1 : Int32), (0 : Int32))
def J_X12_steady_155 (n : Nat) (t0 : Int32) (σ : MS) : Option (Int32 × MS) := some (t0, σ)
def J_X12_steady_126 (n : Nat) (v1 : Int32) (v2 : Int32) (v3 : Int32) (v4 : Int32) (σ : MS) : Option ((Int32 × Int32 × MS) ⊕ (Int32 × MS)) := some (.inl (v3, (v4 + (1 : Int32)), σ))
def J_X12_steady_123 (n : Nat) (v1 : Int32) (v2 : Int32) (v3 : Int32) (v4 : Int32) (σ : MS) : Option ((Int32 × Int32 × MS) ⊕ (Int32 × MS)) := J_X12_steady_126 n v1 v2 (v3 + (1 : Int32)) v4 σ
def J_X12_steady_116 (n : Nat) (v1 : Int32) (v2 : Int32) (v3 : Int32) (v4 : Int32) (v5 : Int32) (t0 : Int32) (t1 : Int32) (σ : MS) : Option ((Int32 × MS) ⊕ ((Int32 × Int32 × MS) ⊕ (Int32 × MS))) := (if inb t1 8 then ltM (mu σ 181 (ix t1) t0) (fun s116 => some (.inl ((v5 + (1 : Int32)), s116))) else none)
def L_X12_steady_71 (n : Nat) (v1 : Int32) (v2 : Int32) (v3 : Int32) (v4 : Int32) (σ : MS) (a71 : Int32 × MS) : Option ((Int32 × MS) ⊕ ((Int32 × Int32 × MS) ⊕ (Int32 × MS))) := ((f_X12_people  a71.2).bind (fun q74 => (if q74 ≤ a71.1 then (J_X12_steady_123 n v1 v2 v3 v4 a71.2).map Sum.inr else (if v3 = 0 then (if inb a71.1 9 then ((f_X12_people  a71.2).bind (fun q98 => (if (a71.2 180 (ix a71.1)) = q98 then J_X12_steady_116 n v1 v2 v3 v4 a71.1 a71.1 a71.1 a71.2 else (if inb a71.1 9 then J_X12_steady_116 n v1 v2 v3 v4 a71.1 (a71.2 180 (ix a71.1)) a71.1 a71.2 else none)))) else none) else (J_X12_steady_123 n v1 v2 v3 v4 a71.2).map Sum.inr))))
def L_X12_steady_42 (n : Nat) (v1 : Int32) (v2 : Int32) (σ : MS) (a42 : Int32 × Int32 × MS) : Option ((Int32 × Int32 × MS) ⊕ (Int32 × MS)) := ((f_X12_waysOf n v2 a42.2.2).bind (fun q45 => (if q45 ≤ a42.2.1 then ((if v1 = (-1 : Int32) then J_X12_steady_155 n a42.1 a42.2.2 else (if a42.1 = 0 then J_X12_steady_155 n (-1 : Int32) a42.2.2 else (if inb v1 8 then J_X12_steady_155 n (a42.2.2 181 (ix v1)) a42.2.2 else none)))).map Sum.inr else ((f_X12_laysWay n a42.2.1 v2 a42.2.2).bind (fun q55 => ((f_X12_isSteady n  q55.2).bind (fun q59 => (if q59 = 0 then J_X12_steady_126 n v1 v2 a42.1 a42.2.1 q55.2 else itr (L_X12_steady_71 n v1 v2 a42.1 a42.2.1 σ) n ((0 : Int32), q55.2)))))))))
def J_X12_steady_25 (n : Nat) (v1 : Int32) (σ : MS) : Option (Int32 × MS) := ((f_X12_people  σ).bind (fun q26 => ((f_X12_people  σ).bind (fun q30 => itr (L_X12_steady_42 n v1 (q26 + (remI q30 (2 : Int32))) σ) n ((0 : Int32), (0 : Int32), σ)))))
def f_X12_steady (n : Nat) (p1 : Int32) (σ : MS) : Option (Int32 × MS) := (ltM (mu σ 171 0 (0 : Int32)) (fun s2 => (if p1 = (-1 : Int32) then J_X12_steady_25 n p1 s2 else ((f_X12_noPerson p1 s2).bind (fun q13 => ((f_X12_throwsIf q13 (1 : Int32) s2).bind (fun q17 => (if q17.1 = 0 then J_X12_steady_25 n p1 q17.2 else some ((0 : Int32), q17.2)))))))))
set_option maxRecDepth 20000 in
set_option maxHeartbeats 2000000 in
theorem c_X12_steady (w : TG) (n : Nat) (p1 : Int32) (σ : MS) : MC m_X12_steady w [.ref (wB w + 171), .int p1] σ (f_X12_steady n p1 σ) := by
  refine V_meth (by decide +kernel) (Nat.le_of_ble_eq_true rfl) (by intro v hv; simp only [List.mem_cons, List.not_mem_nil, or_false] at hv; rcases hv with rfl | rfl <;> rfl) (fun g x => ?_)
  show VV m_X12_steady w g 0 0 (QM m_X12_steady w g x) (fun b : Int32 × MS => b = x) 0 [some (.ref (wB w + 171)), some (.int p1), none, none, none, none] [] σ (f_X12_steady n p1 σ)
  have hJ155 : ∀ (t0 : Int32) (σ : MS), VV m_X12_steady w g 0 0 (QM m_X12_steady w g x) (fun b : Int32 × MS => b = x) 155 [none, none, none, none, none, none] [.int t0] σ (J_X12_steady_155 n t0 σ) := by
    intro t0 σ
    exact V_ireti (pc := 155) dX12_steady_155 rfl (hk := fun h => h)
  have hL42 : ∀ (v2 : Int32) (n0 : Nat) (a : Int32 × Int32 × MS), VV m_X12_steady w g 0 0 (QM m_X12_steady w g x) (fun b : Int32 × MS => b = x) 42 [some (.ref (wB w + 171)), some (.int p1), some (.int v2), some (.int a.1), some (.int a.2.1), none] [] a.2.2 (itr (L_X12_steady_42 n p1 v2 σ) n0 a) := by
    intro v2
    refine V_itr (vf := fun a : Int32 × Int32 × MS => [some (.ref (wB w + 171)), some (.int p1), some (.int v2), some (.int a.1), some (.int a.2.1), none]) (sf := fun a : Int32 × Int32 × MS => a.2.2) (fun κ42 b42 r42 a42 => ?_)
    show VV m_X12_steady w g 0 0 (QM m_X12_steady w g x) κ42 42 [some (.ref (wB w + 171)), some (.int p1), some (.int v2), some (.int a42.1), some (.int a42.2.1), none] [] a42.2.2 (L_X12_steady_42 n p1 v2 σ a42)
    have hJ126 : ∀ (v3 : Int32) (v4 : Int32) (σ : MS), VV m_X12_steady w g 0 0 (QM m_X12_steady w g x) κ42 126 [some (.ref (wB w + 171)), some (.int p1), some (.int v2), some (.int v3), some (.int v4), none] [] σ (J_X12_steady_126 n p1 v2 v3 v4 σ) := by
      intro v3 v4 σ
      refine V_iinc (pc := 126) (v := (v4 + (1 : Int32))) (vs' := [some (.ref (wB w + 171)), some (.int p1), some (.int v2), some (.int v3), some (.int (v4 + (1 : Int32))), none]) dX12_steady_126 (Nat.le_of_ble_eq_true rfl) rfl rfl rfl ?_
      refine V_goto (pc := 129) (tgt := 42) dX12_steady_129 (by decide) ?_
      exact V_back (b42 (v3, (v4 + (1 : Int32)), σ))
    have hJ123 : ∀ (v3 : Int32) (v4 : Int32) (σ : MS), VV m_X12_steady w g 0 0 (QM m_X12_steady w g x) κ42 123 [some (.ref (wB w + 171)), some (.int p1), some (.int v2), some (.int v3), some (.int v4), none] [] σ (J_X12_steady_123 n p1 v2 v3 v4 σ) := by
      intro v3 v4 σ
      refine V_iinc (pc := 123) (v := (v3 + (1 : Int32))) (vs' := [some (.ref (wB w + 171)), some (.int p1), some (.int v2), some (.int (v3 + (1 : Int32))), some (.int v4), none]) dX12_steady_123 (Nat.le_of_ble_eq_true rfl) rfl rfl rfl ?_
      exact hJ126 (v3 + (1 : Int32)) v4 σ
    have hL71 : ∀ (v3 : Int32) (v4 : Int32) (n0 : Nat) (a : Int32 × MS), VV m_X12_steady w g 0 0 (QM m_X12_steady w g x) κ42 71 [some (.ref (wB w + 171)), some (.int p1), some (.int v2), some (.int v3), some (.int v4), some (.int a.1)] [] a.2 (itr (L_X12_steady_71 n p1 v2 v3 v4 σ) n0 a) := by
      intro v3 v4
      refine V_itr (vf := fun a : Int32 × MS => [some (.ref (wB w + 171)), some (.int p1), some (.int v2), some (.int v3), some (.int v4), some (.int a.1)]) (sf := fun a : Int32 × MS => a.2) (fun κ71 b71 r71 a71 => ?_)
      show VV m_X12_steady w g 0 0 (QM m_X12_steady w g x) κ71 71 [some (.ref (wB w + 171)), some (.int p1), some (.int v2), some (.int v3), some (.int v4), some (.int a71.1)] [] a71.2 (L_X12_steady_71 n p1 v2 v3 v4 σ a71)
      have hJ116 : ∀ (v5 : Int32) (t0 : Int32) (t1 : Int32) (σ : MS), VV m_X12_steady w g 0 0 (QM m_X12_steady w g x) κ71 116 [some (.ref (wB w + 171)), some (.int p1), some (.int v2), some (.int v3), some (.int v4), some (.int v5)] [.int t0, .int t1, .ref (wB w + 181)] σ (J_X12_steady_116 n p1 v2 v3 v4 v5 t0 t1 σ) := by
        intro v5 t0 t1 σ
        refine V_iast (pc := 116) (n := 8) dX12_steady_116 kc_181 lc_181 (fun s116 => ?_)
        refine V_iinc (pc := 117) (v := (v5 + (1 : Int32))) (vs' := [some (.ref (wB w + 171)), some (.int p1), some (.int v2), some (.int v3), some (.int v4), some (.int (v5 + (1 : Int32)))]) dX12_steady_117 (Nat.le_of_ble_eq_true rfl) rfl rfl rfl ?_
        refine V_goto (pc := 120) (tgt := 71) dX12_steady_120 (by decide) ?_
        exact V_back (b71 ((v5 + (1 : Int32)), s116))
      refine V_iload (pc := 71) dX12_steady_71 rfl ?_
      refine V_aload_n (pc := 73) dX12_steady_73 rfl rfl ?_
      refine V_callVpi (pc := 74) (As := []) (rest := [.int a71.1]) (c_X12_people w  a71.2) cw_X12_58 rfl rfl dX12_steady_74 kc_171 rfl ⟨Nat.le_of_ble_eq_true rfl, Nat.le_of_ble_eq_true rfl⟩ rfl rfl (Nat.le_of_ble_eq_true rfl) (Nat.le_of_ble_eq_true rfl) (Nat.le_of_ble_eq_true rfl) rfl (fun q74 => ?_)
      refine V_icmp_ge (pc := 77) (tgt := 123) dX12_steady_77 (by decide) ?_ ?_
      · refine V_exit r71 ?_
        refine V_sub (vs' := [some (.ref (wB w + 171)), some (.int p1), some (.int v2), some (.int v3), some (.int v4), none]) (show vless _ _ from ⟨rfl, ⟨rfl, ⟨rfl, ⟨rfl, ⟨rfl, trivial⟩⟩⟩⟩⟩) rfl ?_
        exact hJ123 v3 v4 a71.2
      · refine V_iload_n (pc := 80) dX12_steady_80 rfl rfl ?_
        refine V_if_ne (pc := 81) (tgt := 123) dX12_steady_81 (by decide) ?_ ?_
        · refine V_exit r71 ?_
          refine V_sub (vs' := [some (.ref (wB w + 171)), some (.int p1), some (.int v2), some (.int v3), some (.int v4), none]) (show vless _ _ from ⟨rfl, ⟨rfl, ⟨rfl, ⟨rfl, ⟨rfl, trivial⟩⟩⟩⟩⟩) rfl ?_
          exact hJ123 v3 v4 a71.2
        · refine V_aload_n (pc := 84) dX12_steady_84 rfl rfl ?_
          refine V_getr (pc := 85) (t := 181) fk_X12_45 rfl dX12_steady_85 kc_171 rfl ?_
          refine V_iload (pc := 88) dX12_steady_88 rfl ?_
          refine V_aload_n (pc := 90) dX12_steady_90 rfl rfl ?_
          refine V_getr (pc := 91) (t := 180) fk_X12_42 rfl dX12_steady_91 kc_171 rfl ?_
          refine V_iload (pc := 94) dX12_steady_94 rfl ?_
          refine V_iald (pc := 96) (n := 9) dX12_steady_96 kc_180 lc_180 ?_
          refine V_aload_n (pc := 97) dX12_steady_97 rfl rfl ?_
          refine V_callVpi (pc := 98) (As := []) (rest := [.int (a71.2 180 (ix a71.1)), .int a71.1, .ref (wB w + 181)]) (c_X12_people w  a71.2) cw_X12_58 rfl rfl dX12_steady_98 kc_171 rfl ⟨Nat.le_of_ble_eq_true rfl, Nat.le_of_ble_eq_true rfl⟩ rfl rfl (Nat.le_of_ble_eq_true rfl) (Nat.le_of_ble_eq_true rfl) (Nat.le_of_ble_eq_true rfl) rfl (fun q98 => ?_)
          refine V_icmp_ne (pc := 101) (tgt := 109) dX12_steady_101 (by decide) ?_ ?_
          · refine V_aload_n (pc := 109) dX12_steady_109 rfl rfl ?_
            refine V_getr (pc := 110) (t := 180) fk_X12_42 rfl dX12_steady_110 kc_171 rfl ?_
            refine V_iload (pc := 113) dX12_steady_113 rfl ?_
            refine V_iald (pc := 115) (n := 9) dX12_steady_115 kc_180 lc_180 ?_
            exact hJ116 a71.1 (a71.2 180 (ix a71.1)) a71.1 a71.2
          · refine V_iload (pc := 104) dX12_steady_104 rfl ?_
            refine V_goto (pc := 106) (tgt := 116) dX12_steady_106 (by decide) ?_
            exact hJ116 a71.1 a71.1 a71.1 a71.2
    refine V_iload (pc := 42) dX12_steady_42 rfl ?_
    refine V_iload_n (pc := 44) dX12_steady_44 rfl rfl ?_
    refine V_callSpi (pc := 45) (As := [.int v2]) (rest := [.int a42.2.1]) (c_X12_waysOf w n v2 a42.2.2) cs_X12_382 rfl rfl dX12_steady_45 ⟨Nat.le_of_ble_eq_true rfl, Nat.le_of_ble_eq_true rfl⟩ rfl rfl (Nat.le_of_ble_eq_true rfl) (Nat.le_of_ble_eq_true rfl) (Nat.le_of_ble_eq_true rfl) rfl (fun q45 => ?_)
    refine V_icmp_ge (pc := 48) (tgt := 132) dX12_steady_48 (by decide) ?_ ?_
    · refine V_exit r42 ?_
      refine V_iload_n (pc := 132) dX12_steady_132 rfl rfl ?_
      refine V_iconst (pc := 133) (v := (-1 : Int32)) dX12_steady_133 rfl ?_
      refine V_icmp_ne (pc := 134) (tgt := 141) dX12_steady_134 (by decide) ?_ ?_
      · refine V_iload_n (pc := 141) dX12_steady_141 rfl rfl ?_
        refine V_if_ne (pc := 142) (tgt := 149) dX12_steady_142 (by decide) ?_ ?_
        · refine V_aload_n (pc := 149) dX12_steady_149 rfl rfl ?_
          refine V_getr (pc := 150) (t := 181) fk_X12_45 rfl dX12_steady_150 kc_171 rfl ?_
          refine V_iload_n (pc := 153) dX12_steady_153 rfl rfl ?_
          refine V_iald (pc := 154) (n := 8) dX12_steady_154 kc_181 lc_181 ?_
          refine V_sub (vs' := [none, none, none, none, none, none]) (show vless _ _ from trivial) rfl ?_
          exact hJ155 (a42.2.2 181 (ix p1)) a42.2.2
        · refine V_iconst (pc := 145) (v := (-1 : Int32)) dX12_steady_145 rfl ?_
          refine V_goto (pc := 146) (tgt := 155) dX12_steady_146 (by decide) ?_
          refine V_sub (vs' := [none, none, none, none, none, none]) (show vless _ _ from trivial) rfl ?_
          exact hJ155 (-1 : Int32) a42.2.2
      · refine V_iload_n (pc := 137) dX12_steady_137 rfl rfl ?_
        refine V_goto (pc := 138) (tgt := 155) dX12_steady_138 (by decide) ?_
        refine V_sub (vs' := [none, none, none, none, none, none]) (show vless _ _ from trivial) rfl ?_
        exact hJ155 a42.1 a42.2.2
    · refine V_aload_n (pc := 51) dX12_steady_51 rfl rfl ?_
      refine V_iload (pc := 52) dX12_steady_52 rfl ?_
      refine V_iload_n (pc := 54) dX12_steady_54 rfl rfl ?_
      refine V_callVv (pc := 55) (As := [.int a42.2.1, .int v2]) (rest := []) (c_X12_laysWay w n a42.2.1 v2 a42.2.2) cw_X12_391 rfl rfl dX12_steady_55 kc_171 rfl ⟨Nat.le_of_ble_eq_true rfl, Nat.le_of_ble_eq_true rfl⟩ rfl rfl (Nat.le_of_ble_eq_true rfl) (Nat.le_of_ble_eq_true rfl) (Nat.le_of_ble_eq_true rfl) rfl (fun q55 => ?_)
      refine V_aload_n (pc := 58) dX12_steady_58 rfl rfl ?_
      refine V_callVpi (pc := 59) (As := []) (rest := []) (c_X12_isSteady w n  q55.2) cw_X12_394 rfl rfl dX12_steady_59 kc_171 rfl ⟨Nat.le_of_ble_eq_true rfl, Nat.le_of_ble_eq_true rfl⟩ rfl rfl (Nat.le_of_ble_eq_true rfl) (Nat.le_of_ble_eq_true rfl) (Nat.le_of_ble_eq_true rfl) rfl (fun q59 => ?_)
      refine V_if_ne (pc := 62) (tgt := 68) dX12_steady_62 (by decide) ?_ ?_
      · refine V_iconst (pc := 68) (v := (0 : Int32)) dX12_steady_68 rfl ?_
        refine V_istore (pc := 69) (vs' := [some (.ref (wB w + 171)), some (.int p1), some (.int v2), some (.int a42.1), some (.int a42.2.1), some (.int (0 : Int32))]) dX12_steady_69 (Nat.le_of_ble_eq_true rfl) (Nat.le_of_ble_eq_true rfl) rfl ?_
        exact hL71 a42.1 a42.2.1 n ((0 : Int32), q55.2)
      · refine V_goto (pc := 65) (tgt := 126) dX12_steady_65 (by decide) ?_
        exact hJ126 a42.1 a42.2.1 q55.2
  have hJ25 : ∀ (σ : MS), VV m_X12_steady w g 0 0 (QM m_X12_steady w g x) (fun b : Int32 × MS => b = x) 25 [some (.ref (wB w + 171)), some (.int p1), none, none, none, none] [] σ (J_X12_steady_25 n p1 σ) := by
    intro σ
    refine V_aload_n (pc := 25) dX12_steady_25 rfl rfl ?_
    refine V_callVpi (pc := 26) (As := []) (rest := []) (c_X12_people w  σ) cw_X12_58 rfl rfl dX12_steady_26 kc_171 rfl ⟨Nat.le_of_ble_eq_true rfl, Nat.le_of_ble_eq_true rfl⟩ rfl rfl (Nat.le_of_ble_eq_true rfl) (Nat.le_of_ble_eq_true rfl) (Nat.le_of_ble_eq_true rfl) rfl (fun q26 => ?_)
    refine V_aload_n (pc := 29) dX12_steady_29 rfl rfl ?_
    refine V_callVpi (pc := 30) (As := []) (rest := [.int q26]) (c_X12_people w  σ) cw_X12_58 rfl rfl dX12_steady_30 kc_171 rfl ⟨Nat.le_of_ble_eq_true rfl, Nat.le_of_ble_eq_true rfl⟩ rfl rfl (Nat.le_of_ble_eq_true rfl) (Nat.le_of_ble_eq_true rfl) (Nat.le_of_ble_eq_true rfl) rfl (fun q30 => ?_)
    refine V_iconst (pc := 33) (v := (2 : Int32)) dX12_steady_33 rfl ?_
    refine V_irem (pc := 34) dX12_steady_34 (by decide) ?_
    refine V_iadd (pc := 35) dX12_steady_35 ?_
    refine V_istore_n (pc := 36) (vs' := [some (.ref (wB w + 171)), some (.int p1), some (.int (q26 + (remI q30 (2 : Int32)))), none, none, none]) dX12_steady_36 rfl (Nat.le_of_ble_eq_true rfl) (Nat.le_of_ble_eq_true rfl) rfl ?_
    refine V_iconst (pc := 37) (v := (0 : Int32)) dX12_steady_37 rfl ?_
    refine V_istore_n (pc := 38) (vs' := [some (.ref (wB w + 171)), some (.int p1), some (.int (q26 + (remI q30 (2 : Int32)))), some (.int (0 : Int32)), none, none]) dX12_steady_38 rfl (Nat.le_of_ble_eq_true rfl) (Nat.le_of_ble_eq_true rfl) rfl ?_
    refine V_iconst (pc := 39) (v := (0 : Int32)) dX12_steady_39 rfl ?_
    refine V_istore (pc := 40) (vs' := [some (.ref (wB w + 171)), some (.int p1), some (.int (q26 + (remI q30 (2 : Int32)))), some (.int (0 : Int32)), some (.int (0 : Int32)), none]) dX12_steady_40 (Nat.le_of_ble_eq_true rfl) (Nat.le_of_ble_eq_true rfl) rfl ?_
    exact hL42 (q26 + (remI q30 (2 : Int32))) n ((0 : Int32), (0 : Int32), σ)
  refine V_aload_n (pc := 0) dX12_steady_0 rfl rfl ?_
  refine V_iconst (pc := 1) (v := (0 : Int32)) dX12_steady_1 rfl ?_
  refine V_puti (pc := 2) fp_X12_3 rfl dX12_steady_2 kc_171 rfl (fun s2 => ?_)
  refine V_iload_n (pc := 5) dX12_steady_5 rfl rfl ?_
  refine V_iconst (pc := 6) (v := (-1 : Int32)) dX12_steady_6 rfl ?_
  refine V_icmp_eq (pc := 7) (tgt := 25) dX12_steady_7 (by decide) ?_ ?_
  · exact hJ25 s2
  · refine V_aload_n (pc := 10) dX12_steady_10 rfl rfl ?_
    refine V_aload_n (pc := 11) dX12_steady_11 rfl rfl ?_
    refine V_iload_n (pc := 12) dX12_steady_12 rfl rfl ?_
    refine V_callVpi (pc := 13) (As := [.int p1]) (rest := [.ref (wB w + 171)]) (c_X12_noPerson w p1 s2) cw_X12_297 rfl rfl dX12_steady_13 kc_171 rfl ⟨Nat.le_of_ble_eq_true rfl, Nat.le_of_ble_eq_true rfl⟩ rfl rfl (Nat.le_of_ble_eq_true rfl) (Nat.le_of_ble_eq_true rfl) (Nat.le_of_ble_eq_true rfl) rfl (fun q13 => ?_)
    refine V_iconst (pc := 16) (v := (1 : Int32)) dX12_steady_16 rfl ?_
    refine V_callVi (pc := 17) (As := [.int q13, .int (1 : Int32)]) (rest := []) (c_X12_throwsIf w q13 (1 : Int32) s2) cw_X12_257 rfl rfl dX12_steady_17 kc_171 rfl ⟨Nat.le_of_ble_eq_true rfl, Nat.le_of_ble_eq_true rfl⟩ rfl rfl (Nat.le_of_ble_eq_true rfl) (Nat.le_of_ble_eq_true rfl) (Nat.le_of_ble_eq_true rfl) rfl (fun q17 => ?_)
    refine V_if_eq (pc := 20) (tgt := 25) dX12_steady_20 (by decide) ?_ ?_
    · exact hJ25 q17.2
    · refine V_iconst (pc := 23) (v := (0 : Int32)) dX12_steady_23 rfl ?_
      exact V_ireti (pc := 24) dX12_steady_24 rfl (hk := fun h => h)
def J_X12_fondest_102 (n : Nat) (v1 : Int32) (v2 : Int32) (v3 : Int32) (σ : MS) : Option ((Int32 × MS) ⊕ ((Int32 × MS) ⊕ ((Int32 × MS) ⊕ (Int32 × MS)))) := some (.inl ((v3 + (1 : Int32)), σ))
def L_X12_fondest_34 (n : Nat) (v1 : Int32) (v2 : Int32) (σ : MS) (a34 : Int32 × MS) : Option ((Int32 × MS) ⊕ ((Int32 × MS) ⊕ ((Int32 × MS) ⊕ (Int32 × MS)))) := (if v2 ≤ a34.1 then (some (.inl ((v2 + (1 : Int32)), a34.2))).map Sum.inr else ((f_X12_has v1 v2 a34.2).bind (fun q41 => (if q41 = 0 then J_X12_fondest_102 n v1 v2 a34.1 a34.2 else ((f_X12_has v1 a34.1 a34.2).bind (fun q49 => (if q49 = 0 then J_X12_fondest_102 n v1 v2 a34.1 a34.2 else (if inb v1 256 then ((f_X12_likes v2 a34.1 a34.2).bind (fun q69 => ((f_X12_likes a34.1 v2 a34.2).bind (fun q75 => (if inb ((v1 &&& ((shlI (1 : Int32) v2) ^^^ (-1 : Int32))) &&& ((shlI (1 : Int32) a34.1) ^^^ (-1 : Int32))) 256 then (if inb v1 256 then ltM (mu a34.2 182 (ix v1) (mxI (a34.2 182 (ix v1)) ((q69 + q75) + (a34.2 182 (ix ((v1 &&& ((shlI (1 : Int32) v2) ^^^ (-1 : Int32))) &&& ((shlI (1 : Int32) a34.1) ^^^ (-1 : Int32)))))))) (fun s101 => J_X12_fondest_102 n v1 v2 a34.1 s101) else none) else none))))) else none))))))))
def L_X12_fondest_24 (n : Nat) (v1 : Int32) (σ : MS) (a24 : Int32 × MS) : Option ((Int32 × MS) ⊕ ((Int32 × MS) ⊕ (Int32 × MS))) := ((f_X12_people  a24.2).bind (fun q26 => (if q26 ≤ a24.1 then (some (.inl ((v1 + (1 : Int32)), a24.2))).map Sum.inr else itr (L_X12_fondest_34 n v1 a24.1 σ) n ((0 : Int32), a24.2))))
def L_X12_fondest_7 (n : Nat)  (σ : MS) (a7 : Int32 × MS) : Option ((Int32 × MS) ⊕ (Int32 × MS)) := ((f_X12_everybody  a7.2).bind (fun q9 => (if q9 < a7.1 then (((f_X12_everybody  a7.2).bind (fun q125 => (if inb q125 256 then some ((a7.2 182 (ix q125)), a7.2) else none)))).map Sum.inr else (if inb a7.1 256 then ltM (mu a7.2 182 (ix a7.1) (0 : Int32)) (fun s21 => itr (L_X12_fondest_24 n a7.1 σ) n ((0 : Int32), s21)) else none))))
def f_X12_fondest (n : Nat)  (σ : MS) : Option (Int32 × MS) := (ltM (mu σ 171 0 (0 : Int32)) (fun s2 => itr (L_X12_fondest_7 n  σ) n ((0 : Int32), s2)))
set_option maxRecDepth 20000 in
set_option maxHeartbeats 2000000 in
theorem c_X12_fondest (w : TG) (n : Nat)  (σ : MS) : MC m_X12_fondest w [.ref (wB w + 171)] σ (f_X12_fondest n  σ) := by
  refine V_meth (by decide +kernel) (Nat.le_of_ble_eq_true rfl) (by intro v hv; simp only [List.mem_cons, List.not_mem_nil, or_false] at hv; subst hv; rfl) (fun g x => ?_)
  show VV m_X12_fondest w g 0 0 (QM m_X12_fondest w g x) (fun b : Int32 × MS => b = x) 0 [some (.ref (wB w + 171)), none, none, none] [] σ (f_X12_fondest n  σ)
  have hL7 : ∀  (n0 : Nat) (a : Int32 × MS), VV m_X12_fondest w g 0 0 (QM m_X12_fondest w g x) (fun b : Int32 × MS => b = x) 7 [some (.ref (wB w + 171)), some (.int a.1), none, none] [] a.2 (itr (L_X12_fondest_7 n  σ) n0 a) := by
    refine V_itr (vf := fun a : Int32 × MS => [some (.ref (wB w + 171)), some (.int a.1), none, none]) (sf := fun a : Int32 × MS => a.2) (fun κ7 b7 r7 a7 => ?_)
    show VV m_X12_fondest w g 0 0 (QM m_X12_fondest w g x) κ7 7 [some (.ref (wB w + 171)), some (.int a7.1), none, none] [] a7.2 (L_X12_fondest_7 n  σ a7)
    have hL24 : ∀ (v1 : Int32) (n0 : Nat) (a : Int32 × MS), VV m_X12_fondest w g 0 0 (QM m_X12_fondest w g x) κ7 24 [some (.ref (wB w + 171)), some (.int v1), some (.int a.1), none] [] a.2 (itr (L_X12_fondest_24 n v1 σ) n0 a) := by
      intro v1
      refine V_itr (vf := fun a : Int32 × MS => [some (.ref (wB w + 171)), some (.int v1), some (.int a.1), none]) (sf := fun a : Int32 × MS => a.2) (fun κ24 b24 r24 a24 => ?_)
      show VV m_X12_fondest w g 0 0 (QM m_X12_fondest w g x) κ24 24 [some (.ref (wB w + 171)), some (.int v1), some (.int a24.1), none] [] a24.2 (L_X12_fondest_24 n v1 σ a24)
      have hL34 : ∀ (v2 : Int32) (n0 : Nat) (a : Int32 × MS), VV m_X12_fondest w g 0 0 (QM m_X12_fondest w g x) κ24 34 [some (.ref (wB w + 171)), some (.int v1), some (.int v2), some (.int a.1)] [] a.2 (itr (L_X12_fondest_34 n v1 v2 σ) n0 a) := by
        intro v2
        refine V_itr (vf := fun a : Int32 × MS => [some (.ref (wB w + 171)), some (.int v1), some (.int v2), some (.int a.1)]) (sf := fun a : Int32 × MS => a.2) (fun κ34 b34 r34 a34 => ?_)
        show VV m_X12_fondest w g 0 0 (QM m_X12_fondest w g x) κ34 34 [some (.ref (wB w + 171)), some (.int v1), some (.int v2), some (.int a34.1)] [] a34.2 (L_X12_fondest_34 n v1 v2 σ a34)
        have hJ102 : ∀ (v3 : Int32) (σ : MS), VV m_X12_fondest w g 0 0 (QM m_X12_fondest w g x) κ34 102 [some (.ref (wB w + 171)), some (.int v1), some (.int v2), some (.int v3)] [] σ (J_X12_fondest_102 n v1 v2 v3 σ) := by
          intro v3 σ
          refine V_iinc (pc := 102) (v := (v3 + (1 : Int32))) (vs' := [some (.ref (wB w + 171)), some (.int v1), some (.int v2), some (.int (v3 + (1 : Int32)))]) dX12_fondest_102 (Nat.le_of_ble_eq_true rfl) rfl rfl rfl ?_
          refine V_goto (pc := 105) (tgt := 34) dX12_fondest_105 (by decide) ?_
          exact V_back (b34 ((v3 + (1 : Int32)), σ))
        refine V_iload_n (pc := 34) dX12_fondest_34 rfl rfl ?_
        refine V_iload_n (pc := 35) dX12_fondest_35 rfl rfl ?_
        refine V_icmp_ge (pc := 36) (tgt := 108) dX12_fondest_36 (by decide) ?_ ?_
        · refine V_exit r34 ?_
          refine V_iinc (pc := 108) (v := (v2 + (1 : Int32))) (vs' := [some (.ref (wB w + 171)), some (.int v1), some (.int (v2 + (1 : Int32))), some (.int a34.1)]) dX12_fondest_108 (Nat.le_of_ble_eq_true rfl) rfl rfl rfl ?_
          refine V_goto (pc := 111) (tgt := 24) dX12_fondest_111 (by decide) ?_
          refine V_sub (vs' := [some (.ref (wB w + 171)), some (.int v1), some (.int (v2 + (1 : Int32))), none]) (show vless _ _ from ⟨rfl, ⟨rfl, ⟨rfl, trivial⟩⟩⟩) rfl ?_
          exact V_back (b24 ((v2 + (1 : Int32)), a34.2))
        · refine V_iload_n (pc := 39) dX12_fondest_39 rfl rfl ?_
          refine V_iload_n (pc := 40) dX12_fondest_40 rfl rfl ?_
          refine V_callSpi (pc := 41) (As := [.int v1, .int v2]) (rest := []) (c_X12_has w v1 v2 a34.2) cs_X12_76 rfl rfl dX12_fondest_41 ⟨Nat.le_of_ble_eq_true rfl, Nat.le_of_ble_eq_true rfl⟩ rfl rfl (Nat.le_of_ble_eq_true rfl) (Nat.le_of_ble_eq_true rfl) (Nat.le_of_ble_eq_true rfl) rfl (fun q41 => ?_)
          refine V_if_eq (pc := 44) (tgt := 102) dX12_fondest_44 (by decide) ?_ ?_
          · exact hJ102 a34.1 a34.2
          · refine V_iload_n (pc := 47) dX12_fondest_47 rfl rfl ?_
            refine V_iload_n (pc := 48) dX12_fondest_48 rfl rfl ?_
            refine V_callSpi (pc := 49) (As := [.int v1, .int a34.1]) (rest := []) (c_X12_has w v1 a34.1 a34.2) cs_X12_76 rfl rfl dX12_fondest_49 ⟨Nat.le_of_ble_eq_true rfl, Nat.le_of_ble_eq_true rfl⟩ rfl rfl (Nat.le_of_ble_eq_true rfl) (Nat.le_of_ble_eq_true rfl) (Nat.le_of_ble_eq_true rfl) rfl (fun q49 => ?_)
            refine V_if_eq (pc := 52) (tgt := 102) dX12_fondest_52 (by decide) ?_ ?_
            · exact hJ102 a34.1 a34.2
            · refine V_aload_n (pc := 55) dX12_fondest_55 rfl rfl ?_
              refine V_getr (pc := 56) (t := 182) fk_X12_48 rfl dX12_fondest_56 kc_171 rfl ?_
              refine V_iload_n (pc := 59) dX12_fondest_59 rfl rfl ?_
              refine V_aload_n (pc := 60) dX12_fondest_60 rfl rfl ?_
              refine V_getr (pc := 61) (t := 182) fk_X12_48 rfl dX12_fondest_61 kc_171 rfl ?_
              refine V_iload_n (pc := 64) dX12_fondest_64 rfl rfl ?_
              refine V_iald (pc := 65) (n := 256) dX12_fondest_65 kc_182 lc_182 ?_
              refine V_aload_n (pc := 66) dX12_fondest_66 rfl rfl ?_
              refine V_iload_n (pc := 67) dX12_fondest_67 rfl rfl ?_
              refine V_iload_n (pc := 68) dX12_fondest_68 rfl rfl ?_
              refine V_callVpi (pc := 69) (As := [.int v2, .int a34.1]) (rest := [.int (a34.2 182 (ix v1)), .int v1, .ref (wB w + 182)]) (c_X12_likes w v2 a34.1 a34.2) cw_X12_272 rfl rfl dX12_fondest_69 kc_171 rfl ⟨Nat.le_of_ble_eq_true rfl, Nat.le_of_ble_eq_true rfl⟩ rfl rfl (Nat.le_of_ble_eq_true rfl) (Nat.le_of_ble_eq_true rfl) (Nat.le_of_ble_eq_true rfl) rfl (fun q69 => ?_)
              refine V_aload_n (pc := 72) dX12_fondest_72 rfl rfl ?_
              refine V_iload_n (pc := 73) dX12_fondest_73 rfl rfl ?_
              refine V_iload_n (pc := 74) dX12_fondest_74 rfl rfl ?_
              refine V_callVpi (pc := 75) (As := [.int a34.1, .int v2]) (rest := [.int q69, .int (a34.2 182 (ix v1)), .int v1, .ref (wB w + 182)]) (c_X12_likes w a34.1 v2 a34.2) cw_X12_272 rfl rfl dX12_fondest_75 kc_171 rfl ⟨Nat.le_of_ble_eq_true rfl, Nat.le_of_ble_eq_true rfl⟩ rfl rfl (Nat.le_of_ble_eq_true rfl) (Nat.le_of_ble_eq_true rfl) (Nat.le_of_ble_eq_true rfl) rfl (fun q75 => ?_)
              refine V_iadd (pc := 78) dX12_fondest_78 ?_
              refine V_aload_n (pc := 79) dX12_fondest_79 rfl rfl ?_
              refine V_getr (pc := 80) (t := 182) fk_X12_48 rfl dX12_fondest_80 kc_171 rfl ?_
              refine V_iload_n (pc := 83) dX12_fondest_83 rfl rfl ?_
              refine V_iconst (pc := 84) (v := (1 : Int32)) dX12_fondest_84 rfl ?_
              refine V_iload_n (pc := 85) dX12_fondest_85 rfl rfl ?_
              refine V_ishl (pc := 86) dX12_fondest_86 ?_
              refine V_iconst (pc := 87) (v := (-1 : Int32)) dX12_fondest_87 rfl ?_
              refine V_ixor (pc := 88) dX12_fondest_88 ?_
              refine V_iand (pc := 89) dX12_fondest_89 ?_
              refine V_iconst (pc := 90) (v := (1 : Int32)) dX12_fondest_90 rfl ?_
              refine V_iload_n (pc := 91) dX12_fondest_91 rfl rfl ?_
              refine V_ishl (pc := 92) dX12_fondest_92 ?_
              refine V_iconst (pc := 93) (v := (-1 : Int32)) dX12_fondest_93 rfl ?_
              refine V_ixor (pc := 94) dX12_fondest_94 ?_
              refine V_iand (pc := 95) dX12_fondest_95 ?_
              refine V_iald (pc := 96) (n := 256) dX12_fondest_96 kc_182 lc_182 ?_
              refine V_iadd (pc := 97) dX12_fondest_97 ?_
              refine V_mmax (pc := 98) dX12_fondest_98 rfl mw_X12_288 (Nat.le_of_ble_eq_true rfl) (Nat.le_of_ble_eq_true rfl) (Nat.le_of_ble_eq_true rfl) (Nat.le_of_ble_eq_true rfl) ?_
              refine V_iast (pc := 101) (n := 256) dX12_fondest_101 kc_182 lc_182 (fun s101 => ?_)
              exact hJ102 a34.1 s101
      refine V_iload_n (pc := 24) dX12_fondest_24 rfl rfl ?_
      refine V_aload_n (pc := 25) dX12_fondest_25 rfl rfl ?_
      refine V_callVpi (pc := 26) (As := []) (rest := [.int a24.1]) (c_X12_people w  a24.2) cw_X12_58 rfl rfl dX12_fondest_26 kc_171 rfl ⟨Nat.le_of_ble_eq_true rfl, Nat.le_of_ble_eq_true rfl⟩ rfl rfl (Nat.le_of_ble_eq_true rfl) (Nat.le_of_ble_eq_true rfl) (Nat.le_of_ble_eq_true rfl) rfl (fun q26 => ?_)
      refine V_icmp_ge (pc := 29) (tgt := 114) dX12_fondest_29 (by decide) ?_ ?_
      · refine V_exit r24 ?_
        refine V_iinc (pc := 114) (v := (v1 + (1 : Int32))) (vs' := [some (.ref (wB w + 171)), some (.int (v1 + (1 : Int32))), some (.int a24.1), none]) dX12_fondest_114 (Nat.le_of_ble_eq_true rfl) rfl rfl rfl ?_
        refine V_goto (pc := 117) (tgt := 7) dX12_fondest_117 (by decide) ?_
        refine V_sub (vs' := [some (.ref (wB w + 171)), some (.int (v1 + (1 : Int32))), none, none]) (show vless _ _ from ⟨rfl, ⟨rfl, trivial⟩⟩) rfl ?_
        exact V_back (b7 ((v1 + (1 : Int32)), a24.2))
      · refine V_iconst (pc := 32) (v := (0 : Int32)) dX12_fondest_32 rfl ?_
        refine V_istore_n (pc := 33) (vs' := [some (.ref (wB w + 171)), some (.int v1), some (.int a24.1), some (.int (0 : Int32))]) dX12_fondest_33 rfl (Nat.le_of_ble_eq_true rfl) (Nat.le_of_ble_eq_true rfl) rfl ?_
        exact hL34 a24.1 n ((0 : Int32), a24.2)
    refine V_iload_n (pc := 7) dX12_fondest_7 rfl rfl ?_
    refine V_aload_n (pc := 8) dX12_fondest_8 rfl rfl ?_
    refine V_callVpi (pc := 9) (As := []) (rest := [.int a7.1]) (c_X12_everybody w  a7.2) cw_X12_327 rfl rfl dX12_fondest_9 kc_171 rfl ⟨Nat.le_of_ble_eq_true rfl, Nat.le_of_ble_eq_true rfl⟩ rfl rfl (Nat.le_of_ble_eq_true rfl) (Nat.le_of_ble_eq_true rfl) (Nat.le_of_ble_eq_true rfl) rfl (fun q9 => ?_)
    refine V_icmp_gt (pc := 12) (tgt := 120) dX12_fondest_12 (by decide) ?_ ?_
    · refine V_exit r7 ?_
      refine V_aload_n (pc := 120) dX12_fondest_120 rfl rfl ?_
      refine V_getr (pc := 121) (t := 182) fk_X12_48 rfl dX12_fondest_121 kc_171 rfl ?_
      refine V_aload_n (pc := 124) dX12_fondest_124 rfl rfl ?_
      refine V_callVpi (pc := 125) (As := []) (rest := [.ref (wB w + 182)]) (c_X12_everybody w  a7.2) cw_X12_327 rfl rfl dX12_fondest_125 kc_171 rfl ⟨Nat.le_of_ble_eq_true rfl, Nat.le_of_ble_eq_true rfl⟩ rfl rfl (Nat.le_of_ble_eq_true rfl) (Nat.le_of_ble_eq_true rfl) (Nat.le_of_ble_eq_true rfl) rfl (fun q125 => ?_)
      refine V_iald (pc := 128) (n := 256) dX12_fondest_128 kc_182 lc_182 ?_
      exact V_ireti (pc := 129) dX12_fondest_129 rfl (hk := fun h => h)
    · refine V_aload_n (pc := 15) dX12_fondest_15 rfl rfl ?_
      refine V_getr (pc := 16) (t := 182) fk_X12_48 rfl dX12_fondest_16 kc_171 rfl ?_
      refine V_iload_n (pc := 19) dX12_fondest_19 rfl rfl ?_
      refine V_iconst (pc := 20) (v := (0 : Int32)) dX12_fondest_20 rfl ?_
      refine V_iast (pc := 21) (n := 256) dX12_fondest_21 kc_182 lc_182 (fun s21 => ?_)
      refine V_iconst (pc := 22) (v := (0 : Int32)) dX12_fondest_22 rfl ?_
      refine V_istore_n (pc := 23) (vs' := [some (.ref (wB w + 171)), some (.int a7.1), some (.int (0 : Int32)), none]) dX12_fondest_23 rfl (Nat.le_of_ble_eq_true rfl) (Nat.le_of_ble_eq_true rfl) rfl ?_
      exact hL24 a7.1 n ((0 : Int32), s21)
  refine V_aload_n (pc := 0) dX12_fondest_0 rfl rfl ?_
  refine V_iconst (pc := 1) (v := (0 : Int32)) dX12_fondest_1 rfl ?_
  refine V_puti (pc := 2) fp_X12_3 rfl dX12_fondest_2 kc_171 rfl (fun s2 => ?_)
  refine V_iconst (pc := 5) (v := (0 : Int32)) dX12_fondest_5 rfl ?_
  refine V_istore_n (pc := 6) (vs' := [some (.ref (wB w + 171)), some (.int (0 : Int32)), none, none]) dX12_fondest_6 rfl (Nat.le_of_ble_eq_true rfl) (Nat.le_of_ble_eq_true rfl) rfl ?_
  exact hL7 n ((0 : Int32), s2)
def J_X12_wash_37 (n : Nat)  (σ : MS) : Option (Int32 × MS) := some ((0 : Int32), σ)
def J_X12_wash_30 (n : Nat) (v1 : Int32) (v2 : Int32) (t0 : Int32) (σ : MS) : Option (Int32 × MS) := ((f_X12_throwsIf t0 (2 : Int32) σ).bind (fun q31 => (if q31.1 = 0 then ((f_X12_remembers n  q31.2).bind (fun q40 => ((f_X12_bondOf v1 v2 q40.2).bind (fun q46 => ((f_X12_binds v1 v2 (0 : Int32) (0 : Int32) q40.2).bind (fun q55 => some (q46, q55.2))))))) else J_X12_wash_37 n  q31.2)))
def f_X12_wash (n : Nat) (p1 : Int32) (p2 : Int32) (σ : MS) : Option (Int32 × MS) := (ltM (mu σ 171 0 (0 : Int32)) (fun s2 => ((f_X12_noBoth p1 p2 s2).bind (fun q9 => ((f_X12_throwsIf q9 (1 : Int32) s2).bind (fun q13 => (if q13.1 = 0 then (if p1 = p2 then J_X12_wash_30 n p1 p2 (1 : Int32) q13.2 else J_X12_wash_30 n p1 p2 (0 : Int32) q13.2) else J_X12_wash_37 n  q13.2)))))))
set_option maxRecDepth 20000 in
set_option maxHeartbeats 2000000 in
theorem c_X12_wash (w : TG) (n : Nat) (p1 : Int32) (p2 : Int32) (σ : MS) : MC m_X12_wash w [.ref (wB w + 171), .int p1, .int p2] σ (f_X12_wash n p1 p2 σ) := by
  refine V_meth (by decide +kernel) (Nat.le_of_ble_eq_true rfl) (by intro v hv; simp only [List.mem_cons, List.not_mem_nil, or_false] at hv; rcases hv with rfl | rfl | rfl <;> rfl) (fun g x => ?_)
  show VV m_X12_wash w g 0 0 (QM m_X12_wash w g x) (fun b : Int32 × MS => b = x) 0 [some (.ref (wB w + 171)), some (.int p1), some (.int p2), none] [] σ (f_X12_wash n p1 p2 σ)
  have hJ37 : ∀ (σ : MS), VV m_X12_wash w g 0 0 (QM m_X12_wash w g x) (fun b : Int32 × MS => b = x) 37 [none, none, none, none] [] σ (J_X12_wash_37 n  σ) := by
    intro σ
    refine V_iconst (pc := 37) (v := (0 : Int32)) dX12_wash_37 rfl ?_
    exact V_ireti (pc := 38) dX12_wash_38 rfl (hk := fun h => h)
  have hJ30 : ∀ (t0 : Int32) (σ : MS), VV m_X12_wash w g 0 0 (QM m_X12_wash w g x) (fun b : Int32 × MS => b = x) 30 [some (.ref (wB w + 171)), some (.int p1), some (.int p2), none] [.int t0, .ref (wB w + 171)] σ (J_X12_wash_30 n p1 p2 t0 σ) := by
    intro t0 σ
    refine V_iconst (pc := 30) (v := (2 : Int32)) dX12_wash_30 rfl ?_
    refine V_callVi (pc := 31) (As := [.int t0, .int (2 : Int32)]) (rest := []) (c_X12_throwsIf w t0 (2 : Int32) σ) cw_X12_257 rfl rfl dX12_wash_31 kc_171 rfl ⟨Nat.le_of_ble_eq_true rfl, Nat.le_of_ble_eq_true rfl⟩ rfl rfl (Nat.le_of_ble_eq_true rfl) (Nat.le_of_ble_eq_true rfl) (Nat.le_of_ble_eq_true rfl) rfl (fun q31 => ?_)
    refine V_if_eq (pc := 34) (tgt := 39) dX12_wash_34 (by decide) ?_ ?_
    · refine V_aload_n (pc := 39) dX12_wash_39 rfl rfl ?_
      refine V_callVv (pc := 40) (As := []) (rest := []) (c_X12_remembers w n  q31.2) cw_X12_333 rfl rfl dX12_wash_40 kc_171 rfl ⟨Nat.le_of_ble_eq_true rfl, Nat.le_of_ble_eq_true rfl⟩ rfl rfl (Nat.le_of_ble_eq_true rfl) (Nat.le_of_ble_eq_true rfl) (Nat.le_of_ble_eq_true rfl) rfl (fun q40 => ?_)
      refine V_aload_n (pc := 43) dX12_wash_43 rfl rfl ?_
      refine V_iload_n (pc := 44) dX12_wash_44 rfl rfl ?_
      refine V_iload_n (pc := 45) dX12_wash_45 rfl rfl ?_
      refine V_callVpi (pc := 46) (As := [.int p1, .int p2]) (rest := []) (c_X12_bondOf w p1 p2 q40.2) cw_X12_315 rfl rfl dX12_wash_46 kc_171 rfl ⟨Nat.le_of_ble_eq_true rfl, Nat.le_of_ble_eq_true rfl⟩ rfl rfl (Nat.le_of_ble_eq_true rfl) (Nat.le_of_ble_eq_true rfl) (Nat.le_of_ble_eq_true rfl) rfl (fun q46 => ?_)
      refine V_istore_n (pc := 49) (vs' := [some (.ref (wB w + 171)), some (.int p1), some (.int p2), some (.int q46)]) dX12_wash_49 rfl (Nat.le_of_ble_eq_true rfl) (Nat.le_of_ble_eq_true rfl) rfl ?_
      refine V_aload_n (pc := 50) dX12_wash_50 rfl rfl ?_
      refine V_iload_n (pc := 51) dX12_wash_51 rfl rfl ?_
      refine V_iload_n (pc := 52) dX12_wash_52 rfl rfl ?_
      refine V_iconst (pc := 53) (v := (0 : Int32)) dX12_wash_53 rfl ?_
      refine V_iconst (pc := 54) (v := (0 : Int32)) dX12_wash_54 rfl ?_
      refine V_callVv (pc := 55) (As := [.int p1, .int p2, .int (0 : Int32), .int (0 : Int32)]) (rest := []) (c_X12_binds w p1 p2 (0 : Int32) (0 : Int32) q40.2) cw_X12_143 rfl rfl dX12_wash_55 kc_171 rfl ⟨Nat.le_of_ble_eq_true rfl, Nat.le_of_ble_eq_true rfl⟩ rfl rfl (Nat.le_of_ble_eq_true rfl) (Nat.le_of_ble_eq_true rfl) (Nat.le_of_ble_eq_true rfl) rfl (fun q55 => ?_)
      refine V_iload_n (pc := 58) dX12_wash_58 rfl rfl ?_
      exact V_ireti (pc := 59) dX12_wash_59 rfl (hk := fun h => h)
    · refine V_sub (vs' := [none, none, none, none]) (show vless _ _ from trivial) rfl ?_
      exact hJ37 q31.2
  refine V_aload_n (pc := 0) dX12_wash_0 rfl rfl ?_
  refine V_iconst (pc := 1) (v := (0 : Int32)) dX12_wash_1 rfl ?_
  refine V_puti (pc := 2) fp_X12_3 rfl dX12_wash_2 kc_171 rfl (fun s2 => ?_)
  refine V_aload_n (pc := 5) dX12_wash_5 rfl rfl ?_
  refine V_aload_n (pc := 6) dX12_wash_6 rfl rfl ?_
  refine V_iload_n (pc := 7) dX12_wash_7 rfl rfl ?_
  refine V_iload_n (pc := 8) dX12_wash_8 rfl rfl ?_
  refine V_callVpi (pc := 9) (As := [.int p1, .int p2]) (rest := [.ref (wB w + 171)]) (c_X12_noBoth w p1 p2 s2) cw_X12_300 rfl rfl dX12_wash_9 kc_171 rfl ⟨Nat.le_of_ble_eq_true rfl, Nat.le_of_ble_eq_true rfl⟩ rfl rfl (Nat.le_of_ble_eq_true rfl) (Nat.le_of_ble_eq_true rfl) (Nat.le_of_ble_eq_true rfl) rfl (fun q9 => ?_)
  refine V_iconst (pc := 12) (v := (1 : Int32)) dX12_wash_12 rfl ?_
  refine V_callVi (pc := 13) (As := [.int q9, .int (1 : Int32)]) (rest := []) (c_X12_throwsIf w q9 (1 : Int32) s2) cw_X12_257 rfl rfl dX12_wash_13 kc_171 rfl ⟨Nat.le_of_ble_eq_true rfl, Nat.le_of_ble_eq_true rfl⟩ rfl rfl (Nat.le_of_ble_eq_true rfl) (Nat.le_of_ble_eq_true rfl) (Nat.le_of_ble_eq_true rfl) rfl (fun q13 => ?_)
  refine V_if_ne (pc := 16) (tgt := 37) dX12_wash_16 (by decide) ?_ ?_
  · refine V_sub (vs' := [none, none, none, none]) (show vless _ _ from trivial) rfl ?_
    exact hJ37 q13.2
  · refine V_aload_n (pc := 19) dX12_wash_19 rfl rfl ?_
    refine V_iload_n (pc := 20) dX12_wash_20 rfl rfl ?_
    refine V_iload_n (pc := 21) dX12_wash_21 rfl rfl ?_
    refine V_icmp_ne (pc := 22) (tgt := 29) dX12_wash_22 (by decide) ?_ ?_
    · refine V_iconst (pc := 29) (v := (0 : Int32)) dX12_wash_29 rfl ?_
      exact hJ30 (0 : Int32) q13.2
    · refine V_iconst (pc := 25) (v := (1 : Int32)) dX12_wash_25 rfl ?_
      refine V_goto (pc := 26) (tgt := 30) dX12_wash_26 (by decide) ?_
      exact hJ30 (1 : Int32) q13.2
def J_X12_go_26 (n : Nat) (v1 : Int32) (v2 : Int32) (t0 : Int32) (σ : MS) : Option (Int32 × MS) := ((f_X12_throwsIf t0 (1 : Int32) σ).bind (fun q27 => (if q27.1 = 0 then ((f_X12_remembers n  q27.2).bind (fun q36 => ((f_X12_of v1 (0 : Int32) q36.2).bind (fun q42 => ((f_X12_at v1 (0 : Int32) q36.2).bind (fun q52 => (if inb q52 2172 then ltM (mu q36.2 172 (ix q52) v2) (fun s56 => some (q42, s56)) else none))))))) else some ((0 : Int32), q27.2))))
def J_X12_go_21 (n : Nat) (v1 : Int32) (v2 : Int32) (σ : MS) : Option (Int32 × MS) := J_X12_go_26 n v1 v2 (1 : Int32) σ
def f_X12_go (n : Nat) (p1 : Int32) (p2 : Int32) (σ : MS) : Option (Int32 × MS) := (ltM (mu σ 171 0 (0 : Int32)) (fun s2 => ((f_X12_noPerson p1 s2).bind (fun q8 => (if q8 = 0 then ((f_X12_noRoom p2 s2).bind (fun q15 => (if q15 = 0 then J_X12_go_26 n p1 p2 (0 : Int32) s2 else J_X12_go_21 n p1 p2 s2))) else J_X12_go_21 n p1 p2 s2)))))
set_option maxRecDepth 20000 in
set_option maxHeartbeats 2000000 in
theorem c_X12_go (w : TG) (n : Nat) (p1 : Int32) (p2 : Int32) (σ : MS) : MC m_X12_go w [.ref (wB w + 171), .int p1, .int p2] σ (f_X12_go n p1 p2 σ) := by
  refine V_meth (by decide +kernel) (Nat.le_of_ble_eq_true rfl) (by intro v hv; simp only [List.mem_cons, List.not_mem_nil, or_false] at hv; rcases hv with rfl | rfl | rfl <;> rfl) (fun g x => ?_)
  show VV m_X12_go w g 0 0 (QM m_X12_go w g x) (fun b : Int32 × MS => b = x) 0 [some (.ref (wB w + 171)), some (.int p1), some (.int p2), none] [] σ (f_X12_go n p1 p2 σ)
  have hJ26 : ∀ (t0 : Int32) (σ : MS), VV m_X12_go w g 0 0 (QM m_X12_go w g x) (fun b : Int32 × MS => b = x) 26 [some (.ref (wB w + 171)), some (.int p1), some (.int p2), none] [.int t0, .ref (wB w + 171)] σ (J_X12_go_26 n p1 p2 t0 σ) := by
    intro t0 σ
    refine V_iconst (pc := 26) (v := (1 : Int32)) dX12_go_26 rfl ?_
    refine V_callVi (pc := 27) (As := [.int t0, .int (1 : Int32)]) (rest := []) (c_X12_throwsIf w t0 (1 : Int32) σ) cw_X12_257 rfl rfl dX12_go_27 kc_171 rfl ⟨Nat.le_of_ble_eq_true rfl, Nat.le_of_ble_eq_true rfl⟩ rfl rfl (Nat.le_of_ble_eq_true rfl) (Nat.le_of_ble_eq_true rfl) (Nat.le_of_ble_eq_true rfl) rfl (fun q27 => ?_)
    refine V_if_eq (pc := 30) (tgt := 35) dX12_go_30 (by decide) ?_ ?_
    · refine V_aload_n (pc := 35) dX12_go_35 rfl rfl ?_
      refine V_callVv (pc := 36) (As := []) (rest := []) (c_X12_remembers w n  q27.2) cw_X12_333 rfl rfl dX12_go_36 kc_171 rfl ⟨Nat.le_of_ble_eq_true rfl, Nat.le_of_ble_eq_true rfl⟩ rfl rfl (Nat.le_of_ble_eq_true rfl) (Nat.le_of_ble_eq_true rfl) (Nat.le_of_ble_eq_true rfl) rfl (fun q36 => ?_)
      refine V_aload_n (pc := 39) dX12_go_39 rfl rfl ?_
      refine V_iload_n (pc := 40) dX12_go_40 rfl rfl ?_
      refine V_iconst (pc := 41) (v := (0 : Int32)) dX12_go_41 rfl ?_
      refine V_callVpi (pc := 42) (As := [.int p1, .int (0 : Int32)]) (rest := []) (c_X12_of w p1 (0 : Int32) q36.2) cw_X12_73 rfl rfl dX12_go_42 kc_171 rfl ⟨Nat.le_of_ble_eq_true rfl, Nat.le_of_ble_eq_true rfl⟩ rfl rfl (Nat.le_of_ble_eq_true rfl) (Nat.le_of_ble_eq_true rfl) (Nat.le_of_ble_eq_true rfl) rfl (fun q42 => ?_)
      refine V_istore_n (pc := 45) (vs' := [some (.ref (wB w + 171)), some (.int p1), some (.int p2), some (.int q42)]) dX12_go_45 rfl (Nat.le_of_ble_eq_true rfl) (Nat.le_of_ble_eq_true rfl) rfl ?_
      refine V_aload_n (pc := 46) dX12_go_46 rfl rfl ?_
      refine V_getr (pc := 47) (t := 172) fk_X12_13 rfl dX12_go_47 kc_171 rfl ?_
      refine V_iload_n (pc := 50) dX12_go_50 rfl rfl ?_
      refine V_iconst (pc := 51) (v := (0 : Int32)) dX12_go_51 rfl ?_
      refine V_callSpi (pc := 52) (As := [.int p1, .int (0 : Int32)]) (rest := [.ref (wB w + 172)]) (c_X12_at w p1 (0 : Int32) q36.2) cs_X12_62 rfl rfl dX12_go_52 ⟨Nat.le_of_ble_eq_true rfl, Nat.le_of_ble_eq_true rfl⟩ rfl rfl (Nat.le_of_ble_eq_true rfl) (Nat.le_of_ble_eq_true rfl) (Nat.le_of_ble_eq_true rfl) rfl (fun q52 => ?_)
      refine V_iload_n (pc := 55) dX12_go_55 rfl rfl ?_
      refine V_iast (pc := 56) (n := 2172) dX12_go_56 kc_172 lc_172 (fun s56 => ?_)
      refine V_iload_n (pc := 57) dX12_go_57 rfl rfl ?_
      exact V_ireti (pc := 58) dX12_go_58 rfl (hk := fun h => h)
    · refine V_iconst (pc := 33) (v := (0 : Int32)) dX12_go_33 rfl ?_
      exact V_ireti (pc := 34) dX12_go_34 rfl (hk := fun h => h)
  have hJ21 : ∀ (σ : MS), VV m_X12_go w g 0 0 (QM m_X12_go w g x) (fun b : Int32 × MS => b = x) 21 [some (.ref (wB w + 171)), some (.int p1), some (.int p2), none] [.ref (wB w + 171)] σ (J_X12_go_21 n p1 p2 σ) := by
    intro σ
    refine V_iconst (pc := 21) (v := (1 : Int32)) dX12_go_21 rfl ?_
    refine V_goto (pc := 22) (tgt := 26) dX12_go_22 (by decide) ?_
    exact hJ26 (1 : Int32) σ
  refine V_aload_n (pc := 0) dX12_go_0 rfl rfl ?_
  refine V_iconst (pc := 1) (v := (0 : Int32)) dX12_go_1 rfl ?_
  refine V_puti (pc := 2) fp_X12_3 rfl dX12_go_2 kc_171 rfl (fun s2 => ?_)
  refine V_aload_n (pc := 5) dX12_go_5 rfl rfl ?_
  refine V_aload_n (pc := 6) dX12_go_6 rfl rfl ?_
  refine V_iload_n (pc := 7) dX12_go_7 rfl rfl ?_
  refine V_callVpi (pc := 8) (As := [.int p1]) (rest := [.ref (wB w + 171)]) (c_X12_noPerson w p1 s2) cw_X12_297 rfl rfl dX12_go_8 kc_171 rfl ⟨Nat.le_of_ble_eq_true rfl, Nat.le_of_ble_eq_true rfl⟩ rfl rfl (Nat.le_of_ble_eq_true rfl) (Nat.le_of_ble_eq_true rfl) (Nat.le_of_ble_eq_true rfl) rfl (fun q8 => ?_)
  refine V_if_ne (pc := 11) (tgt := 21) dX12_go_11 (by decide) ?_ ?_
  · exact hJ21 s2
  · refine V_iload_n (pc := 14) dX12_go_14 rfl rfl ?_
    refine V_callSpi (pc := 15) (As := [.int p2]) (rest := [.ref (wB w + 171)]) (c_X12_noRoom w p2 s2) cs_X12_133 rfl rfl dX12_go_15 ⟨Nat.le_of_ble_eq_true rfl, Nat.le_of_ble_eq_true rfl⟩ rfl rfl (Nat.le_of_ble_eq_true rfl) (Nat.le_of_ble_eq_true rfl) (Nat.le_of_ble_eq_true rfl) rfl (fun q15 => ?_)
    refine V_if_eq (pc := 18) (tgt := 25) dX12_go_18 (by decide) ?_ ?_
    · refine V_iconst (pc := 25) (v := (0 : Int32)) dX12_go_25 rfl ?_
      exact hJ26 (0 : Int32) s2
    · exact hJ21 s2
def J_X12_strew_74 (n : Nat) (t0 : Int32) (σ : MS) : Option (Int32 × MS) := (if t0 = 0 ∨ t0 = 1 then some (t0, σ) else none)
def J_X12_strew_63 (n : Nat) (v2 : Int32) (v3 : Int32) (t0 : Int32) (t1 : Int32) (σ : MS) : Option (Int32 × MS) := (if inb t1 2172 then ltM (mu σ 172 (ix t1) t0) (fun s63 => (if v3 = v2 then J_X12_strew_74 n (0 : Int32) s63 else J_X12_strew_74 n (1 : Int32) s63)) else none)
def f_X12_strew (n : Nat) (p1 : Int32) (p2 : Int32) (σ : MS) : Option (Int32 × MS) := (ltM (mu σ 171 0 (0 : Int32)) (fun s2 => ((f_X12_noRoom p1 s2).bind (fun q7 => ((f_X12_throwsIf q7 (1 : Int32) s2).bind (fun q11 => (if q11.1 = 0 then ((f_X12_remembers n  q11.2).bind (fun q20 => ((f_X12_hasFlour p1 q20.2).bind (fun q25 => (if p2 = 0 then J_X12_strew_63 n p2 q25 ((q20.2 172 4) &&& ((shlI (1 : Int32) p1) ^^^ (-1 : Int32))) (4 : Int32) q20.2 else J_X12_strew_63 n p2 q25 ((q20.2 172 4) ||| (shlI (1 : Int32) p1)) (4 : Int32) q20.2))))) else some ((0 : Int32), q11.2))))))))
set_option maxRecDepth 20000 in
set_option maxHeartbeats 2000000 in
theorem c_X12_strew (w : TG) (n : Nat) (p1 : Int32) (p2 : Int32) (σ : MS) : MC m_X12_strew w [.ref (wB w + 171), .int p1, .int p2] σ (f_X12_strew n p1 p2 σ) := by
  refine V_meth (by decide +kernel) (Nat.le_of_ble_eq_true rfl) (by intro v hv; simp only [List.mem_cons, List.not_mem_nil, or_false] at hv; rcases hv with rfl | rfl | rfl <;> rfl) (fun g x => ?_)
  show VV m_X12_strew w g 0 0 (QM m_X12_strew w g x) (fun b : Int32 × MS => b = x) 0 [some (.ref (wB w + 171)), some (.int p1), some (.int p2), none] [] σ (f_X12_strew n p1 p2 σ)
  have hJ74 : ∀ (t0 : Int32) (σ : MS), VV m_X12_strew w g 0 0 (QM m_X12_strew w g x) (fun b : Int32 × MS => b = x) 74 [none, none, none, none] [.int t0] σ (J_X12_strew_74 n t0 σ) := by
    intro t0 σ
    exact V_iretZ (pc := 74) dX12_strew_74 rfl (hk := fun h => h)
  have hJ63 : ∀ (v3 : Int32) (t0 : Int32) (t1 : Int32) (σ : MS), VV m_X12_strew w g 0 0 (QM m_X12_strew w g x) (fun b : Int32 × MS => b = x) 63 [none, none, some (.int p2), some (.int v3)] [.int t0, .int t1, .ref (wB w + 172)] σ (J_X12_strew_63 n p2 v3 t0 t1 σ) := by
    intro v3 t0 t1 σ
    refine V_iast (pc := 63) (n := 2172) dX12_strew_63 kc_172 lc_172 (fun s63 => ?_)
    refine V_iload_n (pc := 64) dX12_strew_64 rfl rfl ?_
    refine V_iload_n (pc := 65) dX12_strew_65 rfl rfl ?_
    refine V_icmp_eq (pc := 66) (tgt := 73) dX12_strew_66 (by decide) ?_ ?_
    · refine V_iconst (pc := 73) (v := (0 : Int32)) dX12_strew_73 rfl ?_
      refine V_sub (vs' := [none, none, none, none]) (show vless _ _ from trivial) rfl ?_
      exact hJ74 (0 : Int32) s63
    · refine V_iconst (pc := 69) (v := (1 : Int32)) dX12_strew_69 rfl ?_
      refine V_goto (pc := 70) (tgt := 74) dX12_strew_70 (by decide) ?_
      refine V_sub (vs' := [none, none, none, none]) (show vless _ _ from trivial) rfl ?_
      exact hJ74 (1 : Int32) s63
  refine V_aload_n (pc := 0) dX12_strew_0 rfl rfl ?_
  refine V_iconst (pc := 1) (v := (0 : Int32)) dX12_strew_1 rfl ?_
  refine V_puti (pc := 2) fp_X12_3 rfl dX12_strew_2 kc_171 rfl (fun s2 => ?_)
  refine V_aload_n (pc := 5) dX12_strew_5 rfl rfl ?_
  refine V_iload_n (pc := 6) dX12_strew_6 rfl rfl ?_
  refine V_callSpi (pc := 7) (As := [.int p1]) (rest := [.ref (wB w + 171)]) (c_X12_noRoom w p1 s2) cs_X12_133 rfl rfl dX12_strew_7 ⟨Nat.le_of_ble_eq_true rfl, Nat.le_of_ble_eq_true rfl⟩ rfl rfl (Nat.le_of_ble_eq_true rfl) (Nat.le_of_ble_eq_true rfl) (Nat.le_of_ble_eq_true rfl) rfl (fun q7 => ?_)
  refine V_iconst (pc := 10) (v := (1 : Int32)) dX12_strew_10 rfl ?_
  refine V_callVi (pc := 11) (As := [.int q7, .int (1 : Int32)]) (rest := []) (c_X12_throwsIf w q7 (1 : Int32) s2) cw_X12_257 rfl rfl dX12_strew_11 kc_171 rfl ⟨Nat.le_of_ble_eq_true rfl, Nat.le_of_ble_eq_true rfl⟩ rfl rfl (Nat.le_of_ble_eq_true rfl) (Nat.le_of_ble_eq_true rfl) (Nat.le_of_ble_eq_true rfl) rfl (fun q11 => ?_)
  refine V_if_eq (pc := 14) (tgt := 19) dX12_strew_14 (by decide) ?_ ?_
  · refine V_aload_n (pc := 19) dX12_strew_19 rfl rfl ?_
    refine V_callVv (pc := 20) (As := []) (rest := []) (c_X12_remembers w n  q11.2) cw_X12_333 rfl rfl dX12_strew_20 kc_171 rfl ⟨Nat.le_of_ble_eq_true rfl, Nat.le_of_ble_eq_true rfl⟩ rfl rfl (Nat.le_of_ble_eq_true rfl) (Nat.le_of_ble_eq_true rfl) (Nat.le_of_ble_eq_true rfl) rfl (fun q20 => ?_)
    refine V_aload_n (pc := 23) dX12_strew_23 rfl rfl ?_
    refine V_iload_n (pc := 24) dX12_strew_24 rfl rfl ?_
    refine V_callVpi (pc := 25) (As := [.int p1]) (rest := []) (c_X12_hasFlour w p1 q20.2) cw_X12_397 rfl rfl dX12_strew_25 kc_171 rfl ⟨Nat.le_of_ble_eq_true rfl, Nat.le_of_ble_eq_true rfl⟩ rfl rfl (Nat.le_of_ble_eq_true rfl) (Nat.le_of_ble_eq_true rfl) (Nat.le_of_ble_eq_true rfl) rfl (fun q25 => ?_)
    refine V_istore_n (pc := 28) (vs' := [some (.ref (wB w + 171)), some (.int p1), some (.int p2), some (.int q25)]) dX12_strew_28 rfl (Nat.le_of_ble_eq_true rfl) (Nat.le_of_ble_eq_true rfl) rfl ?_
    refine V_aload_n (pc := 29) dX12_strew_29 rfl rfl ?_
    refine V_getr (pc := 30) (t := 172) fk_X12_13 rfl dX12_strew_30 kc_171 rfl ?_
    refine V_iconst (pc := 33) (v := (4 : Int32)) dX12_strew_33 rfl ?_
    refine V_iload_n (pc := 34) dX12_strew_34 rfl rfl ?_
    refine V_if_eq (pc := 35) (tgt := 51) dX12_strew_35 (by decide) ?_ ?_
    · refine V_aload_n (pc := 51) dX12_strew_51 rfl rfl ?_
      refine V_getr (pc := 52) (t := 172) fk_X12_13 rfl dX12_strew_52 kc_171 rfl ?_
      refine V_iconst (pc := 55) (v := (4 : Int32)) dX12_strew_55 rfl ?_
      refine V_ialdC (pc := 56) (n := 2172) dX12_strew_56 kc_172 lc_172 (by decide) ?_
      refine V_iconst (pc := 57) (v := (1 : Int32)) dX12_strew_57 rfl ?_
      refine V_iload_n (pc := 58) dX12_strew_58 rfl rfl ?_
      refine V_ishl (pc := 59) dX12_strew_59 ?_
      refine V_iconst (pc := 60) (v := (-1 : Int32)) dX12_strew_60 rfl ?_
      refine V_ixor (pc := 61) dX12_strew_61 ?_
      refine V_iand (pc := 62) dX12_strew_62 ?_
      refine V_sub (vs' := [none, none, some (.int p2), some (.int q25)]) (show vless _ _ from ⟨rfl, ⟨rfl, trivial⟩⟩) rfl ?_
      exact hJ63 q25 ((q20.2 172 4) &&& ((shlI (1 : Int32) p1) ^^^ (-1 : Int32))) (4 : Int32) q20.2
    · refine V_aload_n (pc := 38) dX12_strew_38 rfl rfl ?_
      refine V_getr (pc := 39) (t := 172) fk_X12_13 rfl dX12_strew_39 kc_171 rfl ?_
      refine V_iconst (pc := 42) (v := (4 : Int32)) dX12_strew_42 rfl ?_
      refine V_ialdC (pc := 43) (n := 2172) dX12_strew_43 kc_172 lc_172 (by decide) ?_
      refine V_iconst (pc := 44) (v := (1 : Int32)) dX12_strew_44 rfl ?_
      refine V_iload_n (pc := 45) dX12_strew_45 rfl rfl ?_
      refine V_ishl (pc := 46) dX12_strew_46 ?_
      refine V_ior (pc := 47) dX12_strew_47 ?_
      refine V_goto (pc := 48) (tgt := 63) dX12_strew_48 (by decide) ?_
      refine V_sub (vs' := [none, none, some (.int p2), some (.int q25)]) (show vless _ _ from ⟨rfl, ⟨rfl, trivial⟩⟩) rfl ?_
      exact hJ63 q25 ((q20.2 172 4) ||| (shlI (1 : Int32) p1)) (4 : Int32) q20.2
  · refine V_iconst (pc := 17) (v := (0 : Int32)) dX12_strew_17 rfl ?_
    exact V_iretz (pc := 18) dX12_strew_18 rfl rfl (hk := fun h => h)
def J_X12_wed_68 (n : Nat)  (σ : MS) : Option (Int32 × MS) := some (0, σ)
def J_X12_wed_61 (n : Nat) (v1 : Int32) (v2 : Int32) (t0 : Int32) (σ : MS) : Option (Int32 × MS) := ((f_X12_throwsIf t0 (3 : Int32) σ).bind (fun q62 => (if q62.1 = 0 then ((f_X12_remembers n  q62.2).bind (fun q70 => ((f_X12_weds v1 v2 q70.2).bind (fun q76 => some (0, q76.2))))) else J_X12_wed_68 n  q62.2)))
def J_X12_wed_56 (n : Nat) (v1 : Int32) (v2 : Int32) (σ : MS) : Option (Int32 × MS) := J_X12_wed_61 n v1 v2 (1 : Int32) σ
def J_X12_wed_30 (n : Nat) (v1 : Int32) (v2 : Int32) (t0 : Int32) (σ : MS) : Option (Int32 × MS) := ((f_X12_throwsIf t0 (2 : Int32) σ).bind (fun q31 => (if q31.1 = 0 then ((f_X12_of v1 (1 : Int32) q31.2).bind (fun q41 => (if 0 ≤ q41 then J_X12_wed_56 n v1 v2 q31.2 else ((f_X12_of v2 (1 : Int32) q31.2).bind (fun q50 => (if q50 < 0 then J_X12_wed_61 n v1 v2 (0 : Int32) q31.2 else J_X12_wed_56 n v1 v2 q31.2)))))) else J_X12_wed_68 n  q31.2)))
def f_X12_wed (n : Nat) (p1 : Int32) (p2 : Int32) (σ : MS) : Option (Int32 × MS) := (ltM (mu σ 171 0 (0 : Int32)) (fun s2 => ((f_X12_noBoth p1 p2 s2).bind (fun q9 => ((f_X12_throwsIf q9 (1 : Int32) s2).bind (fun q13 => (if q13.1 = 0 then (if p1 = p2 then J_X12_wed_30 n p1 p2 (1 : Int32) q13.2 else J_X12_wed_30 n p1 p2 (0 : Int32) q13.2) else J_X12_wed_68 n  q13.2)))))))
set_option maxRecDepth 20000 in
set_option maxHeartbeats 2000000 in
theorem c_X12_wed (w : TG) (n : Nat) (p1 : Int32) (p2 : Int32) (σ : MS) : MC m_X12_wed w [.ref (wB w + 171), .int p1, .int p2] σ (f_X12_wed n p1 p2 σ) := by
  refine V_meth (by decide +kernel) (Nat.le_of_ble_eq_true rfl) (by intro v hv; simp only [List.mem_cons, List.not_mem_nil, or_false] at hv; rcases hv with rfl | rfl | rfl <;> rfl) (fun g x => ?_)
  show VV m_X12_wed w g 0 0 (QM m_X12_wed w g x) (fun b : Int32 × MS => b = x) 0 [some (.ref (wB w + 171)), some (.int p1), some (.int p2)] [] σ (f_X12_wed n p1 p2 σ)
  have hJ68 : ∀ (σ : MS), VV m_X12_wed w g 0 0 (QM m_X12_wed w g x) (fun b : Int32 × MS => b = x) 68 [none, none, none] [] σ (J_X12_wed_68 n  σ) := by
    intro σ
    exact V_ret (pc := 68) dX12_wed_68 rfl (hk := fun h => h)
  have hJ61 : ∀ (t0 : Int32) (σ : MS), VV m_X12_wed w g 0 0 (QM m_X12_wed w g x) (fun b : Int32 × MS => b = x) 61 [some (.ref (wB w + 171)), some (.int p1), some (.int p2)] [.int t0, .ref (wB w + 171)] σ (J_X12_wed_61 n p1 p2 t0 σ) := by
    intro t0 σ
    refine V_iconst (pc := 61) (v := (3 : Int32)) dX12_wed_61 rfl ?_
    refine V_callVi (pc := 62) (As := [.int t0, .int (3 : Int32)]) (rest := []) (c_X12_throwsIf w t0 (3 : Int32) σ) cw_X12_257 rfl rfl dX12_wed_62 kc_171 rfl ⟨Nat.le_of_ble_eq_true rfl, Nat.le_of_ble_eq_true rfl⟩ rfl rfl (Nat.le_of_ble_eq_true rfl) (Nat.le_of_ble_eq_true rfl) (Nat.le_of_ble_eq_true rfl) rfl (fun q62 => ?_)
    refine V_if_eq (pc := 65) (tgt := 69) dX12_wed_65 (by decide) ?_ ?_
    · refine V_aload_n (pc := 69) dX12_wed_69 rfl rfl ?_
      refine V_callVv (pc := 70) (As := []) (rest := []) (c_X12_remembers w n  q62.2) cw_X12_333 rfl rfl dX12_wed_70 kc_171 rfl ⟨Nat.le_of_ble_eq_true rfl, Nat.le_of_ble_eq_true rfl⟩ rfl rfl (Nat.le_of_ble_eq_true rfl) (Nat.le_of_ble_eq_true rfl) (Nat.le_of_ble_eq_true rfl) rfl (fun q70 => ?_)
      refine V_aload_n (pc := 73) dX12_wed_73 rfl rfl ?_
      refine V_iload_n (pc := 74) dX12_wed_74 rfl rfl ?_
      refine V_iload_n (pc := 75) dX12_wed_75 rfl rfl ?_
      refine V_callVv (pc := 76) (As := [.int p1, .int p2]) (rest := []) (c_X12_weds w p1 p2 q70.2) cw_X12_129 rfl rfl dX12_wed_76 kc_171 rfl ⟨Nat.le_of_ble_eq_true rfl, Nat.le_of_ble_eq_true rfl⟩ rfl rfl (Nat.le_of_ble_eq_true rfl) (Nat.le_of_ble_eq_true rfl) (Nat.le_of_ble_eq_true rfl) rfl (fun q76 => ?_)
      exact V_ret (pc := 79) dX12_wed_79 rfl (hk := fun h => h)
    · refine V_sub (vs' := [none, none, none]) (show vless _ _ from trivial) rfl ?_
      exact hJ68 q62.2
  have hJ56 : ∀ (σ : MS), VV m_X12_wed w g 0 0 (QM m_X12_wed w g x) (fun b : Int32 × MS => b = x) 56 [some (.ref (wB w + 171)), some (.int p1), some (.int p2)] [.ref (wB w + 171)] σ (J_X12_wed_56 n p1 p2 σ) := by
    intro σ
    refine V_iconst (pc := 56) (v := (1 : Int32)) dX12_wed_56 rfl ?_
    refine V_goto (pc := 57) (tgt := 61) dX12_wed_57 (by decide) ?_
    exact hJ61 (1 : Int32) σ
  have hJ30 : ∀ (t0 : Int32) (σ : MS), VV m_X12_wed w g 0 0 (QM m_X12_wed w g x) (fun b : Int32 × MS => b = x) 30 [some (.ref (wB w + 171)), some (.int p1), some (.int p2)] [.int t0, .ref (wB w + 171)] σ (J_X12_wed_30 n p1 p2 t0 σ) := by
    intro t0 σ
    refine V_iconst (pc := 30) (v := (2 : Int32)) dX12_wed_30 rfl ?_
    refine V_callVi (pc := 31) (As := [.int t0, .int (2 : Int32)]) (rest := []) (c_X12_throwsIf w t0 (2 : Int32) σ) cw_X12_257 rfl rfl dX12_wed_31 kc_171 rfl ⟨Nat.le_of_ble_eq_true rfl, Nat.le_of_ble_eq_true rfl⟩ rfl rfl (Nat.le_of_ble_eq_true rfl) (Nat.le_of_ble_eq_true rfl) (Nat.le_of_ble_eq_true rfl) rfl (fun q31 => ?_)
    refine V_if_ne (pc := 34) (tgt := 68) dX12_wed_34 (by decide) ?_ ?_
    · refine V_sub (vs' := [none, none, none]) (show vless _ _ from trivial) rfl ?_
      exact hJ68 q31.2
    · refine V_aload_n (pc := 37) dX12_wed_37 rfl rfl ?_
      refine V_aload_n (pc := 38) dX12_wed_38 rfl rfl ?_
      refine V_iload_n (pc := 39) dX12_wed_39 rfl rfl ?_
      refine V_iconst (pc := 40) (v := (1 : Int32)) dX12_wed_40 rfl ?_
      refine V_callVpi (pc := 41) (As := [.int p1, .int (1 : Int32)]) (rest := [.ref (wB w + 171)]) (c_X12_of w p1 (1 : Int32) q31.2) cw_X12_73 rfl rfl dX12_wed_41 kc_171 rfl ⟨Nat.le_of_ble_eq_true rfl, Nat.le_of_ble_eq_true rfl⟩ rfl rfl (Nat.le_of_ble_eq_true rfl) (Nat.le_of_ble_eq_true rfl) (Nat.le_of_ble_eq_true rfl) rfl (fun q41 => ?_)
      refine V_if_ge (pc := 44) (tgt := 56) dX12_wed_44 (by decide) ?_ ?_
      · exact hJ56 q31.2
      · refine V_aload_n (pc := 47) dX12_wed_47 rfl rfl ?_
        refine V_iload_n (pc := 48) dX12_wed_48 rfl rfl ?_
        refine V_iconst (pc := 49) (v := (1 : Int32)) dX12_wed_49 rfl ?_
        refine V_callVpi (pc := 50) (As := [.int p2, .int (1 : Int32)]) (rest := [.ref (wB w + 171)]) (c_X12_of w p2 (1 : Int32) q31.2) cw_X12_73 rfl rfl dX12_wed_50 kc_171 rfl ⟨Nat.le_of_ble_eq_true rfl, Nat.le_of_ble_eq_true rfl⟩ rfl rfl (Nat.le_of_ble_eq_true rfl) (Nat.le_of_ble_eq_true rfl) (Nat.le_of_ble_eq_true rfl) rfl (fun q50 => ?_)
        refine V_if_lt (pc := 53) (tgt := 60) dX12_wed_53 (by decide) ?_ ?_
        · refine V_iconst (pc := 60) (v := (0 : Int32)) dX12_wed_60 rfl ?_
          exact hJ61 (0 : Int32) q31.2
        · exact hJ56 q31.2
  refine V_aload_n (pc := 0) dX12_wed_0 rfl rfl ?_
  refine V_iconst (pc := 1) (v := (0 : Int32)) dX12_wed_1 rfl ?_
  refine V_puti (pc := 2) fp_X12_3 rfl dX12_wed_2 kc_171 rfl (fun s2 => ?_)
  refine V_aload_n (pc := 5) dX12_wed_5 rfl rfl ?_
  refine V_aload_n (pc := 6) dX12_wed_6 rfl rfl ?_
  refine V_iload_n (pc := 7) dX12_wed_7 rfl rfl ?_
  refine V_iload_n (pc := 8) dX12_wed_8 rfl rfl ?_
  refine V_callVpi (pc := 9) (As := [.int p1, .int p2]) (rest := [.ref (wB w + 171)]) (c_X12_noBoth w p1 p2 s2) cw_X12_300 rfl rfl dX12_wed_9 kc_171 rfl ⟨Nat.le_of_ble_eq_true rfl, Nat.le_of_ble_eq_true rfl⟩ rfl rfl (Nat.le_of_ble_eq_true rfl) (Nat.le_of_ble_eq_true rfl) (Nat.le_of_ble_eq_true rfl) rfl (fun q9 => ?_)
  refine V_iconst (pc := 12) (v := (1 : Int32)) dX12_wed_12 rfl ?_
  refine V_callVi (pc := 13) (As := [.int q9, .int (1 : Int32)]) (rest := []) (c_X12_throwsIf w q9 (1 : Int32) s2) cw_X12_257 rfl rfl dX12_wed_13 kc_171 rfl ⟨Nat.le_of_ble_eq_true rfl, Nat.le_of_ble_eq_true rfl⟩ rfl rfl (Nat.le_of_ble_eq_true rfl) (Nat.le_of_ble_eq_true rfl) (Nat.le_of_ble_eq_true rfl) rfl (fun q13 => ?_)
  refine V_if_ne (pc := 16) (tgt := 68) dX12_wed_16 (by decide) ?_ ?_
  · refine V_sub (vs' := [none, none, none]) (show vless _ _ from trivial) rfl ?_
    exact hJ68 q13.2
  · refine V_aload_n (pc := 19) dX12_wed_19 rfl rfl ?_
    refine V_iload_n (pc := 20) dX12_wed_20 rfl rfl ?_
    refine V_iload_n (pc := 21) dX12_wed_21 rfl rfl ?_
    refine V_icmp_ne (pc := 22) (tgt := 29) dX12_wed_22 (by decide) ?_ ?_
    · refine V_iconst (pc := 29) (v := (0 : Int32)) dX12_wed_29 rfl ?_
      exact hJ30 (0 : Int32) q13.2
    · refine V_iconst (pc := 25) (v := (1 : Int32)) dX12_wed_25 rfl ?_
      refine V_goto (pc := 26) (tgt := 30) dX12_wed_26 (by decide) ?_
      exact hJ30 (1 : Int32) q13.2
def f_X12_clear (n : Nat) (p1 : Int32) (σ : MS) : Option (Int32 × MS) := (ltM (mu σ 171 0 (0 : Int32)) (fun s2 => ((f_X12_noPerson p1 s2).bind (fun q8 => ((f_X12_throwsIf q8 (1 : Int32) s2).bind (fun q12 => (if q12.1 = 0 then ((f_X12_remembers n  q12.2).bind (fun q21 => ((f_X12_of p1 (2 : Int32) q21.2).bind (fun q27 => ((f_X12_at p1 (2 : Int32) q21.2).bind (fun q37 => (if inb q37 2172 then ltM (mu q21.2 172 (ix q37) (0 : Int32)) (fun s41 => some (q27, s41)) else none))))))) else some ((0 : Int32), q12.2))))))))
set_option maxRecDepth 20000 in
set_option maxHeartbeats 2000000 in
theorem c_X12_clear (w : TG) (n : Nat) (p1 : Int32) (σ : MS) : MC m_X12_clear w [.ref (wB w + 171), .int p1] σ (f_X12_clear n p1 σ) := by
  refine V_meth (by decide +kernel) (Nat.le_of_ble_eq_true rfl) (by intro v hv; simp only [List.mem_cons, List.not_mem_nil, or_false] at hv; rcases hv with rfl | rfl <;> rfl) (fun g x => ?_)
  show VV m_X12_clear w g 0 0 (QM m_X12_clear w g x) (fun b : Int32 × MS => b = x) 0 [some (.ref (wB w + 171)), some (.int p1), none] [] σ (f_X12_clear n p1 σ)
  refine V_aload_n (pc := 0) dX12_clear_0 rfl rfl ?_
  refine V_iconst (pc := 1) (v := (0 : Int32)) dX12_clear_1 rfl ?_
  refine V_puti (pc := 2) fp_X12_3 rfl dX12_clear_2 kc_171 rfl (fun s2 => ?_)
  refine V_aload_n (pc := 5) dX12_clear_5 rfl rfl ?_
  refine V_aload_n (pc := 6) dX12_clear_6 rfl rfl ?_
  refine V_iload_n (pc := 7) dX12_clear_7 rfl rfl ?_
  refine V_callVpi (pc := 8) (As := [.int p1]) (rest := [.ref (wB w + 171)]) (c_X12_noPerson w p1 s2) cw_X12_297 rfl rfl dX12_clear_8 kc_171 rfl ⟨Nat.le_of_ble_eq_true rfl, Nat.le_of_ble_eq_true rfl⟩ rfl rfl (Nat.le_of_ble_eq_true rfl) (Nat.le_of_ble_eq_true rfl) (Nat.le_of_ble_eq_true rfl) rfl (fun q8 => ?_)
  refine V_iconst (pc := 11) (v := (1 : Int32)) dX12_clear_11 rfl ?_
  refine V_callVi (pc := 12) (As := [.int q8, .int (1 : Int32)]) (rest := []) (c_X12_throwsIf w q8 (1 : Int32) s2) cw_X12_257 rfl rfl dX12_clear_12 kc_171 rfl ⟨Nat.le_of_ble_eq_true rfl, Nat.le_of_ble_eq_true rfl⟩ rfl rfl (Nat.le_of_ble_eq_true rfl) (Nat.le_of_ble_eq_true rfl) (Nat.le_of_ble_eq_true rfl) rfl (fun q12 => ?_)
  refine V_if_eq (pc := 15) (tgt := 20) dX12_clear_15 (by decide) ?_ ?_
  · refine V_aload_n (pc := 20) dX12_clear_20 rfl rfl ?_
    refine V_callVv (pc := 21) (As := []) (rest := []) (c_X12_remembers w n  q12.2) cw_X12_333 rfl rfl dX12_clear_21 kc_171 rfl ⟨Nat.le_of_ble_eq_true rfl, Nat.le_of_ble_eq_true rfl⟩ rfl rfl (Nat.le_of_ble_eq_true rfl) (Nat.le_of_ble_eq_true rfl) (Nat.le_of_ble_eq_true rfl) rfl (fun q21 => ?_)
    refine V_aload_n (pc := 24) dX12_clear_24 rfl rfl ?_
    refine V_iload_n (pc := 25) dX12_clear_25 rfl rfl ?_
    refine V_iconst (pc := 26) (v := (2 : Int32)) dX12_clear_26 rfl ?_
    refine V_callVpi (pc := 27) (As := [.int p1, .int (2 : Int32)]) (rest := []) (c_X12_of w p1 (2 : Int32) q21.2) cw_X12_73 rfl rfl dX12_clear_27 kc_171 rfl ⟨Nat.le_of_ble_eq_true rfl, Nat.le_of_ble_eq_true rfl⟩ rfl rfl (Nat.le_of_ble_eq_true rfl) (Nat.le_of_ble_eq_true rfl) (Nat.le_of_ble_eq_true rfl) rfl (fun q27 => ?_)
    refine V_istore_n (pc := 30) (vs' := [some (.ref (wB w + 171)), some (.int p1), some (.int q27)]) dX12_clear_30 rfl (Nat.le_of_ble_eq_true rfl) (Nat.le_of_ble_eq_true rfl) rfl ?_
    refine V_aload_n (pc := 31) dX12_clear_31 rfl rfl ?_
    refine V_getr (pc := 32) (t := 172) fk_X12_13 rfl dX12_clear_32 kc_171 rfl ?_
    refine V_iload_n (pc := 35) dX12_clear_35 rfl rfl ?_
    refine V_iconst (pc := 36) (v := (2 : Int32)) dX12_clear_36 rfl ?_
    refine V_callSpi (pc := 37) (As := [.int p1, .int (2 : Int32)]) (rest := [.ref (wB w + 172)]) (c_X12_at w p1 (2 : Int32) q21.2) cs_X12_62 rfl rfl dX12_clear_37 ⟨Nat.le_of_ble_eq_true rfl, Nat.le_of_ble_eq_true rfl⟩ rfl rfl (Nat.le_of_ble_eq_true rfl) (Nat.le_of_ble_eq_true rfl) (Nat.le_of_ble_eq_true rfl) rfl (fun q37 => ?_)
    refine V_iconst (pc := 40) (v := (0 : Int32)) dX12_clear_40 rfl ?_
    refine V_iast (pc := 41) (n := 2172) dX12_clear_41 kc_172 lc_172 (fun s41 => ?_)
    refine V_iload_n (pc := 42) dX12_clear_42 rfl rfl ?_
    exact V_ireti (pc := 43) dX12_clear_43 rfl (hk := fun h => h)
  · refine V_iconst (pc := 18) (v := (0 : Int32)) dX12_clear_18 rfl ?_
    exact V_ireti (pc := 19) dX12_clear_19 rfl (hk := fun h => h)
def f_X12_suspects (p1 : Int32) (p2 : Int32) (σ : MS) : Option (Int32 × MS) := ((f_X12_at p1 (2 : Int32) σ).bind (fun q6 => ((f_X12_of p1 (2 : Int32) σ).bind (fun q14 => (if inb q6 2172 then ltM (mu σ 172 (ix q6) (mnI (99 : Int32) (q14 + p2))) (fun s22 => some (0, s22)) else none)))))
set_option maxRecDepth 20000 in
set_option maxHeartbeats 2000000 in
theorem c_X12_suspects (w : TG) (p1 : Int32) (p2 : Int32) (σ : MS) : MC m_X12_suspects w [.ref (wB w + 171), .int p1, .int p2] σ (f_X12_suspects p1 p2 σ) := by
  refine V_meth (by decide +kernel) (Nat.le_of_ble_eq_true rfl) (by intro v hv; simp only [List.mem_cons, List.not_mem_nil, or_false] at hv; rcases hv with rfl | rfl | rfl <;> rfl) (fun g x => ?_)
  show VV m_X12_suspects w g 0 0 (QM m_X12_suspects w g x) (fun b : Int32 × MS => b = x) 0 [some (.ref (wB w + 171)), some (.int p1), some (.int p2)] [] σ (f_X12_suspects p1 p2 σ)
  refine V_aload_n (pc := 0) dX12_suspects_0 rfl rfl ?_
  refine V_getr (pc := 1) (t := 172) fk_X12_13 rfl dX12_suspects_1 kc_171 rfl ?_
  refine V_iload_n (pc := 4) dX12_suspects_4 rfl rfl ?_
  refine V_iconst (pc := 5) (v := (2 : Int32)) dX12_suspects_5 rfl ?_
  refine V_callSpi (pc := 6) (As := [.int p1, .int (2 : Int32)]) (rest := [.ref (wB w + 172)]) (c_X12_at w p1 (2 : Int32) σ) cs_X12_62 rfl rfl dX12_suspects_6 ⟨Nat.le_of_ble_eq_true rfl, Nat.le_of_ble_eq_true rfl⟩ rfl rfl (Nat.le_of_ble_eq_true rfl) (Nat.le_of_ble_eq_true rfl) (Nat.le_of_ble_eq_true rfl) rfl (fun q6 => ?_)
  refine V_bipush (pc := 9) (v := (99 : Int32)) dX12_suspects_9 rfl ?_
  refine V_aload_n (pc := 11) dX12_suspects_11 rfl rfl ?_
  refine V_iload_n (pc := 12) dX12_suspects_12 rfl rfl ?_
  refine V_iconst (pc := 13) (v := (2 : Int32)) dX12_suspects_13 rfl ?_
  refine V_callVpi (pc := 14) (As := [.int p1, .int (2 : Int32)]) (rest := [.int (99 : Int32), .int q6, .ref (wB w + 172)]) (c_X12_of w p1 (2 : Int32) σ) cw_X12_73 rfl rfl dX12_suspects_14 kc_171 rfl ⟨Nat.le_of_ble_eq_true rfl, Nat.le_of_ble_eq_true rfl⟩ rfl rfl (Nat.le_of_ble_eq_true rfl) (Nat.le_of_ble_eq_true rfl) (Nat.le_of_ble_eq_true rfl) rfl (fun q14 => ?_)
  refine V_iload_n (pc := 17) dX12_suspects_17 rfl rfl ?_
  refine V_iadd (pc := 18) dX12_suspects_18 ?_
  refine V_mmin (pc := 19) dX12_suspects_19 rfl mw_X12_283 (Nat.le_of_ble_eq_true rfl) (Nat.le_of_ble_eq_true rfl) (Nat.le_of_ble_eq_true rfl) (Nat.le_of_ble_eq_true rfl) ?_
  refine V_iast (pc := 22) (n := 2172) dX12_suspects_22 kc_172 lc_172 (fun s22 => ?_)
  exact V_ret (pc := 23) dX12_suspects_23 rfl (hk := fun h => h)
def L_X12_leavesFootprints_30 (n : Nat) (v1 : Int32) (v2 : Int32) (σ : MS) (a30 : Int32 × MS) : Option ((Int32 × MS) ⊕ (Int32 × MS)) := (if a30.1 < (4 : Int32) then ((ltM (mu a30.2 172 234 (a30.2 172 3)) (fun s79 => (ltM (mu s79 172 235 v1) (fun s88 => (ltM (mu s88 172 236 v2) (fun s97 => ((f_X12_of v1 (0 : Int32) s97).bind (fun q108 => (ltM (mu s97 172 237 q108) (fun s111 => (ltM (mu s111 172 8 (mnI (60 : Int32) ((s111 172 8) + (1 : Int32)))) (fun s132 => (ltM (mu s132 172 7 ((s132 172 7) + (1 : Int32))) (fun s143 => some (0, s143)))))))))))))))).map Sum.inr else (if inb (((234 : Int32) + a30.1) - (4 : Int32)) 2172 then (if inb ((234 : Int32) + a30.1) 2172 then ltM (mu a30.2 172 (ix ((234 : Int32) + a30.1)) (a30.2 172 (ix (((234 : Int32) + a30.1) - (4 : Int32))))) (fun s59 => some (.inl ((a30.1 + (-1 : Int32)), s59))) else none) else none))
def f_X12_leavesFootprints (n : Nat) (p1 : Int32) (p2 : Int32) (σ : MS) : Option (Int32 × MS) := ((f_X12_looks p1 p2 (0 : Int32) (0 : Int32) σ).bind (fun q5 => ((f_X12_suspectsBy n  q5.2).bind (fun q9 => ((f_X12_suspects p1 q9.1 q9.2).bind (fun q16 => ((f_X12_suspects p2 q9.1 q16.2).bind (fun q22 => itr (L_X12_leavesFootprints_30 n p1 p2 σ) n ((239 : Int32), q22.2)))))))))
set_option maxRecDepth 20000 in
set_option maxHeartbeats 2000000 in
theorem c_X12_leavesFootprints (w : TG) (n : Nat) (p1 : Int32) (p2 : Int32) (σ : MS) : MC m_X12_leavesFootprints w [.ref (wB w + 171), .int p1, .int p2] σ (f_X12_leavesFootprints n p1 p2 σ) := by
  refine V_meth (by decide +kernel) (Nat.le_of_ble_eq_true rfl) (by intro v hv; simp only [List.mem_cons, List.not_mem_nil, or_false] at hv; rcases hv with rfl | rfl | rfl <;> rfl) (fun g x => ?_)
  show VV m_X12_leavesFootprints w g 0 0 (QM m_X12_leavesFootprints w g x) (fun b : Int32 × MS => b = x) 0 [some (.ref (wB w + 171)), some (.int p1), some (.int p2), none, none] [] σ (f_X12_leavesFootprints n p1 p2 σ)
  have hL30 : ∀  (n0 : Nat) (a : Int32 × MS), VV m_X12_leavesFootprints w g 0 0 (QM m_X12_leavesFootprints w g x) (fun b : Int32 × MS => b = x) 30 [some (.ref (wB w + 171)), some (.int p1), some (.int p2), none, some (.int a.1)] [] a.2 (itr (L_X12_leavesFootprints_30 n p1 p2 σ) n0 a) := by
    refine V_itr (vf := fun a : Int32 × MS => [some (.ref (wB w + 171)), some (.int p1), some (.int p2), none, some (.int a.1)]) (sf := fun a : Int32 × MS => a.2) (fun κ30 b30 r30 a30 => ?_)
    show VV m_X12_leavesFootprints w g 0 0 (QM m_X12_leavesFootprints w g x) κ30 30 [some (.ref (wB w + 171)), some (.int p1), some (.int p2), none, some (.int a30.1)] [] a30.2 (L_X12_leavesFootprints_30 n p1 p2 σ a30)
    refine V_iload (pc := 30) dX12_leavesFootprints_30 rfl ?_
    refine V_iconst (pc := 32) (v := (4 : Int32)) dX12_leavesFootprints_32 rfl ?_
    refine V_icmp_lt (pc := 33) (tgt := 66) dX12_leavesFootprints_33 (by decide) ?_ ?_
    · refine V_exit r30 ?_
      refine V_aload_n (pc := 66) dX12_leavesFootprints_66 rfl rfl ?_
      refine V_getr (pc := 67) (t := 172) fk_X12_13 rfl dX12_leavesFootprints_67 kc_171 rfl ?_
      refine V_sipush (pc := 70) (v := (234 : Int32)) dX12_leavesFootprints_70 rfl ?_
      refine V_aload_n (pc := 73) dX12_leavesFootprints_73 rfl rfl ?_
      refine V_getr (pc := 74) (t := 172) fk_X12_13 rfl dX12_leavesFootprints_74 kc_171 rfl ?_
      refine V_iconst (pc := 77) (v := (3 : Int32)) dX12_leavesFootprints_77 rfl ?_
      refine V_ialdC (pc := 78) (n := 2172) dX12_leavesFootprints_78 kc_172 lc_172 (by decide) ?_
      refine V_iastC (pc := 79) (n := 2172) dX12_leavesFootprints_79 kc_172 lc_172 (by decide) (fun s79 => ?_)
      refine V_aload_n (pc := 80) dX12_leavesFootprints_80 rfl rfl ?_
      refine V_getr (pc := 81) (t := 172) fk_X12_13 rfl dX12_leavesFootprints_81 kc_171 rfl ?_
      refine V_sipush (pc := 84) (v := (235 : Int32)) dX12_leavesFootprints_84 rfl ?_
      refine V_iload_n (pc := 87) dX12_leavesFootprints_87 rfl rfl ?_
      refine V_iastC (pc := 88) (n := 2172) dX12_leavesFootprints_88 kc_172 lc_172 (by decide) (fun s88 => ?_)
      refine V_aload_n (pc := 89) dX12_leavesFootprints_89 rfl rfl ?_
      refine V_getr (pc := 90) (t := 172) fk_X12_13 rfl dX12_leavesFootprints_90 kc_171 rfl ?_
      refine V_sipush (pc := 93) (v := (236 : Int32)) dX12_leavesFootprints_93 rfl ?_
      refine V_iload_n (pc := 96) dX12_leavesFootprints_96 rfl rfl ?_
      refine V_iastC (pc := 97) (n := 2172) dX12_leavesFootprints_97 kc_172 lc_172 (by decide) (fun s97 => ?_)
      refine V_aload_n (pc := 98) dX12_leavesFootprints_98 rfl rfl ?_
      refine V_getr (pc := 99) (t := 172) fk_X12_13 rfl dX12_leavesFootprints_99 kc_171 rfl ?_
      refine V_sipush (pc := 102) (v := (237 : Int32)) dX12_leavesFootprints_102 rfl ?_
      refine V_aload_n (pc := 105) dX12_leavesFootprints_105 rfl rfl ?_
      refine V_iload_n (pc := 106) dX12_leavesFootprints_106 rfl rfl ?_
      refine V_iconst (pc := 107) (v := (0 : Int32)) dX12_leavesFootprints_107 rfl ?_
      refine V_callVpi (pc := 108) (As := [.int p1, .int (0 : Int32)]) (rest := [.int (237 : Int32), .ref (wB w + 172)]) (c_X12_of w p1 (0 : Int32) s97) cw_X12_73 rfl rfl dX12_leavesFootprints_108 kc_171 rfl ⟨Nat.le_of_ble_eq_true rfl, Nat.le_of_ble_eq_true rfl⟩ rfl rfl (Nat.le_of_ble_eq_true rfl) (Nat.le_of_ble_eq_true rfl) (Nat.le_of_ble_eq_true rfl) rfl (fun q108 => ?_)
      refine V_iastC (pc := 111) (n := 2172) dX12_leavesFootprints_111 kc_172 lc_172 (by decide) (fun s111 => ?_)
      refine V_aload_n (pc := 112) dX12_leavesFootprints_112 rfl rfl ?_
      refine V_getr (pc := 113) (t := 172) fk_X12_13 rfl dX12_leavesFootprints_113 kc_171 rfl ?_
      refine V_bipush (pc := 116) (v := (8 : Int32)) dX12_leavesFootprints_116 rfl ?_
      refine V_bipush (pc := 118) (v := (60 : Int32)) dX12_leavesFootprints_118 rfl ?_
      refine V_aload_n (pc := 120) dX12_leavesFootprints_120 rfl rfl ?_
      refine V_getr (pc := 121) (t := 172) fk_X12_13 rfl dX12_leavesFootprints_121 kc_171 rfl ?_
      refine V_bipush (pc := 124) (v := (8 : Int32)) dX12_leavesFootprints_124 rfl ?_
      refine V_ialdC (pc := 126) (n := 2172) dX12_leavesFootprints_126 kc_172 lc_172 (by decide) ?_
      refine V_iconst (pc := 127) (v := (1 : Int32)) dX12_leavesFootprints_127 rfl ?_
      refine V_iadd (pc := 128) dX12_leavesFootprints_128 ?_
      refine V_mmin (pc := 129) dX12_leavesFootprints_129 rfl mw_X12_283 (Nat.le_of_ble_eq_true rfl) (Nat.le_of_ble_eq_true rfl) (Nat.le_of_ble_eq_true rfl) (Nat.le_of_ble_eq_true rfl) ?_
      refine V_iastC (pc := 132) (n := 2172) dX12_leavesFootprints_132 kc_172 lc_172 (by decide) (fun s132 => ?_)
      refine V_aload_n (pc := 133) dX12_leavesFootprints_133 rfl rfl ?_
      refine V_getr (pc := 134) (t := 172) fk_X12_13 rfl dX12_leavesFootprints_134 kc_171 rfl ?_
      refine V_bipush (pc := 137) (v := (7 : Int32)) dX12_leavesFootprints_137 rfl ?_
      refine V_dup2 (pc := 139) dX12_leavesFootprints_139 rfl rfl ?_
      refine V_ialdC (pc := 140) (n := 2172) dX12_leavesFootprints_140 kc_172 lc_172 (by decide) ?_
      refine V_iconst (pc := 141) (v := (1 : Int32)) dX12_leavesFootprints_141 rfl ?_
      refine V_iadd (pc := 142) dX12_leavesFootprints_142 ?_
      refine V_iastC (pc := 143) (n := 2172) dX12_leavesFootprints_143 kc_172 lc_172 (by decide) (fun s143 => ?_)
      exact V_ret (pc := 144) dX12_leavesFootprints_144 rfl (hk := fun h => h)
    · refine V_aload_n (pc := 36) dX12_leavesFootprints_36 rfl rfl ?_
      refine V_getr (pc := 37) (t := 172) fk_X12_13 rfl dX12_leavesFootprints_37 kc_171 rfl ?_
      refine V_sipush (pc := 40) (v := (234 : Int32)) dX12_leavesFootprints_40 rfl ?_
      refine V_iload (pc := 43) dX12_leavesFootprints_43 rfl ?_
      refine V_iadd (pc := 45) dX12_leavesFootprints_45 ?_
      refine V_aload_n (pc := 46) dX12_leavesFootprints_46 rfl rfl ?_
      refine V_getr (pc := 47) (t := 172) fk_X12_13 rfl dX12_leavesFootprints_47 kc_171 rfl ?_
      refine V_sipush (pc := 50) (v := (234 : Int32)) dX12_leavesFootprints_50 rfl ?_
      refine V_iload (pc := 53) dX12_leavesFootprints_53 rfl ?_
      refine V_iadd (pc := 55) dX12_leavesFootprints_55 ?_
      refine V_iconst (pc := 56) (v := (4 : Int32)) dX12_leavesFootprints_56 rfl ?_
      refine V_isub (pc := 57) dX12_leavesFootprints_57 ?_
      refine V_iald (pc := 58) (n := 2172) dX12_leavesFootprints_58 kc_172 lc_172 ?_
      refine V_iast (pc := 59) (n := 2172) dX12_leavesFootprints_59 kc_172 lc_172 (fun s59 => ?_)
      refine V_iinc (pc := 60) (v := (a30.1 + (-1 : Int32))) (vs' := [some (.ref (wB w + 171)), some (.int p1), some (.int p2), none, some (.int (a30.1 + (-1 : Int32)))]) dX12_leavesFootprints_60 (Nat.le_of_ble_eq_true rfl) rfl rfl rfl ?_
      refine V_goto (pc := 63) (tgt := 30) dX12_leavesFootprints_63 (by decide) ?_
      exact V_back (b30 ((a30.1 + (-1 : Int32)), s59))
  refine V_aload_n (pc := 0) dX12_leavesFootprints_0 rfl rfl ?_
  refine V_iload_n (pc := 1) dX12_leavesFootprints_1 rfl rfl ?_
  refine V_iload_n (pc := 2) dX12_leavesFootprints_2 rfl rfl ?_
  refine V_iconst (pc := 3) (v := (0 : Int32)) dX12_leavesFootprints_3 rfl ?_
  refine V_iconst (pc := 4) (v := (0 : Int32)) dX12_leavesFootprints_4 rfl ?_
  refine V_callVv (pc := 5) (As := [.int p1, .int p2, .int (0 : Int32), .int (0 : Int32)]) (rest := []) (c_X12_looks w p1 p2 (0 : Int32) (0 : Int32) σ) cw_X12_303 rfl rfl dX12_leavesFootprints_5 kc_171 rfl ⟨Nat.le_of_ble_eq_true rfl, Nat.le_of_ble_eq_true rfl⟩ rfl rfl (Nat.le_of_ble_eq_true rfl) (Nat.le_of_ble_eq_true rfl) (Nat.le_of_ble_eq_true rfl) rfl (fun q5 => ?_)
  refine V_aload_n (pc := 8) dX12_leavesFootprints_8 rfl rfl ?_
  refine V_callVi (pc := 9) (As := []) (rest := []) (c_X12_suspectsBy w n  q5.2) cw_X12_309 rfl rfl dX12_leavesFootprints_9 kc_171 rfl ⟨Nat.le_of_ble_eq_true rfl, Nat.le_of_ble_eq_true rfl⟩ rfl rfl (Nat.le_of_ble_eq_true rfl) (Nat.le_of_ble_eq_true rfl) (Nat.le_of_ble_eq_true rfl) rfl (fun q9 => ?_)
  refine V_istore_n (pc := 12) (vs' := [some (.ref (wB w + 171)), some (.int p1), some (.int p2), some (.int q9.1), none]) dX12_leavesFootprints_12 rfl (Nat.le_of_ble_eq_true rfl) (Nat.le_of_ble_eq_true rfl) rfl ?_
  refine V_aload_n (pc := 13) dX12_leavesFootprints_13 rfl rfl ?_
  refine V_iload_n (pc := 14) dX12_leavesFootprints_14 rfl rfl ?_
  refine V_iload_n (pc := 15) dX12_leavesFootprints_15 rfl rfl ?_
  refine V_callVv (pc := 16) (As := [.int p1, .int q9.1]) (rest := []) (c_X12_suspects w p1 q9.1 q9.2) cw_X12_400 rfl rfl dX12_leavesFootprints_16 kc_171 rfl ⟨Nat.le_of_ble_eq_true rfl, Nat.le_of_ble_eq_true rfl⟩ rfl rfl (Nat.le_of_ble_eq_true rfl) (Nat.le_of_ble_eq_true rfl) (Nat.le_of_ble_eq_true rfl) rfl (fun q16 => ?_)
  refine V_aload_n (pc := 19) dX12_leavesFootprints_19 rfl rfl ?_
  refine V_iload_n (pc := 20) dX12_leavesFootprints_20 rfl rfl ?_
  refine V_iload_n (pc := 21) dX12_leavesFootprints_21 rfl rfl ?_
  refine V_callVv (pc := 22) (As := [.int p2, .int q9.1]) (rest := []) (c_X12_suspects w p2 q9.1 q16.2) cw_X12_400 rfl rfl dX12_leavesFootprints_22 kc_171 rfl ⟨Nat.le_of_ble_eq_true rfl, Nat.le_of_ble_eq_true rfl⟩ rfl rfl (Nat.le_of_ble_eq_true rfl) (Nat.le_of_ble_eq_true rfl) (Nat.le_of_ble_eq_true rfl) rfl (fun q22 => ?_)
  refine V_sipush (pc := 25) (v := (239 : Int32)) dX12_leavesFootprints_25 rfl ?_
  refine V_istore (pc := 28) (vs' := [some (.ref (wB w + 171)), some (.int p1), some (.int p2), some (.int q9.1), some (.int (239 : Int32))]) dX12_leavesFootprints_28 (Nat.le_of_ble_eq_true rfl) (Nat.le_of_ble_eq_true rfl) rfl ?_
  refine V_sub (vs' := [some (.ref (wB w + 171)), some (.int p1), some (.int p2), none, some (.int (239 : Int32))]) (show vless _ _ from ⟨rfl, ⟨rfl, ⟨rfl, ⟨rfl, trivial⟩⟩⟩⟩) rfl ?_
  exact hL30 n ((239 : Int32), q22.2)
def J_X12_oneDay_180 (n : Nat) (v2 : Int32) (v3 : Int32) (v4 : Int32) (σ : MS) : Option ((Int32 × MS) ⊕ ((Int32 × MS) ⊕ (Int32 × MS))) := some (.inl ((v4 + (1 : Int32)), σ))
def L_X12_oneDay_88 (n : Nat) (v2 : Int32) (v3 : Int32) (σ : MS) (a88 : Int32 × MS) : Option ((Int32 × MS) ⊕ ((Int32 × MS) ⊕ (Int32 × MS))) := ((f_X12_people  a88.2).bind (fun q91 => (if q91 ≤ a88.1 then (some (.inl ((v3 + (1 : Int32)), a88.2))).map Sum.inr else ((f_X12_of v3 (0 : Int32) a88.2).bind (fun q100 => ((f_X12_of a88.1 (0 : Int32) a88.2).bind (fun q107 => (if q100 = q107 then ((f_X12_at v3 (3 : Int32) a88.2).bind (fun q122 => (if inb q122 2172 then (if inb q122 2172 then ltM (mu a88.2 172 (ix q122) ((a88.2 172 (ix q122)) ||| (shlI (1 : Int32) a88.1))) (fun s132 => ((f_X12_at a88.1 (3 : Int32) s132).bind (fun q140 => (if inb q140 2172 then (if inb q140 2172 then ltM (mu s132 172 (ix q140) ((s132 172 (ix q140)) ||| (shlI (1 : Int32) v3))) (fun s149 => ((f_X12_isSecret v3 a88.1 s149).bind (fun q154 => (if q154 = 0 then J_X12_oneDay_180 n v2 v3 a88.1 s149 else ((f_X12_of v3 (0 : Int32) s149).bind (fun q164 => ((f_X12_hasFlour q164 s149).bind (fun q167 => (if q167 = 0 then J_X12_oneDay_180 n v2 v3 a88.1 s149 else ((f_X12_leavesFootprints n v3 a88.1 s149).bind (fun q177 => J_X12_oneDay_180 n v2 v3 a88.1 q177.2))))))))))) else none) else none)))) else none) else none))) else J_X12_oneDay_180 n v2 v3 a88.1 a88.2))))))))
def L_X12_oneDay_75 (n : Nat) (v2 : Int32) (σ : MS) (a75 : Int32 × MS) : Option ((Int32 × MS) ⊕ (Int32 × MS)) := ((f_X12_people  a75.2).bind (fun q77 => (if q77 ≤ a75.1 then ((ltM (mu a75.2 172 3 (mnI (9999 : Int32) ((a75.2 172 3) + (1 : Int32)))) (fun s211 => some (((s211 172 7) - v2), s211)))).map Sum.inr else itr (L_X12_oneDay_88 n v2 a75.1 σ) n ((a75.1 + (1 : Int32)), a75.2))))
def J_X12_oneDay_67 (n : Nat) (v1 : Int32) (v2 : Int32) (v3 : Int32) (σ : MS) : Option ((Int32 × MS) ⊕ (Int32 × MS)) := some (.inl ((v3 + (1 : Int32)), σ))
def J_X12_oneDay_50 (n : Nat) (v1 : Int32) (v2 : Int32) (v3 : Int32) (v4 : Int32) (σ : MS) : Option ((Int32 × MS) ⊕ (Int32 × MS)) := ((f_X12_at v3 (0 : Int32) σ).bind (fun q56 => ((f_X12_of v4 (0 : Int32) σ).bind (fun q63 => (if inb q56 2172 then ltM (mu σ 172 (ix q56) q63) (fun s66 => J_X12_oneDay_67 n v1 v2 v3 s66) else none)))))
def L_X12_oneDay_10 (n : Nat) (v1 : Int32) (v2 : Int32) (σ : MS) (a10 : Int32 × MS) : Option ((Int32 × MS) ⊕ (Int32 × MS)) := ((f_X12_people  a10.2).bind (fun q12 => (if q12 ≤ a10.1 then (itr (L_X12_oneDay_75 n v2 σ) n ((0 : Int32), a10.2)).map Sum.inr else ((f_X12_mostOf n a10.1 a10.2).bind (fun q20 => (if q20 < 0 then J_X12_oneDay_67 n v1 v2 a10.1 a10.2 else (if v1 = 0 then ((f_X12_drawn (10 : Int32) a10.2).bind (fun q37 => ((f_X12_bondOf a10.1 q20 q37.2).bind (fun q44 => (if q44 ≤ q37.1 then J_X12_oneDay_67 n v1 v2 a10.1 q37.2 else J_X12_oneDay_50 n v1 v2 a10.1 q20 q37.2))))) else J_X12_oneDay_50 n v1 v2 a10.1 q20 a10.2)))))))
def f_X12_oneDay (n : Nat) (p1 : Int32) (σ : MS) : Option (Int32 × MS) := itr (L_X12_oneDay_10 n p1 (σ 172 7) σ) n ((0 : Int32), σ)
set_option maxRecDepth 20000 in
set_option maxHeartbeats 2000000 in
theorem c_X12_oneDay (w : TG) (n : Nat) (p1 : Int32) (σ : MS) : MC m_X12_oneDay w [.ref (wB w + 171), .int p1] σ (f_X12_oneDay n p1 σ) := by
  refine V_meth (by decide +kernel) (Nat.le_of_ble_eq_true rfl) (by intro v hv; simp only [List.mem_cons, List.not_mem_nil, or_false] at hv; rcases hv with rfl | rfl <;> rfl) (fun g x => ?_)
  show VV m_X12_oneDay w g 0 0 (QM m_X12_oneDay w g x) (fun b : Int32 × MS => b = x) 0 [some (.ref (wB w + 171)), some (.int p1), none, none, none] [] σ (f_X12_oneDay n p1 σ)
  have hL75 : ∀ (v2 : Int32) (n0 : Nat) (a : Int32 × MS), VV m_X12_oneDay w g 0 0 (QM m_X12_oneDay w g x) (fun b : Int32 × MS => b = x) 75 [some (.ref (wB w + 171)), none, some (.int v2), some (.int a.1), none] [] a.2 (itr (L_X12_oneDay_75 n v2 σ) n0 a) := by
    intro v2
    refine V_itr (vf := fun a : Int32 × MS => [some (.ref (wB w + 171)), none, some (.int v2), some (.int a.1), none]) (sf := fun a : Int32 × MS => a.2) (fun κ75 b75 r75 a75 => ?_)
    show VV m_X12_oneDay w g 0 0 (QM m_X12_oneDay w g x) κ75 75 [some (.ref (wB w + 171)), none, some (.int v2), some (.int a75.1), none] [] a75.2 (L_X12_oneDay_75 n v2 σ a75)
    have hL88 : ∀ (v3 : Int32) (n0 : Nat) (a : Int32 × MS), VV m_X12_oneDay w g 0 0 (QM m_X12_oneDay w g x) κ75 88 [some (.ref (wB w + 171)), none, some (.int v2), some (.int v3), some (.int a.1)] [] a.2 (itr (L_X12_oneDay_88 n v2 v3 σ) n0 a) := by
      intro v3
      refine V_itr (vf := fun a : Int32 × MS => [some (.ref (wB w + 171)), none, some (.int v2), some (.int v3), some (.int a.1)]) (sf := fun a : Int32 × MS => a.2) (fun κ88 b88 r88 a88 => ?_)
      show VV m_X12_oneDay w g 0 0 (QM m_X12_oneDay w g x) κ88 88 [some (.ref (wB w + 171)), none, some (.int v2), some (.int v3), some (.int a88.1)] [] a88.2 (L_X12_oneDay_88 n v2 v3 σ a88)
      have hJ180 : ∀ (v4 : Int32) (σ : MS), VV m_X12_oneDay w g 0 0 (QM m_X12_oneDay w g x) κ88 180 [some (.ref (wB w + 171)), none, some (.int v2), some (.int v3), some (.int v4)] [] σ (J_X12_oneDay_180 n v2 v3 v4 σ) := by
        intro v4 σ
        refine V_iinc (pc := 180) (v := (v4 + (1 : Int32))) (vs' := [some (.ref (wB w + 171)), none, some (.int v2), some (.int v3), some (.int (v4 + (1 : Int32)))]) dX12_oneDay_180 (Nat.le_of_ble_eq_true rfl) rfl rfl rfl ?_
        refine V_goto (pc := 183) (tgt := 88) dX12_oneDay_183 (by decide) ?_
        exact V_back (b88 ((v4 + (1 : Int32)), σ))
      refine V_iload (pc := 88) dX12_oneDay_88 rfl ?_
      refine V_aload_n (pc := 90) dX12_oneDay_90 rfl rfl ?_
      refine V_callVpi (pc := 91) (As := []) (rest := [.int a88.1]) (c_X12_people w  a88.2) cw_X12_58 rfl rfl dX12_oneDay_91 kc_171 rfl ⟨Nat.le_of_ble_eq_true rfl, Nat.le_of_ble_eq_true rfl⟩ rfl rfl (Nat.le_of_ble_eq_true rfl) (Nat.le_of_ble_eq_true rfl) (Nat.le_of_ble_eq_true rfl) rfl (fun q91 => ?_)
      refine V_icmp_ge (pc := 94) (tgt := 186) dX12_oneDay_94 (by decide) ?_ ?_
      · refine V_exit r88 ?_
        refine V_iinc (pc := 186) (v := (v3 + (1 : Int32))) (vs' := [some (.ref (wB w + 171)), none, some (.int v2), some (.int (v3 + (1 : Int32))), some (.int a88.1)]) dX12_oneDay_186 (Nat.le_of_ble_eq_true rfl) rfl rfl rfl ?_
        refine V_goto (pc := 189) (tgt := 75) dX12_oneDay_189 (by decide) ?_
        refine V_sub (vs' := [some (.ref (wB w + 171)), none, some (.int v2), some (.int (v3 + (1 : Int32))), none]) (show vless _ _ from ⟨rfl, ⟨rfl, ⟨rfl, trivial⟩⟩⟩) rfl ?_
        exact V_back (b75 ((v3 + (1 : Int32)), a88.2))
      · refine V_aload_n (pc := 97) dX12_oneDay_97 rfl rfl ?_
        refine V_iload_n (pc := 98) dX12_oneDay_98 rfl rfl ?_
        refine V_iconst (pc := 99) (v := (0 : Int32)) dX12_oneDay_99 rfl ?_
        refine V_callVpi (pc := 100) (As := [.int v3, .int (0 : Int32)]) (rest := []) (c_X12_of w v3 (0 : Int32) a88.2) cw_X12_73 rfl rfl dX12_oneDay_100 kc_171 rfl ⟨Nat.le_of_ble_eq_true rfl, Nat.le_of_ble_eq_true rfl⟩ rfl rfl (Nat.le_of_ble_eq_true rfl) (Nat.le_of_ble_eq_true rfl) (Nat.le_of_ble_eq_true rfl) rfl (fun q100 => ?_)
        refine V_aload_n (pc := 103) dX12_oneDay_103 rfl rfl ?_
        refine V_iload (pc := 104) dX12_oneDay_104 rfl ?_
        refine V_iconst (pc := 106) (v := (0 : Int32)) dX12_oneDay_106 rfl ?_
        refine V_callVpi (pc := 107) (As := [.int a88.1, .int (0 : Int32)]) (rest := [.int q100]) (c_X12_of w a88.1 (0 : Int32) a88.2) cw_X12_73 rfl rfl dX12_oneDay_107 kc_171 rfl ⟨Nat.le_of_ble_eq_true rfl, Nat.le_of_ble_eq_true rfl⟩ rfl rfl (Nat.le_of_ble_eq_true rfl) (Nat.le_of_ble_eq_true rfl) (Nat.le_of_ble_eq_true rfl) rfl (fun q107 => ?_)
        refine V_icmp_eq (pc := 110) (tgt := 116) dX12_oneDay_110 (by decide) ?_ ?_
        · refine V_aload_n (pc := 116) dX12_oneDay_116 rfl rfl ?_
          refine V_getr (pc := 117) (t := 172) fk_X12_13 rfl dX12_oneDay_117 kc_171 rfl ?_
          refine V_iload_n (pc := 120) dX12_oneDay_120 rfl rfl ?_
          refine V_iconst (pc := 121) (v := (3 : Int32)) dX12_oneDay_121 rfl ?_
          refine V_callSpi (pc := 122) (As := [.int v3, .int (3 : Int32)]) (rest := [.ref (wB w + 172)]) (c_X12_at w v3 (3 : Int32) a88.2) cs_X12_62 rfl rfl dX12_oneDay_122 ⟨Nat.le_of_ble_eq_true rfl, Nat.le_of_ble_eq_true rfl⟩ rfl rfl (Nat.le_of_ble_eq_true rfl) (Nat.le_of_ble_eq_true rfl) (Nat.le_of_ble_eq_true rfl) rfl (fun q122 => ?_)
          refine V_dup2 (pc := 125) dX12_oneDay_125 rfl rfl ?_
          refine V_iald (pc := 126) (n := 2172) dX12_oneDay_126 kc_172 lc_172 ?_
          refine V_iconst (pc := 127) (v := (1 : Int32)) dX12_oneDay_127 rfl ?_
          refine V_iload (pc := 128) dX12_oneDay_128 rfl ?_
          refine V_ishl (pc := 130) dX12_oneDay_130 ?_
          refine V_ior (pc := 131) dX12_oneDay_131 ?_
          refine V_iast (pc := 132) (n := 2172) dX12_oneDay_132 kc_172 lc_172 (fun s132 => ?_)
          refine V_aload_n (pc := 133) dX12_oneDay_133 rfl rfl ?_
          refine V_getr (pc := 134) (t := 172) fk_X12_13 rfl dX12_oneDay_134 kc_171 rfl ?_
          refine V_iload (pc := 137) dX12_oneDay_137 rfl ?_
          refine V_iconst (pc := 139) (v := (3 : Int32)) dX12_oneDay_139 rfl ?_
          refine V_callSpi (pc := 140) (As := [.int a88.1, .int (3 : Int32)]) (rest := [.ref (wB w + 172)]) (c_X12_at w a88.1 (3 : Int32) s132) cs_X12_62 rfl rfl dX12_oneDay_140 ⟨Nat.le_of_ble_eq_true rfl, Nat.le_of_ble_eq_true rfl⟩ rfl rfl (Nat.le_of_ble_eq_true rfl) (Nat.le_of_ble_eq_true rfl) (Nat.le_of_ble_eq_true rfl) rfl (fun q140 => ?_)
          refine V_dup2 (pc := 143) dX12_oneDay_143 rfl rfl ?_
          refine V_iald (pc := 144) (n := 2172) dX12_oneDay_144 kc_172 lc_172 ?_
          refine V_iconst (pc := 145) (v := (1 : Int32)) dX12_oneDay_145 rfl ?_
          refine V_iload_n (pc := 146) dX12_oneDay_146 rfl rfl ?_
          refine V_ishl (pc := 147) dX12_oneDay_147 ?_
          refine V_ior (pc := 148) dX12_oneDay_148 ?_
          refine V_iast (pc := 149) (n := 2172) dX12_oneDay_149 kc_172 lc_172 (fun s149 => ?_)
          refine V_aload_n (pc := 150) dX12_oneDay_150 rfl rfl ?_
          refine V_iload_n (pc := 151) dX12_oneDay_151 rfl rfl ?_
          refine V_iload (pc := 152) dX12_oneDay_152 rfl ?_
          refine V_callVpi (pc := 154) (As := [.int v3, .int a88.1]) (rest := []) (c_X12_isSecret w v3 a88.1 s149) cw_X12_372 rfl rfl dX12_oneDay_154 kc_171 rfl ⟨Nat.le_of_ble_eq_true rfl, Nat.le_of_ble_eq_true rfl⟩ rfl rfl (Nat.le_of_ble_eq_true rfl) (Nat.le_of_ble_eq_true rfl) (Nat.le_of_ble_eq_true rfl) rfl (fun q154 => ?_)
          refine V_if_eq (pc := 157) (tgt := 180) dX12_oneDay_157 (by decide) ?_ ?_
          · exact hJ180 a88.1 s149
          · refine V_aload_n (pc := 160) dX12_oneDay_160 rfl rfl ?_
            refine V_aload_n (pc := 161) dX12_oneDay_161 rfl rfl ?_
            refine V_iload_n (pc := 162) dX12_oneDay_162 rfl rfl ?_
            refine V_iconst (pc := 163) (v := (0 : Int32)) dX12_oneDay_163 rfl ?_
            refine V_callVpi (pc := 164) (As := [.int v3, .int (0 : Int32)]) (rest := [.ref (wB w + 171)]) (c_X12_of w v3 (0 : Int32) s149) cw_X12_73 rfl rfl dX12_oneDay_164 kc_171 rfl ⟨Nat.le_of_ble_eq_true rfl, Nat.le_of_ble_eq_true rfl⟩ rfl rfl (Nat.le_of_ble_eq_true rfl) (Nat.le_of_ble_eq_true rfl) (Nat.le_of_ble_eq_true rfl) rfl (fun q164 => ?_)
            refine V_callVpi (pc := 167) (As := [.int q164]) (rest := []) (c_X12_hasFlour w q164 s149) cw_X12_397 rfl rfl dX12_oneDay_167 kc_171 rfl ⟨Nat.le_of_ble_eq_true rfl, Nat.le_of_ble_eq_true rfl⟩ rfl rfl (Nat.le_of_ble_eq_true rfl) (Nat.le_of_ble_eq_true rfl) (Nat.le_of_ble_eq_true rfl) rfl (fun q167 => ?_)
            refine V_if_eq (pc := 170) (tgt := 180) dX12_oneDay_170 (by decide) ?_ ?_
            · exact hJ180 a88.1 s149
            · refine V_aload_n (pc := 173) dX12_oneDay_173 rfl rfl ?_
              refine V_iload_n (pc := 174) dX12_oneDay_174 rfl rfl ?_
              refine V_iload (pc := 175) dX12_oneDay_175 rfl ?_
              refine V_callVv (pc := 177) (As := [.int v3, .int a88.1]) (rest := []) (c_X12_leavesFootprints w n v3 a88.1 s149) cw_X12_406 rfl rfl dX12_oneDay_177 kc_171 rfl ⟨Nat.le_of_ble_eq_true rfl, Nat.le_of_ble_eq_true rfl⟩ rfl rfl (Nat.le_of_ble_eq_true rfl) (Nat.le_of_ble_eq_true rfl) (Nat.le_of_ble_eq_true rfl) rfl (fun q177 => ?_)
              exact hJ180 a88.1 q177.2
        · refine V_goto (pc := 113) (tgt := 180) dX12_oneDay_113 (by decide) ?_
          exact hJ180 a88.1 a88.2
    refine V_iload_n (pc := 75) dX12_oneDay_75 rfl rfl ?_
    refine V_aload_n (pc := 76) dX12_oneDay_76 rfl rfl ?_
    refine V_callVpi (pc := 77) (As := []) (rest := [.int a75.1]) (c_X12_people w  a75.2) cw_X12_58 rfl rfl dX12_oneDay_77 kc_171 rfl ⟨Nat.le_of_ble_eq_true rfl, Nat.le_of_ble_eq_true rfl⟩ rfl rfl (Nat.le_of_ble_eq_true rfl) (Nat.le_of_ble_eq_true rfl) (Nat.le_of_ble_eq_true rfl) rfl (fun q77 => ?_)
    refine V_icmp_ge (pc := 80) (tgt := 192) dX12_oneDay_80 (by decide) ?_ ?_
    · refine V_exit r75 ?_
      refine V_aload_n (pc := 192) dX12_oneDay_192 rfl rfl ?_
      refine V_getr (pc := 193) (t := 172) fk_X12_13 rfl dX12_oneDay_193 kc_171 rfl ?_
      refine V_iconst (pc := 196) (v := (3 : Int32)) dX12_oneDay_196 rfl ?_
      refine V_sipush (pc := 197) (v := (9999 : Int32)) dX12_oneDay_197 rfl ?_
      refine V_aload_n (pc := 200) dX12_oneDay_200 rfl rfl ?_
      refine V_getr (pc := 201) (t := 172) fk_X12_13 rfl dX12_oneDay_201 kc_171 rfl ?_
      refine V_iconst (pc := 204) (v := (3 : Int32)) dX12_oneDay_204 rfl ?_
      refine V_ialdC (pc := 205) (n := 2172) dX12_oneDay_205 kc_172 lc_172 (by decide) ?_
      refine V_iconst (pc := 206) (v := (1 : Int32)) dX12_oneDay_206 rfl ?_
      refine V_iadd (pc := 207) dX12_oneDay_207 ?_
      refine V_mmin (pc := 208) dX12_oneDay_208 rfl mw_X12_283 (Nat.le_of_ble_eq_true rfl) (Nat.le_of_ble_eq_true rfl) (Nat.le_of_ble_eq_true rfl) (Nat.le_of_ble_eq_true rfl) ?_
      refine V_iastC (pc := 211) (n := 2172) dX12_oneDay_211 kc_172 lc_172 (by decide) (fun s211 => ?_)
      refine V_aload_n (pc := 212) dX12_oneDay_212 rfl rfl ?_
      refine V_getr (pc := 213) (t := 172) fk_X12_13 rfl dX12_oneDay_213 kc_171 rfl ?_
      refine V_bipush (pc := 216) (v := (7 : Int32)) dX12_oneDay_216 rfl ?_
      refine V_ialdC (pc := 218) (n := 2172) dX12_oneDay_218 kc_172 lc_172 (by decide) ?_
      refine V_iload_n (pc := 219) dX12_oneDay_219 rfl rfl ?_
      refine V_isub (pc := 220) dX12_oneDay_220 ?_
      exact V_ireti (pc := 221) dX12_oneDay_221 rfl (hk := fun h => h)
    · refine V_iload_n (pc := 83) dX12_oneDay_83 rfl rfl ?_
      refine V_iconst (pc := 84) (v := (1 : Int32)) dX12_oneDay_84 rfl ?_
      refine V_iadd (pc := 85) dX12_oneDay_85 ?_
      refine V_istore (pc := 86) (vs' := [some (.ref (wB w + 171)), none, some (.int v2), some (.int a75.1), some (.int (a75.1 + (1 : Int32)))]) dX12_oneDay_86 (Nat.le_of_ble_eq_true rfl) (Nat.le_of_ble_eq_true rfl) rfl ?_
      exact hL88 a75.1 n ((a75.1 + (1 : Int32)), a75.2)
  have hL10 : ∀ (v2 : Int32) (n0 : Nat) (a : Int32 × MS), VV m_X12_oneDay w g 0 0 (QM m_X12_oneDay w g x) (fun b : Int32 × MS => b = x) 10 [some (.ref (wB w + 171)), some (.int p1), some (.int v2), some (.int a.1), none] [] a.2 (itr (L_X12_oneDay_10 n p1 v2 σ) n0 a) := by
    intro v2
    refine V_itr (vf := fun a : Int32 × MS => [some (.ref (wB w + 171)), some (.int p1), some (.int v2), some (.int a.1), none]) (sf := fun a : Int32 × MS => a.2) (fun κ10 b10 r10 a10 => ?_)
    show VV m_X12_oneDay w g 0 0 (QM m_X12_oneDay w g x) κ10 10 [some (.ref (wB w + 171)), some (.int p1), some (.int v2), some (.int a10.1), none] [] a10.2 (L_X12_oneDay_10 n p1 v2 σ a10)
    have hJ67 : ∀ (v3 : Int32) (σ : MS), VV m_X12_oneDay w g 0 0 (QM m_X12_oneDay w g x) κ10 67 [some (.ref (wB w + 171)), some (.int p1), some (.int v2), some (.int v3), none] [] σ (J_X12_oneDay_67 n p1 v2 v3 σ) := by
      intro v3 σ
      refine V_iinc (pc := 67) (v := (v3 + (1 : Int32))) (vs' := [some (.ref (wB w + 171)), some (.int p1), some (.int v2), some (.int (v3 + (1 : Int32))), none]) dX12_oneDay_67 (Nat.le_of_ble_eq_true rfl) rfl rfl rfl ?_
      refine V_goto (pc := 70) (tgt := 10) dX12_oneDay_70 (by decide) ?_
      exact V_back (b10 ((v3 + (1 : Int32)), σ))
    have hJ50 : ∀ (v3 : Int32) (v4 : Int32) (σ : MS), VV m_X12_oneDay w g 0 0 (QM m_X12_oneDay w g x) κ10 50 [some (.ref (wB w + 171)), some (.int p1), some (.int v2), some (.int v3), some (.int v4)] [] σ (J_X12_oneDay_50 n p1 v2 v3 v4 σ) := by
      intro v3 v4 σ
      refine V_aload_n (pc := 50) dX12_oneDay_50 rfl rfl ?_
      refine V_getr (pc := 51) (t := 172) fk_X12_13 rfl dX12_oneDay_51 kc_171 rfl ?_
      refine V_iload_n (pc := 54) dX12_oneDay_54 rfl rfl ?_
      refine V_iconst (pc := 55) (v := (0 : Int32)) dX12_oneDay_55 rfl ?_
      refine V_callSpi (pc := 56) (As := [.int v3, .int (0 : Int32)]) (rest := [.ref (wB w + 172)]) (c_X12_at w v3 (0 : Int32) σ) cs_X12_62 rfl rfl dX12_oneDay_56 ⟨Nat.le_of_ble_eq_true rfl, Nat.le_of_ble_eq_true rfl⟩ rfl rfl (Nat.le_of_ble_eq_true rfl) (Nat.le_of_ble_eq_true rfl) (Nat.le_of_ble_eq_true rfl) rfl (fun q56 => ?_)
      refine V_aload_n (pc := 59) dX12_oneDay_59 rfl rfl ?_
      refine V_iload (pc := 60) dX12_oneDay_60 rfl ?_
      refine V_iconst (pc := 62) (v := (0 : Int32)) dX12_oneDay_62 rfl ?_
      refine V_callVpi (pc := 63) (As := [.int v4, .int (0 : Int32)]) (rest := [.int q56, .ref (wB w + 172)]) (c_X12_of w v4 (0 : Int32) σ) cw_X12_73 rfl rfl dX12_oneDay_63 kc_171 rfl ⟨Nat.le_of_ble_eq_true rfl, Nat.le_of_ble_eq_true rfl⟩ rfl rfl (Nat.le_of_ble_eq_true rfl) (Nat.le_of_ble_eq_true rfl) (Nat.le_of_ble_eq_true rfl) rfl (fun q63 => ?_)
      refine V_iast (pc := 66) (n := 2172) dX12_oneDay_66 kc_172 lc_172 (fun s66 => ?_)
      refine V_sub (vs' := [some (.ref (wB w + 171)), some (.int p1), some (.int v2), some (.int v3), none]) (show vless _ _ from ⟨rfl, ⟨rfl, ⟨rfl, ⟨rfl, trivial⟩⟩⟩⟩) rfl ?_
      exact hJ67 v3 s66
    refine V_iload_n (pc := 10) dX12_oneDay_10 rfl rfl ?_
    refine V_aload_n (pc := 11) dX12_oneDay_11 rfl rfl ?_
    refine V_callVpi (pc := 12) (As := []) (rest := [.int a10.1]) (c_X12_people w  a10.2) cw_X12_58 rfl rfl dX12_oneDay_12 kc_171 rfl ⟨Nat.le_of_ble_eq_true rfl, Nat.le_of_ble_eq_true rfl⟩ rfl rfl (Nat.le_of_ble_eq_true rfl) (Nat.le_of_ble_eq_true rfl) (Nat.le_of_ble_eq_true rfl) rfl (fun q12 => ?_)
    refine V_icmp_ge (pc := 15) (tgt := 73) dX12_oneDay_15 (by decide) ?_ ?_
    · refine V_exit r10 ?_
      refine V_iconst (pc := 73) (v := (0 : Int32)) dX12_oneDay_73 rfl ?_
      refine V_istore_n (pc := 74) (vs' := [some (.ref (wB w + 171)), some (.int p1), some (.int v2), some (.int (0 : Int32)), none]) dX12_oneDay_74 rfl (Nat.le_of_ble_eq_true rfl) (Nat.le_of_ble_eq_true rfl) rfl ?_
      refine V_sub (vs' := [some (.ref (wB w + 171)), none, some (.int v2), some (.int (0 : Int32)), none]) (show vless _ _ from ⟨rfl, ⟨rfl, ⟨rfl, trivial⟩⟩⟩) rfl ?_
      exact hL75 v2 n ((0 : Int32), a10.2)
    · refine V_aload_n (pc := 18) dX12_oneDay_18 rfl rfl ?_
      refine V_iload_n (pc := 19) dX12_oneDay_19 rfl rfl ?_
      refine V_callVpi (pc := 20) (As := [.int a10.1]) (rest := []) (c_X12_mostOf w n a10.1 a10.2) cw_X12_354 rfl rfl dX12_oneDay_20 kc_171 rfl ⟨Nat.le_of_ble_eq_true rfl, Nat.le_of_ble_eq_true rfl⟩ rfl rfl (Nat.le_of_ble_eq_true rfl) (Nat.le_of_ble_eq_true rfl) (Nat.le_of_ble_eq_true rfl) rfl (fun q20 => ?_)
      refine V_istore (pc := 23) (vs' := [some (.ref (wB w + 171)), some (.int p1), some (.int v2), some (.int a10.1), some (.int q20)]) dX12_oneDay_23 (Nat.le_of_ble_eq_true rfl) (Nat.le_of_ble_eq_true rfl) rfl ?_
      refine V_iload (pc := 25) dX12_oneDay_25 rfl ?_
      refine V_if_lt (pc := 27) (tgt := 67) dX12_oneDay_27 (by decide) ?_ ?_
      · refine V_sub (vs' := [some (.ref (wB w + 171)), some (.int p1), some (.int v2), some (.int a10.1), none]) (show vless _ _ from ⟨rfl, ⟨rfl, ⟨rfl, ⟨rfl, trivial⟩⟩⟩⟩) rfl ?_
        exact hJ67 a10.1 a10.2
      · refine V_iload_n (pc := 30) dX12_oneDay_30 rfl rfl ?_
        refine V_if_ne (pc := 31) (tgt := 50) dX12_oneDay_31 (by decide) ?_ ?_
        · exact hJ50 a10.1 q20 a10.2
        · refine V_aload_n (pc := 34) dX12_oneDay_34 rfl rfl ?_
          refine V_bipush (pc := 35) (v := (10 : Int32)) dX12_oneDay_35 rfl ?_
          refine V_callVi (pc := 37) (As := [.int (10 : Int32)]) (rest := []) (c_X12_drawn w (10 : Int32) a10.2) cw_X12_403 rfl rfl dX12_oneDay_37 kc_171 rfl ⟨Nat.le_of_ble_eq_true rfl, Nat.le_of_ble_eq_true rfl⟩ rfl rfl (Nat.le_of_ble_eq_true rfl) (Nat.le_of_ble_eq_true rfl) (Nat.le_of_ble_eq_true rfl) rfl (fun q37 => ?_)
          refine V_aload_n (pc := 40) dX12_oneDay_40 rfl rfl ?_
          refine V_iload_n (pc := 41) dX12_oneDay_41 rfl rfl ?_
          refine V_iload (pc := 42) dX12_oneDay_42 rfl ?_
          refine V_callVpi (pc := 44) (As := [.int a10.1, .int q20]) (rest := [.int q37.1]) (c_X12_bondOf w a10.1 q20 q37.2) cw_X12_315 rfl rfl dX12_oneDay_44 kc_171 rfl ⟨Nat.le_of_ble_eq_true rfl, Nat.le_of_ble_eq_true rfl⟩ rfl rfl (Nat.le_of_ble_eq_true rfl) (Nat.le_of_ble_eq_true rfl) (Nat.le_of_ble_eq_true rfl) rfl (fun q44 => ?_)
          refine V_icmp_ge (pc := 47) (tgt := 67) dX12_oneDay_47 (by decide) ?_ ?_
          · refine V_sub (vs' := [some (.ref (wB w + 171)), some (.int p1), some (.int v2), some (.int a10.1), none]) (show vless _ _ from ⟨rfl, ⟨rfl, ⟨rfl, ⟨rfl, trivial⟩⟩⟩⟩) rfl ?_
            exact hJ67 a10.1 q37.2
          · exact hJ50 a10.1 q20 q37.2
  refine V_aload_n (pc := 0) dX12_oneDay_0 rfl rfl ?_
  refine V_getr (pc := 1) (t := 172) fk_X12_13 rfl dX12_oneDay_1 kc_171 rfl ?_
  refine V_bipush (pc := 4) (v := (7 : Int32)) dX12_oneDay_4 rfl ?_
  refine V_ialdC (pc := 6) (n := 2172) dX12_oneDay_6 kc_172 lc_172 (by decide) ?_
  refine V_istore_n (pc := 7) (vs' := [some (.ref (wB w + 171)), some (.int p1), some (.int (σ 172 7)), none, none]) dX12_oneDay_7 rfl (Nat.le_of_ble_eq_true rfl) (Nat.le_of_ble_eq_true rfl) rfl ?_
  refine V_iconst (pc := 8) (v := (0 : Int32)) dX12_oneDay_8 rfl ?_
  refine V_istore_n (pc := 9) (vs' := [some (.ref (wB w + 171)), some (.int p1), some (.int (σ 172 7)), some (.int (0 : Int32)), none]) dX12_oneDay_9 rfl (Nat.le_of_ble_eq_true rfl) (Nat.le_of_ble_eq_true rfl) rfl ?_
  exact hL10 (σ 172 7) n ((0 : Int32), σ)
def L_X12_days_38 (n : Nat) (v1 : Int32) (σ : MS) (a38 : Int32 × Int32 × MS) : Option ((Int32 × Int32 × MS) ⊕ (Int32 × MS)) := (if v1 ≤ a38.2.1 then (some (a38.1, a38.2.2)).map Sum.inr else ((f_X12_oneDay n (0 : Int32) a38.2.2).bind (fun q46 => some (.inl ((a38.1 + q46.1), (a38.2.1 + (1 : Int32)), q46.2)))))
def J_X12_days_21 (n : Nat) (v1 : Int32) (t0 : Int32) (σ : MS) : Option (Int32 × MS) := ((f_X12_throwsIf t0 (1 : Int32) σ).bind (fun q22 => (if q22.1 = 0 then ((f_X12_remembers n  q22.2).bind (fun q31 => itr (L_X12_days_38 n v1 σ) n ((0 : Int32), (0 : Int32), q31.2))) else some ((0 : Int32), q22.2))))
def f_X12_days (n : Nat) (p1 : Int32) (σ : MS) : Option (Int32 × MS) := (ltM (mu σ 171 0 (0 : Int32)) (fun s2 => ((f_X12_in p1 (1 : Int32) (60 : Int32) s2).bind (fun q10 => (if q10 = 0 then J_X12_days_21 n p1 (1 : Int32) s2 else J_X12_days_21 n p1 (0 : Int32) s2)))))
set_option maxRecDepth 20000 in
set_option maxHeartbeats 2000000 in
theorem c_X12_days (w : TG) (n : Nat) (p1 : Int32) (σ : MS) : MC m_X12_days w [.ref (wB w + 171), .int p1] σ (f_X12_days n p1 σ) := by
  refine V_meth (by decide +kernel) (Nat.le_of_ble_eq_true rfl) (by intro v hv; simp only [List.mem_cons, List.not_mem_nil, or_false] at hv; rcases hv with rfl | rfl <;> rfl) (fun g x => ?_)
  show VV m_X12_days w g 0 0 (QM m_X12_days w g x) (fun b : Int32 × MS => b = x) 0 [some (.ref (wB w + 171)), some (.int p1), none, none] [] σ (f_X12_days n p1 σ)
  have hL38 : ∀  (n0 : Nat) (a : Int32 × Int32 × MS), VV m_X12_days w g 0 0 (QM m_X12_days w g x) (fun b : Int32 × MS => b = x) 38 [some (.ref (wB w + 171)), some (.int p1), some (.int a.1), some (.int a.2.1)] [] a.2.2 (itr (L_X12_days_38 n p1 σ) n0 a) := by
    refine V_itr (vf := fun a : Int32 × Int32 × MS => [some (.ref (wB w + 171)), some (.int p1), some (.int a.1), some (.int a.2.1)]) (sf := fun a : Int32 × Int32 × MS => a.2.2) (fun κ38 b38 r38 a38 => ?_)
    show VV m_X12_days w g 0 0 (QM m_X12_days w g x) κ38 38 [some (.ref (wB w + 171)), some (.int p1), some (.int a38.1), some (.int a38.2.1)] [] a38.2.2 (L_X12_days_38 n p1 σ a38)
    refine V_iload_n (pc := 38) dX12_days_38 rfl rfl ?_
    refine V_iload_n (pc := 39) dX12_days_39 rfl rfl ?_
    refine V_icmp_ge (pc := 40) (tgt := 57) dX12_days_40 (by decide) ?_ ?_
    · refine V_exit r38 ?_
      refine V_iload_n (pc := 57) dX12_days_57 rfl rfl ?_
      exact V_ireti (pc := 58) dX12_days_58 rfl (hk := fun h => h)
    · refine V_iload_n (pc := 43) dX12_days_43 rfl rfl ?_
      refine V_aload_n (pc := 44) dX12_days_44 rfl rfl ?_
      refine V_iconst (pc := 45) (v := (0 : Int32)) dX12_days_45 rfl ?_
      refine V_callVi (pc := 46) (As := [.int (0 : Int32)]) (rest := [.int a38.1]) (c_X12_oneDay w n (0 : Int32) a38.2.2) cw_X12_409 rfl rfl dX12_days_46 kc_171 rfl ⟨Nat.le_of_ble_eq_true rfl, Nat.le_of_ble_eq_true rfl⟩ rfl rfl (Nat.le_of_ble_eq_true rfl) (Nat.le_of_ble_eq_true rfl) (Nat.le_of_ble_eq_true rfl) rfl (fun q46 => ?_)
      refine V_iadd (pc := 49) dX12_days_49 ?_
      refine V_istore_n (pc := 50) (vs' := [some (.ref (wB w + 171)), some (.int p1), some (.int (a38.1 + q46.1)), some (.int a38.2.1)]) dX12_days_50 rfl (Nat.le_of_ble_eq_true rfl) (Nat.le_of_ble_eq_true rfl) rfl ?_
      refine V_iinc (pc := 51) (v := (a38.2.1 + (1 : Int32))) (vs' := [some (.ref (wB w + 171)), some (.int p1), some (.int (a38.1 + q46.1)), some (.int (a38.2.1 + (1 : Int32)))]) dX12_days_51 (Nat.le_of_ble_eq_true rfl) rfl rfl rfl ?_
      refine V_goto (pc := 54) (tgt := 38) dX12_days_54 (by decide) ?_
      exact V_back (b38 ((a38.1 + q46.1), (a38.2.1 + (1 : Int32)), q46.2))
  have hJ21 : ∀ (t0 : Int32) (σ : MS), VV m_X12_days w g 0 0 (QM m_X12_days w g x) (fun b : Int32 × MS => b = x) 21 [some (.ref (wB w + 171)), some (.int p1), none, none] [.int t0, .ref (wB w + 171)] σ (J_X12_days_21 n p1 t0 σ) := by
    intro t0 σ
    refine V_iconst (pc := 21) (v := (1 : Int32)) dX12_days_21 rfl ?_
    refine V_callVi (pc := 22) (As := [.int t0, .int (1 : Int32)]) (rest := []) (c_X12_throwsIf w t0 (1 : Int32) σ) cw_X12_257 rfl rfl dX12_days_22 kc_171 rfl ⟨Nat.le_of_ble_eq_true rfl, Nat.le_of_ble_eq_true rfl⟩ rfl rfl (Nat.le_of_ble_eq_true rfl) (Nat.le_of_ble_eq_true rfl) (Nat.le_of_ble_eq_true rfl) rfl (fun q22 => ?_)
    refine V_if_eq (pc := 25) (tgt := 30) dX12_days_25 (by decide) ?_ ?_
    · refine V_aload_n (pc := 30) dX12_days_30 rfl rfl ?_
      refine V_callVv (pc := 31) (As := []) (rest := []) (c_X12_remembers w n  q22.2) cw_X12_333 rfl rfl dX12_days_31 kc_171 rfl ⟨Nat.le_of_ble_eq_true rfl, Nat.le_of_ble_eq_true rfl⟩ rfl rfl (Nat.le_of_ble_eq_true rfl) (Nat.le_of_ble_eq_true rfl) (Nat.le_of_ble_eq_true rfl) rfl (fun q31 => ?_)
      refine V_iconst (pc := 34) (v := (0 : Int32)) dX12_days_34 rfl ?_
      refine V_istore_n (pc := 35) (vs' := [some (.ref (wB w + 171)), some (.int p1), some (.int (0 : Int32)), none]) dX12_days_35 rfl (Nat.le_of_ble_eq_true rfl) (Nat.le_of_ble_eq_true rfl) rfl ?_
      refine V_iconst (pc := 36) (v := (0 : Int32)) dX12_days_36 rfl ?_
      refine V_istore_n (pc := 37) (vs' := [some (.ref (wB w + 171)), some (.int p1), some (.int (0 : Int32)), some (.int (0 : Int32))]) dX12_days_37 rfl (Nat.le_of_ble_eq_true rfl) (Nat.le_of_ble_eq_true rfl) rfl ?_
      exact hL38 n ((0 : Int32), (0 : Int32), q31.2)
    · refine V_iconst (pc := 28) (v := (0 : Int32)) dX12_days_28 rfl ?_
      exact V_ireti (pc := 29) dX12_days_29 rfl (hk := fun h => h)
  refine V_aload_n (pc := 0) dX12_days_0 rfl rfl ?_
  refine V_iconst (pc := 1) (v := (0 : Int32)) dX12_days_1 rfl ?_
  refine V_puti (pc := 2) fp_X12_3 rfl dX12_days_2 kc_171 rfl (fun s2 => ?_)
  refine V_aload_n (pc := 5) dX12_days_5 rfl rfl ?_
  refine V_iload_n (pc := 6) dX12_days_6 rfl rfl ?_
  refine V_iconst (pc := 7) (v := (1 : Int32)) dX12_days_7 rfl ?_
  refine V_bipush (pc := 8) (v := (60 : Int32)) dX12_days_8 rfl ?_
  refine V_callSpi (pc := 10) (As := [.int p1, .int (1 : Int32), .int (60 : Int32)]) (rest := [.ref (wB w + 171)]) (c_X12_in w p1 (1 : Int32) (60 : Int32) s2) cs_X12_79 rfl rfl dX12_days_10 ⟨Nat.le_of_ble_eq_true rfl, Nat.le_of_ble_eq_true rfl⟩ rfl rfl (Nat.le_of_ble_eq_true rfl) (Nat.le_of_ble_eq_true rfl) (Nat.le_of_ble_eq_true rfl) rfl (fun q10 => ?_)
  refine V_if_ne (pc := 13) (tgt := 20) dX12_days_13 (by decide) ?_ ?_
  · refine V_iconst (pc := 20) (v := (0 : Int32)) dX12_days_20 rfl ?_
    exact hJ21 (0 : Int32) s2
  · refine V_iconst (pc := 16) (v := (1 : Int32)) dX12_days_16 rfl ?_
    refine V_goto (pc := 17) (tgt := 21) dX12_days_17 (by decide) ?_
    exact hJ21 (1 : Int32) s2
