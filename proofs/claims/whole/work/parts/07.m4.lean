def m_X12_secrets : MD := (yX12_secrets, cX12_secrets, 4, (some .int), 4, 87, 0, 0)
def m_X12_crossing : MD := (yX12_crossing, cX12_crossing, 4, (some .int), 3, 66, 0, 0)
def m_X12_parts : MD := (yX12_parts, cX12_parts, 5, (some .int), 4, 200, 0, 0)
def m_X12_between : MD := (yX12_between, cX12_between, 5, (some .int), 4, 89, 0, 0)
def m_X12_hub : MD := (yX12_hub, cX12_hub, 5, (some .int), 4, 200, 0, 0)
def m_X12_allTold : MD := (yX12_allTold, cX12_allTold, 5, (some .boolean), 4, 87, 0, 0)
def m_X12_tell : MD := (yX12_tell, cX12_tell, 3, (some .int), 5, 111, 0, 0)
def m_X12_lovers : MD := (yX12_lovers, cX12_lovers, 6, (some .int), 7, 269, 0, 0)
def m_X12_waysOf : MD := (yX12_waysOf, cX12_waysOf, 3, (some .int), 0, 0, 0, 0)
def m_X12_freeOne : MD := (yX12_freeOne, cX12_freeOne, 5, (some .int), 1, 20, 0, 0)
def m_X12_laysWay : MD := (yX12_laysWay, cX12_laysWay, 8, none, 2, 44, 0, 0)
def m_X12_likesIts : MD := (yX12_likesIts, cX12_likesIts, 2, (some .int), 2, 43, 0, 0)
def m_X12_isSteady : MD := (yX12_isSteady, cX12_isSteady, 4, (some .boolean), 3, 64, 0, 0)
def m_X12_steady : MD := (yX12_steady, cX12_steady, 6, (some .int), 4, 87, 0, 0)
def m_X12_fondest : MD := (yX12_fondest, cX12_fondest, 4, (some .int), 4, 200, 0, 0)
def m_X12_wash : MD := (yX12_wash, cX12_wash, 4, (some .int), 3, 65, 0, 0)
theorem wm_X12_isSecret : wmp m_X12_isSecret 2 := ⟨gx 1944 (by decide +kernel) (by decide +kernel), gx 105 (by decide +kernel) (by decide +kernel), gx 138 (by decide +kernel) (by decide +kernel), gx 1945 (by decide +kernel) (by decide +kernel), by decide +kernel, by decide +kernel, by decide +kernel⟩
theorem cw_X12_372 : cwp RX12 372 m_X12_isSecret 2 := cwp_of wm_X12_isSecret (gx 1942 (by decide +kernel) (by decide +kernel))
theorem wm_X12_crossing : wmp m_X12_crossing 1 := ⟨gx 1953 (by decide +kernel) (by decide +kernel), gx 106 (by decide +kernel) (by decide +kernel), gx 138 (by decide +kernel) (by decide +kernel), gx 1954 (by decide +kernel) (by decide +kernel), by decide +kernel, by decide +kernel, by decide +kernel⟩
theorem cw_X12_376 : cwp RX12 376 m_X12_crossing 1 := cwp_of wm_X12_crossing (gx 1951 (by decide +kernel) (by decide +kernel))
theorem ld_X12_375 : Cond.constant RX12 375 (1000000 : Int32) ∈ gtb := gx 1950 (by decide +kernel) (by decide +kernel)
theorem wm_X12_allTold : wmp m_X12_allTold 1 := ⟨gx 1969 (by decide +kernel) (by decide +kernel), gx 107 (by decide +kernel) (by decide +kernel), gx 138 (by decide +kernel) (by decide +kernel), gx 1970 (by decide +kernel) (by decide +kernel), by decide +kernel, by decide +kernel, by decide +kernel⟩
theorem cw_X12_379 : cwp RX12 379 m_X12_allTold 1 := cwp_of wm_X12_allTold (gx 1967 (by decide +kernel) (by decide +kernel))
theorem fk_X12_42 : fk RX12 42 12 22 := ⟨_, _, _, rfl, in_12, by decide, rfl, by decide, gx 1517 (by decide +kernel) (by decide +kernel)⟩
theorem wm_X12_waysOf : wms m_X12_waysOf 1 := ⟨gx 1980 (by decide +kernel) (by decide +kernel), gx 138 (by decide +kernel) (by decide +kernel), gx 1981 (by decide +kernel) (by decide +kernel), by decide +kernel, by decide +kernel, by decide +kernel⟩
theorem cs_X12_382 : csp RX12 382 m_X12_waysOf 1 := csp_of wm_X12_waysOf (gx 1979 (by decide +kernel) (by decide +kernel))
theorem wm_X12_freeOne : wmp m_X12_freeOne 2 := ⟨gx 1988 (by decide +kernel) (by decide +kernel), gx 109 (by decide +kernel) (by decide +kernel), gx 138 (by decide +kernel) (by decide +kernel), gx 1989 (by decide +kernel) (by decide +kernel), by decide +kernel, by decide +kernel, by decide +kernel⟩
theorem cw_X12_385 : cwp RX12 385 m_X12_freeOne 2 := cwp_of wm_X12_freeOne (gx 1986 (by decide +kernel) (by decide +kernel))
theorem wm_X12_likesIts : wmp m_X12_likesIts 1 := ⟨gx 1996 (by decide +kernel) (by decide +kernel), gx 111 (by decide +kernel) (by decide +kernel), gx 138 (by decide +kernel) (by decide +kernel), gx 1997 (by decide +kernel) (by decide +kernel), by decide +kernel, by decide +kernel, by decide +kernel⟩
theorem cw_X12_388 : cwp RX12 388 m_X12_likesIts 1 := cwp_of wm_X12_likesIts (gx 1994 (by decide +kernel) (by decide +kernel))
theorem fk_X12_45 : fk RX12 45 12 23 := ⟨_, _, _, rfl, in_12, by decide, rfl, by decide, gx 1518 (by decide +kernel) (by decide +kernel)⟩
theorem wm_X12_laysWay : wmp m_X12_laysWay 2 := ⟨gx 1984 (by decide +kernel) (by decide +kernel), gx 108 (by decide +kernel) (by decide +kernel), gx 138 (by decide +kernel) (by decide +kernel), gx 1985 (by decide +kernel) (by decide +kernel), by decide +kernel, by decide +kernel, by decide +kernel⟩
theorem cw_X12_391 : cwp RX12 391 m_X12_laysWay 2 := cwp_of wm_X12_laysWay (gx 1982 (by decide +kernel) (by decide +kernel))
theorem wm_X12_isSteady : wmp m_X12_isSteady 0 := ⟨gx 1992 (by decide +kernel) (by decide +kernel), gx 110 (by decide +kernel) (by decide +kernel), gx 138 (by decide +kernel) (by decide +kernel), gx 1993 (by decide +kernel) (by decide +kernel), by decide +kernel, by decide +kernel, by decide +kernel⟩
theorem cw_X12_394 : cwp RX12 394 m_X12_isSteady 0 := cwp_of wm_X12_isSteady (gx 1990 (by decide +kernel) (by decide +kernel))
theorem fk_X12_48 : fk RX12 48 12 24 := ⟨_, _, _, rfl, in_12, by decide, rfl, by decide, gx 1519 (by decide +kernel) (by decide +kernel)⟩
def J_X12_secrets_39 (n : Nat) (v2 : Int32) (v3 : Int32) (t0 : Int32) (t1 : Int32) (σ : MS) : Option ((Int32 × Int32) ⊕ ((Int32 × Int32) ⊕ (Int32 × MS))) := some (.inl ((t1 + t0), (v3 + (1 : Int32))))
def L_X12_secrets_19 (n : Nat) (v2 : Int32) (σ : MS) (a19 : Int32 × Int32) : Option ((Int32 × Int32) ⊕ ((Int32 × Int32) ⊕ (Int32 × MS))) := (if v2 ≤ a19.2 then (some (.inl (a19.1, (v2 + (1 : Int32))))).map Sum.inr else ((f_X12_isSecret v2 a19.2 σ).bind (fun q28 => (if q28 = 0 then J_X12_secrets_39 n v2 a19.2 (0 : Int32) a19.1 σ else J_X12_secrets_39 n v2 a19.2 (1 : Int32) a19.1 σ))))
def L_X12_secrets_9 (n : Nat)  (σ : MS) (a9 : Int32 × Int32) : Option ((Int32 × Int32) ⊕ (Int32 × MS)) := ((f_X12_people  σ).bind (fun q11 => (if q11 ≤ a9.2 then (some (a9.1, σ)).map Sum.inr else itr (L_X12_secrets_19 n a9.2 σ) n (a9.1, (0 : Int32)))))
def f_X12_secrets (n : Nat)  (σ : MS) : Option (Int32 × MS) := (ltM (mu σ 171 0 (0 : Int32)) (fun s2 => itr (L_X12_secrets_9 n  s2) n ((0 : Int32), (0 : Int32))))
set_option maxRecDepth 20000 in
set_option maxHeartbeats 2000000 in
theorem c_X12_secrets (w : TG) (n : Nat)  (σ : MS) : MC m_X12_secrets w [.ref (wB w + 171)] σ (f_X12_secrets n  σ) := by
  refine V_meth (by decide +kernel) (Nat.le_of_ble_eq_true rfl) (by intro v hv; simp only [List.mem_cons, List.not_mem_nil, or_false] at hv; subst hv; rfl) (fun g x => ?_)
  show VV m_X12_secrets w g 0 0 (QM m_X12_secrets w g x) (fun b : Int32 × MS => b = x) 0 [some (.ref (wB w + 171)), none, none, none] [] σ (f_X12_secrets n  σ)
  have hL9 : ∀ (σ : MS) (n0 : Nat) (a : Int32 × Int32), VV m_X12_secrets w g 0 0 (QM m_X12_secrets w g x) (fun b : Int32 × MS => b = x) 9 [some (.ref (wB w + 171)), some (.int a.1), some (.int a.2), none] [] σ (itr (L_X12_secrets_9 n  σ) n0 a) := by
    intro σ
    refine V_itr (vf := fun a : Int32 × Int32 => [some (.ref (wB w + 171)), some (.int a.1), some (.int a.2), none]) (sf := fun a : Int32 × Int32 => σ) (fun κ9 b9 r9 a9 => ?_)
    obtain ⟨a9_1, a9_2⟩ := a9
    show VV m_X12_secrets w g 0 0 (QM m_X12_secrets w g x) κ9 9 [some (.ref (wB w + 171)), some (.int a9_1), some (.int a9_2), none] [] σ (L_X12_secrets_9 n  σ (a9_1, a9_2))
    have hL19 : ∀ (v2 : Int32) (n0 : Nat) (a : Int32 × Int32), VV m_X12_secrets w g 0 0 (QM m_X12_secrets w g x) κ9 19 [some (.ref (wB w + 171)), some (.int a.1), some (.int v2), some (.int a.2)] [] σ (itr (L_X12_secrets_19 n v2 σ) n0 a) := by
      intro v2
      refine V_itr (vf := fun a : Int32 × Int32 => [some (.ref (wB w + 171)), some (.int a.1), some (.int v2), some (.int a.2)]) (sf := fun a : Int32 × Int32 => σ) (fun κ19 b19 r19 a19 => ?_)
      obtain ⟨a19_1, a19_2⟩ := a19
      show VV m_X12_secrets w g 0 0 (QM m_X12_secrets w g x) κ19 19 [some (.ref (wB w + 171)), some (.int a19_1), some (.int v2), some (.int a19_2)] [] σ (L_X12_secrets_19 n v2 σ (a19_1, a19_2))
      have hJ39 : ∀ (v3 : Int32) (t0 : Int32) (t1 : Int32), VV m_X12_secrets w g 0 0 (QM m_X12_secrets w g x) κ19 39 [some (.ref (wB w + 171)), none, some (.int v2), some (.int v3)] [.int t0, .int t1] σ (J_X12_secrets_39 n v2 v3 t0 t1 σ) := by
        intro v3 t0 t1
        refine V_iadd (pc := 39) dX12_secrets_39 ?_
        refine V_istore_n (pc := 40) (vs' := [some (.ref (wB w + 171)), some (.int (t1 + t0)), some (.int v2), some (.int v3)]) dX12_secrets_40 rfl (Nat.le_of_ble_eq_true rfl) (Nat.le_of_ble_eq_true rfl) rfl ?_
        refine V_iincC (pc := 41) (vs' := [some (.ref (wB w + 171)), some (.int (t1 + t0)), some (.int v2), some (.int (v3 + (1 : Int32)))]) dX12_secrets_41 (Nat.le_of_ble_eq_true rfl) rfl ic_1 rfl ?_
        refine V_goto (pc := 44) (tgt := 19) dX12_secrets_44 (by decide +kernel) ?_
        exact V_back (b19 ((t1 + t0), (v3 + (1 : Int32))))
      refine V_iload_n (pc := 19) dX12_secrets_19 rfl rfl ?_
      refine V_iload_n (pc := 20) dX12_secrets_20 rfl rfl ?_
      refine V_icmp_ge (pc := 21) (tgt := 47) dX12_secrets_21 (by decide +kernel) ?_ ?_
      · refine V_exit r19 ?_
        refine V_iincC (pc := 47) (vs' := [some (.ref (wB w + 171)), some (.int a19_1), some (.int (v2 + (1 : Int32))), some (.int a19_2)]) dX12_secrets_47 (Nat.le_of_ble_eq_true rfl) rfl ic_1 rfl ?_
        refine V_goto (pc := 50) (tgt := 9) dX12_secrets_50 (by decide +kernel) ?_
        refine V_sub (vs' := [some (.ref (wB w + 171)), some (.int a19_1), some (.int (v2 + (1 : Int32))), none]) (show vless _ _ from ⟨rfl, ⟨rfl, ⟨rfl, trivial⟩⟩⟩) rfl ?_
        exact V_back (b9 (a19_1, (v2 + (1 : Int32))))
      · refine V_iload_n (pc := 24) dX12_secrets_24 rfl rfl ?_
        refine V_aload_n (pc := 25) dX12_secrets_25 rfl rfl ?_
        refine V_iload_n (pc := 26) dX12_secrets_26 rfl rfl ?_
        refine V_iload_n (pc := 27) dX12_secrets_27 rfl rfl ?_
        refine V_callVpi (pc := 28) (As := [.int v2, .int a19_2]) (rest := [.int a19_1]) (c_X12_isSecret w v2 a19_2 σ) cw_X12_372 rfl rfl dX12_secrets_28 kc_171 ci_12 ⟨Nat.le_of_ble_eq_true rfl, Nat.le_of_ble_eq_true rfl⟩ rfl rfl (Nat.le_of_ble_eq_true rfl) (Nat.le_of_ble_eq_true rfl) (Nat.le_of_ble_eq_true rfl) rfl (fun q28 => ?_)
        refine V_if_eq (pc := 31) (tgt := 38) dX12_secrets_31 (by decide +kernel) ?_ ?_
        · refine V_iconst (pc := 38) dX12_secrets_38 ic_0 ?_
          refine V_sub (vs' := [some (.ref (wB w + 171)), none, some (.int v2), some (.int a19_2)]) (show vless _ _ from ⟨rfl, ⟨rfl, ⟨rfl, trivial⟩⟩⟩) rfl ?_
          exact hJ39 a19_2 (0 : Int32) a19_1
        · refine V_iconst (pc := 34) dX12_secrets_34 ic_1 ?_
          refine V_goto (pc := 35) (tgt := 39) dX12_secrets_35 (by decide +kernel) ?_
          refine V_sub (vs' := [some (.ref (wB w + 171)), none, some (.int v2), some (.int a19_2)]) (show vless _ _ from ⟨rfl, ⟨rfl, ⟨rfl, trivial⟩⟩⟩) rfl ?_
          exact hJ39 a19_2 (1 : Int32) a19_1
    refine V_iload_n (pc := 9) dX12_secrets_9 rfl rfl ?_
    refine V_aload_n (pc := 10) dX12_secrets_10 rfl rfl ?_
    refine V_callVpi (pc := 11) (As := []) (rest := [.int a9_2]) (c_X12_people w  σ) cw_X12_58 rfl rfl dX12_secrets_11 kc_171 ci_12 ⟨Nat.le_of_ble_eq_true rfl, Nat.le_of_ble_eq_true rfl⟩ rfl rfl (Nat.le_of_ble_eq_true rfl) (Nat.le_of_ble_eq_true rfl) (Nat.le_of_ble_eq_true rfl) rfl (fun q11 => ?_)
    refine V_icmp_ge (pc := 14) (tgt := 53) dX12_secrets_14 (by decide +kernel) ?_ ?_
    · refine V_exit r9 ?_
      refine V_iload_n (pc := 53) dX12_secrets_53 rfl rfl ?_
      exact V_ireti (pc := 54) dX12_secrets_54 rfl (hk := fun h => h)
    · refine V_iconst (pc := 17) dX12_secrets_17 ic_0 ?_
      refine V_istore_n (pc := 18) (vs' := [some (.ref (wB w + 171)), some (.int a9_1), some (.int a9_2), some (.int (0 : Int32))]) dX12_secrets_18 rfl (Nat.le_of_ble_eq_true rfl) (Nat.le_of_ble_eq_true rfl) rfl ?_
      exact hL19 a9_2 n (a9_1, (0 : Int32))
  refine V_aload_n (pc := 0) dX12_secrets_0 rfl rfl ?_
  refine V_iconst (pc := 1) dX12_secrets_1 ic_0 ?_
  refine V_puti (pc := 2) fp_X12_3 rfl dX12_secrets_2 kc_171 rf_12_0_171 (fun s2 => ?_)
  refine V_iconst (pc := 5) dX12_secrets_5 ic_0 ?_
  refine V_istore_n (pc := 6) (vs' := [some (.ref (wB w + 171)), some (.int (0 : Int32)), none, none]) dX12_secrets_6 rfl (Nat.le_of_ble_eq_true rfl) (Nat.le_of_ble_eq_true rfl) rfl ?_
  refine V_iconst (pc := 7) dX12_secrets_7 ic_0 ?_
  refine V_istore_n (pc := 8) (vs' := [some (.ref (wB w + 171)), some (.int (0 : Int32)), some (.int (0 : Int32)), none]) dX12_secrets_8 rfl (Nat.le_of_ble_eq_true rfl) (Nat.le_of_ble_eq_true rfl) rfl ?_
  exact hL9 s2 n ((0 : Int32), (0 : Int32))
def J_X12_crossing_37 (n : Nat) (v1 : Int32) (v3 : Int32) (t0 : Int32) (t1 : Int32) (σ : MS) : Option ((Int32 × Int32) ⊕ (Int32)) := some (.inl ((t1 + t0), (v3 + (1 : Int32))))
def L_X12_crossing_4 (n : Nat) (v1 : Int32) (σ : MS) (a4 : Int32 × Int32) : Option ((Int32 × Int32) ⊕ (Int32)) := ((f_X12_people  σ).bind (fun q6 => (if q6 ≤ a4.2 then (some a4.1).map Sum.inr else ((f_X12_has v1 a4.2 σ).bind (fun q15 => (if q15 = 0 then J_X12_crossing_37 n v1 a4.2 (0 : Int32) a4.1 σ else ((f_X12_boundTo n a4.2 σ).bind (fun q23 => ((f_J6_bitCount_0f7a4 (q23 &&& (v1 ^^^ (-1 : Int32))) σ).bind (fun q30 => J_X12_crossing_37 n v1 a4.2 q30 a4.1 σ))))))))))
def f_X12_crossing (n : Nat) (p1 : Int32) (σ : MS) : Option (Int32) := itr (L_X12_crossing_4 n p1 σ) n ((0 : Int32), (0 : Int32))
set_option maxRecDepth 20000 in
set_option maxHeartbeats 2000000 in
theorem c_X12_crossing (w : TG) (n : Nat) (p1 : Int32) (σ : MS) : MC m_X12_crossing w [.ref (wB w + 171), .int p1] σ ((f_X12_crossing n p1 σ).map (fun r => (r, σ))) := by
  refine V_methp (by decide +kernel) (Nat.le_of_ble_eq_true rfl) (by intro v hv; simp only [List.mem_cons, List.not_mem_nil, or_false] at hv; rcases hv with rfl | rfl <;> rfl) (fun g x => ?_)
  show VV m_X12_crossing w g 0 0 (QM m_X12_crossing w g x) (fun b : Int32 => (b, σ) = x) 0 [some (.ref (wB w + 171)), some (.int p1), none, none] [] σ (f_X12_crossing n p1 σ)
  have hL4 : ∀  (n0 : Nat) (a : Int32 × Int32), VV m_X12_crossing w g 0 0 (QM m_X12_crossing w g x) (fun b : Int32 => (b, σ) = x) 4 [some (.ref (wB w + 171)), some (.int p1), some (.int a.1), some (.int a.2)] [] σ (itr (L_X12_crossing_4 n p1 σ) n0 a) := by
    refine V_itr (vf := fun a : Int32 × Int32 => [some (.ref (wB w + 171)), some (.int p1), some (.int a.1), some (.int a.2)]) (sf := fun a : Int32 × Int32 => σ) (fun κ4 b4 r4 a4 => ?_)
    obtain ⟨a4_1, a4_2⟩ := a4
    show VV m_X12_crossing w g 0 0 (QM m_X12_crossing w g x) κ4 4 [some (.ref (wB w + 171)), some (.int p1), some (.int a4_1), some (.int a4_2)] [] σ (L_X12_crossing_4 n p1 σ (a4_1, a4_2))
    have hJ37 : ∀ (v3 : Int32) (t0 : Int32) (t1 : Int32), VV m_X12_crossing w g 0 0 (QM m_X12_crossing w g x) κ4 37 [some (.ref (wB w + 171)), some (.int p1), none, some (.int v3)] [.int t0, .int t1] σ (J_X12_crossing_37 n p1 v3 t0 t1 σ) := by
      intro v3 t0 t1
      refine V_iadd (pc := 37) dX12_crossing_37 ?_
      refine V_istore_n (pc := 38) (vs' := [some (.ref (wB w + 171)), some (.int p1), some (.int (t1 + t0)), some (.int v3)]) dX12_crossing_38 rfl (Nat.le_of_ble_eq_true rfl) (Nat.le_of_ble_eq_true rfl) rfl ?_
      refine V_iincC (pc := 39) (vs' := [some (.ref (wB w + 171)), some (.int p1), some (.int (t1 + t0)), some (.int (v3 + (1 : Int32)))]) dX12_crossing_39 (Nat.le_of_ble_eq_true rfl) rfl ic_1 rfl ?_
      refine V_goto (pc := 42) (tgt := 4) dX12_crossing_42 (by decide +kernel) ?_
      exact V_back (b4 ((t1 + t0), (v3 + (1 : Int32))))
    refine V_iload_n (pc := 4) dX12_crossing_4 rfl rfl ?_
    refine V_aload_n (pc := 5) dX12_crossing_5 rfl rfl ?_
    refine V_callVpi (pc := 6) (As := []) (rest := [.int a4_2]) (c_X12_people w  σ) cw_X12_58 rfl rfl dX12_crossing_6 kc_171 ci_12 ⟨Nat.le_of_ble_eq_true rfl, Nat.le_of_ble_eq_true rfl⟩ rfl rfl (Nat.le_of_ble_eq_true rfl) (Nat.le_of_ble_eq_true rfl) (Nat.le_of_ble_eq_true rfl) rfl (fun q6 => ?_)
    refine V_icmp_ge (pc := 9) (tgt := 45) dX12_crossing_9 (by decide +kernel) ?_ ?_
    · refine V_exit r4 ?_
      refine V_iload_n (pc := 45) dX12_crossing_45 rfl rfl ?_
      exact V_ireti (pc := 46) dX12_crossing_46 rfl (hk := fun h => h)
    · refine V_iload_n (pc := 12) dX12_crossing_12 rfl rfl ?_
      refine V_iload_n (pc := 13) dX12_crossing_13 rfl rfl ?_
      refine V_iload_n (pc := 14) dX12_crossing_14 rfl rfl ?_
      refine V_callSpi (pc := 15) (As := [.int p1, .int a4_2]) (rest := [.int a4_1]) (c_X12_has w p1 a4_2 σ) cs_X12_76 rfl rfl dX12_crossing_15 ⟨Nat.le_of_ble_eq_true rfl, Nat.le_of_ble_eq_true rfl⟩ rfl rfl (Nat.le_of_ble_eq_true rfl) (Nat.le_of_ble_eq_true rfl) (Nat.le_of_ble_eq_true rfl) rfl (fun q15 => ?_)
      refine V_if_eq (pc := 18) (tgt := 36) dX12_crossing_18 (by decide +kernel) ?_ ?_
      · refine V_iconst (pc := 36) dX12_crossing_36 ic_0 ?_
        refine V_sub (vs' := [some (.ref (wB w + 171)), some (.int p1), none, some (.int a4_2)]) (show vless _ _ from ⟨rfl, ⟨rfl, ⟨rfl, trivial⟩⟩⟩) rfl ?_
        exact hJ37 a4_2 (0 : Int32) a4_1
      · refine V_aload_n (pc := 21) dX12_crossing_21 rfl rfl ?_
        refine V_iload_n (pc := 22) dX12_crossing_22 rfl rfl ?_
        refine V_callVpi (pc := 23) (As := [.int a4_2]) (rest := [.int a4_1]) (c_X12_boundTo w n a4_2 σ) cw_X12_348 rfl rfl dX12_crossing_23 kc_171 ci_12 ⟨Nat.le_of_ble_eq_true rfl, Nat.le_of_ble_eq_true rfl⟩ rfl rfl (Nat.le_of_ble_eq_true rfl) (Nat.le_of_ble_eq_true rfl) (Nat.le_of_ble_eq_true rfl) rfl (fun q23 => ?_)
        refine V_iload_n (pc := 26) dX12_crossing_26 rfl rfl ?_
        refine V_iconst (pc := 27) dX12_crossing_27 ic_m1 ?_
        refine V_ixor (pc := 28) dX12_crossing_28 ?_
        refine V_iand (pc := 29) dX12_crossing_29 ?_
        refine V_callSpi (pc := 30) (As := [.int (q23 &&& (p1 ^^^ (-1 : Int32)))]) (rest := [.int a4_1]) (c_J6_bitCount_0f7a4 w (q23 &&& (p1 ^^^ (-1 : Int32))) σ) cs_X12_318 rfl rfl dX12_crossing_30 ⟨Nat.le_of_ble_eq_true rfl, Nat.le_of_ble_eq_true rfl⟩ rfl rfl (Nat.le_of_ble_eq_true rfl) (Nat.le_of_ble_eq_true rfl) (Nat.le_of_ble_eq_true rfl) rfl (fun q30 => ?_)
        refine V_goto (pc := 33) (tgt := 37) dX12_crossing_33 (by decide +kernel) ?_
        refine V_sub (vs' := [some (.ref (wB w + 171)), some (.int p1), none, some (.int a4_2)]) (show vless _ _ from ⟨rfl, ⟨rfl, ⟨rfl, trivial⟩⟩⟩) rfl ?_
        exact hJ37 a4_2 q30 a4_1
  refine V_iconst (pc := 0) dX12_crossing_0 ic_0 ?_
  refine V_istore_n (pc := 1) (vs' := [some (.ref (wB w + 171)), some (.int p1), some (.int (0 : Int32)), none]) dX12_crossing_1 rfl (Nat.le_of_ble_eq_true rfl) (Nat.le_of_ble_eq_true rfl) rfl ?_
  refine V_iconst (pc := 2) dX12_crossing_2 ic_0 ?_
  refine V_istore_n (pc := 3) (vs' := [some (.ref (wB w + 171)), some (.int p1), some (.int (0 : Int32)), some (.int (0 : Int32))]) dX12_crossing_3 rfl (Nat.le_of_ble_eq_true rfl) (Nat.le_of_ble_eq_true rfl) rfl ?_
  exact hL4 n ((0 : Int32), (0 : Int32))
def J_X12_parts_87 (n : Nat) (v1 : Int32) (v2 : Int32) (v4 : Int32) (t0 : Int32) (σ : MS) : Option ((Int32 × Int32) ⊕ (Int32 × MS)) := some (.inl (t0, (v4 + (1 : Int32))))
def J_X12_parts_86 (n : Nat) (v1 : Int32) (v2 : Int32) (v3 : Int32) (v4 : Int32) (σ : MS) : Option ((Int32 × Int32) ⊕ (Int32 × MS)) := J_X12_parts_87 n v1 v2 v4 v3 σ
def L_X12_parts_46 (n : Nat) (v1 : Int32) (v2 : Int32) (σ : MS) (a46 : Int32 × Int32) : Option ((Int32 × Int32) ⊕ (Int32 × MS)) := ((f_X12_everybody  σ).bind (fun q49 => (if q49 < a46.2 then (some (a46.1, σ)).map Sum.inr else ((f_X12_has a46.2 v1 σ).bind (fun q58 => (if q58 = 0 then J_X12_parts_86 n v1 v2 a46.1 a46.2 σ else ((f_X12_has a46.2 v2 σ).bind (fun q67 => (if q67 = 0 then ((f_X12_crossing n a46.2 σ).bind (fun q77 => J_X12_parts_87 n v1 v2 a46.2 (mnI a46.1 q77) σ)) else J_X12_parts_86 n v1 v2 a46.1 a46.2 σ)))))))))
def J_X12_parts_37 (n : Nat)  (σ : MS) : Option (Int32 × MS) := some ((0 : Int32), σ)
def J_X12_parts_30 (n : Nat) (v1 : Int32) (v2 : Int32) (t0 : Int32) (σ : MS) : Option (Int32 × MS) := ((f_X12_throwsIf t0 (2 : Int32) σ).bind (fun q31 => (if q31.1 = 0 then itr (L_X12_parts_46 n v1 v2 q31.2) n ((1000000 : Int32), (0 : Int32)) else J_X12_parts_37 n  q31.2)))
def f_X12_parts (n : Nat) (p1 : Int32) (p2 : Int32) (σ : MS) : Option (Int32 × MS) := (ltM (mu σ 171 0 (0 : Int32)) (fun s2 => ((f_X12_noBoth p1 p2 s2).bind (fun q9 => ((f_X12_throwsIf q9 (1 : Int32) s2).bind (fun q13 => (if q13.1 = 0 then (if p1 = p2 then J_X12_parts_30 n p1 p2 (1 : Int32) q13.2 else J_X12_parts_30 n p1 p2 (0 : Int32) q13.2) else J_X12_parts_37 n  q13.2)))))))
set_option maxRecDepth 20000 in
set_option maxHeartbeats 2000000 in
theorem c_X12_parts (w : TG) (n : Nat) (p1 : Int32) (p2 : Int32) (σ : MS) : MC m_X12_parts w [.ref (wB w + 171), .int p1, .int p2] σ (f_X12_parts n p1 p2 σ) := by
  refine V_meth (by decide +kernel) (Nat.le_of_ble_eq_true rfl) (by intro v hv; simp only [List.mem_cons, List.not_mem_nil, or_false] at hv; rcases hv with rfl | rfl | rfl <;> rfl) (fun g x => ?_)
  show VV m_X12_parts w g 0 0 (QM m_X12_parts w g x) (fun b : Int32 × MS => b = x) 0 [some (.ref (wB w + 171)), some (.int p1), some (.int p2), none, none] [] σ (f_X12_parts n p1 p2 σ)
  have hL46 : ∀ (σ : MS) (n0 : Nat) (a : Int32 × Int32), VV m_X12_parts w g 0 0 (QM m_X12_parts w g x) (fun b : Int32 × MS => b = x) 46 [some (.ref (wB w + 171)), some (.int p1), some (.int p2), some (.int a.1), some (.int a.2)] [] σ (itr (L_X12_parts_46 n p1 p2 σ) n0 a) := by
    intro σ
    refine V_itr (vf := fun a : Int32 × Int32 => [some (.ref (wB w + 171)), some (.int p1), some (.int p2), some (.int a.1), some (.int a.2)]) (sf := fun a : Int32 × Int32 => σ) (fun κ46 b46 r46 a46 => ?_)
    obtain ⟨a46_1, a46_2⟩ := a46
    show VV m_X12_parts w g 0 0 (QM m_X12_parts w g x) κ46 46 [some (.ref (wB w + 171)), some (.int p1), some (.int p2), some (.int a46_1), some (.int a46_2)] [] σ (L_X12_parts_46 n p1 p2 σ (a46_1, a46_2))
    have hJ87 : ∀ (v4 : Int32) (t0 : Int32), VV m_X12_parts w g 0 0 (QM m_X12_parts w g x) κ46 87 [some (.ref (wB w + 171)), some (.int p1), some (.int p2), none, some (.int v4)] [.int t0] σ (J_X12_parts_87 n p1 p2 v4 t0 σ) := by
      intro v4 t0
      refine V_istore_n (pc := 87) (vs' := [some (.ref (wB w + 171)), some (.int p1), some (.int p2), some (.int t0), some (.int v4)]) dX12_parts_87 rfl (Nat.le_of_ble_eq_true rfl) (Nat.le_of_ble_eq_true rfl) rfl ?_
      refine V_iincC (pc := 88) (vs' := [some (.ref (wB w + 171)), some (.int p1), some (.int p2), some (.int t0), some (.int (v4 + (1 : Int32)))]) dX12_parts_88 (Nat.le_of_ble_eq_true rfl) rfl ic_1 rfl ?_
      refine V_goto (pc := 91) (tgt := 46) dX12_parts_91 (by decide +kernel) ?_
      exact V_back (b46 (t0, (v4 + (1 : Int32))))
    have hJ86 : ∀ (v3 : Int32) (v4 : Int32), VV m_X12_parts w g 0 0 (QM m_X12_parts w g x) κ46 86 [some (.ref (wB w + 171)), some (.int p1), some (.int p2), some (.int v3), some (.int v4)] [] σ (J_X12_parts_86 n p1 p2 v3 v4 σ) := by
      intro v3 v4
      refine V_iload_n (pc := 86) dX12_parts_86 rfl rfl ?_
      refine V_sub (vs' := [some (.ref (wB w + 171)), some (.int p1), some (.int p2), none, some (.int v4)]) (show vless _ _ from ⟨rfl, ⟨rfl, ⟨rfl, ⟨rfl, trivial⟩⟩⟩⟩) rfl ?_
      exact hJ87 v4 v3
    refine V_iload (pc := 46) dX12_parts_46 rfl ?_
    refine V_aload_n (pc := 48) dX12_parts_48 rfl rfl ?_
    refine V_callVpi (pc := 49) (As := []) (rest := [.int a46_2]) (c_X12_everybody w  σ) cw_X12_327 rfl rfl dX12_parts_49 kc_171 ci_12 ⟨Nat.le_of_ble_eq_true rfl, Nat.le_of_ble_eq_true rfl⟩ rfl rfl (Nat.le_of_ble_eq_true rfl) (Nat.le_of_ble_eq_true rfl) (Nat.le_of_ble_eq_true rfl) rfl (fun q49 => ?_)
    refine V_icmp_gt (pc := 52) (tgt := 94) dX12_parts_52 (by decide +kernel) ?_ ?_
    · refine V_exit r46 ?_
      refine V_iload_n (pc := 94) dX12_parts_94 rfl rfl ?_
      exact V_ireti (pc := 95) dX12_parts_95 rfl (hk := fun h => h)
    · refine V_iload (pc := 55) dX12_parts_55 rfl ?_
      refine V_iload_n (pc := 57) dX12_parts_57 rfl rfl ?_
      refine V_callSpi (pc := 58) (As := [.int a46_2, .int p1]) (rest := []) (c_X12_has w a46_2 p1 σ) cs_X12_76 rfl rfl dX12_parts_58 ⟨Nat.le_of_ble_eq_true rfl, Nat.le_of_ble_eq_true rfl⟩ rfl rfl (Nat.le_of_ble_eq_true rfl) (Nat.le_of_ble_eq_true rfl) (Nat.le_of_ble_eq_true rfl) rfl (fun q58 => ?_)
      refine V_if_eq (pc := 61) (tgt := 86) dX12_parts_61 (by decide +kernel) ?_ ?_
      · exact hJ86 a46_1 a46_2
      · refine V_iload (pc := 64) dX12_parts_64 rfl ?_
        refine V_iload_n (pc := 66) dX12_parts_66 rfl rfl ?_
        refine V_callSpi (pc := 67) (As := [.int a46_2, .int p2]) (rest := []) (c_X12_has w a46_2 p2 σ) cs_X12_76 rfl rfl dX12_parts_67 ⟨Nat.le_of_ble_eq_true rfl, Nat.le_of_ble_eq_true rfl⟩ rfl rfl (Nat.le_of_ble_eq_true rfl) (Nat.le_of_ble_eq_true rfl) (Nat.le_of_ble_eq_true rfl) rfl (fun q67 => ?_)
        refine V_if_ne (pc := 70) (tgt := 86) dX12_parts_70 (by decide +kernel) ?_ ?_
        · exact hJ86 a46_1 a46_2
        · refine V_iload_n (pc := 73) dX12_parts_73 rfl rfl ?_
          refine V_aload_n (pc := 74) dX12_parts_74 rfl rfl ?_
          refine V_iload (pc := 75) dX12_parts_75 rfl ?_
          refine V_callVpi (pc := 77) (As := [.int a46_2]) (rest := [.int a46_1]) (c_X12_crossing w n a46_2 σ) cw_X12_376 rfl rfl dX12_parts_77 kc_171 ci_12 ⟨Nat.le_of_ble_eq_true rfl, Nat.le_of_ble_eq_true rfl⟩ rfl rfl (Nat.le_of_ble_eq_true rfl) (Nat.le_of_ble_eq_true rfl) (Nat.le_of_ble_eq_true rfl) rfl (fun q77 => ?_)
          refine V_mmin (pc := 80) dX12_parts_80 rfl mw_X12_283 (Nat.le_of_ble_eq_true rfl) (Nat.le_of_ble_eq_true rfl) (Nat.le_of_ble_eq_true rfl) (Nat.le_of_ble_eq_true rfl) ?_
          refine V_goto (pc := 83) (tgt := 87) dX12_parts_83 (by decide +kernel) ?_
          refine V_sub (vs' := [some (.ref (wB w + 171)), some (.int p1), some (.int p2), none, some (.int a46_2)]) (show vless _ _ from ⟨rfl, ⟨rfl, ⟨rfl, ⟨rfl, trivial⟩⟩⟩⟩) rfl ?_
          exact hJ87 a46_2 (mnI a46_1 q77)
  have hJ37 : ∀ (σ : MS), VV m_X12_parts w g 0 0 (QM m_X12_parts w g x) (fun b : Int32 × MS => b = x) 37 [none, none, none, none, none] [] σ (J_X12_parts_37 n  σ) := by
    intro σ
    refine V_iconst (pc := 37) dX12_parts_37 ic_0 ?_
    exact V_ireti (pc := 38) dX12_parts_38 rfl (hk := fun h => h)
  have hJ30 : ∀ (t0 : Int32) (σ : MS), VV m_X12_parts w g 0 0 (QM m_X12_parts w g x) (fun b : Int32 × MS => b = x) 30 [some (.ref (wB w + 171)), some (.int p1), some (.int p2), none, none] [.int t0, .ref (wB w + 171)] σ (J_X12_parts_30 n p1 p2 t0 σ) := by
    intro t0 σ
    refine V_iconst (pc := 30) dX12_parts_30 ic_2 ?_
    refine V_callVi (pc := 31) (As := [.int t0, .int (2 : Int32)]) (rest := []) (c_X12_throwsIf w t0 (2 : Int32) σ) cw_X12_257 rfl rfl dX12_parts_31 kc_171 ci_12 ⟨Nat.le_of_ble_eq_true rfl, Nat.le_of_ble_eq_true rfl⟩ rfl rfl (Nat.le_of_ble_eq_true rfl) (Nat.le_of_ble_eq_true rfl) (Nat.le_of_ble_eq_true rfl) rfl (fun q31 => ?_)
    refine V_if_eq (pc := 34) (tgt := 39) dX12_parts_34 (by decide +kernel) ?_ ?_
    · refine V_ldcw (pc := 39) (v := (1000000 : Int32)) dX12_parts_39 rfl ld_X12_375 ?_
      refine V_istore_n (pc := 42) (vs' := [some (.ref (wB w + 171)), some (.int p1), some (.int p2), some (.int (1000000 : Int32)), none]) dX12_parts_42 rfl (Nat.le_of_ble_eq_true rfl) (Nat.le_of_ble_eq_true rfl) rfl ?_
      refine V_iconst (pc := 43) dX12_parts_43 ic_0 ?_
      refine V_istore (pc := 44) (vs' := [some (.ref (wB w + 171)), some (.int p1), some (.int p2), some (.int (1000000 : Int32)), some (.int (0 : Int32))]) dX12_parts_44 (Nat.le_of_ble_eq_true rfl) (Nat.le_of_ble_eq_true rfl) rfl ?_
      exact hL46 q31.2 n ((1000000 : Int32), (0 : Int32))
    · refine V_sub (vs' := [none, none, none, none, none]) (show vless _ _ from trivial) rfl ?_
      exact hJ37 q31.2
  refine V_aload_n (pc := 0) dX12_parts_0 rfl rfl ?_
  refine V_iconst (pc := 1) dX12_parts_1 ic_0 ?_
  refine V_puti (pc := 2) fp_X12_3 rfl dX12_parts_2 kc_171 rf_12_0_171 (fun s2 => ?_)
  refine V_aload_n (pc := 5) dX12_parts_5 rfl rfl ?_
  refine V_aload_n (pc := 6) dX12_parts_6 rfl rfl ?_
  refine V_iload_n (pc := 7) dX12_parts_7 rfl rfl ?_
  refine V_iload_n (pc := 8) dX12_parts_8 rfl rfl ?_
  refine V_callVpi (pc := 9) (As := [.int p1, .int p2]) (rest := [.ref (wB w + 171)]) (c_X12_noBoth w p1 p2 s2) cw_X12_300 rfl rfl dX12_parts_9 kc_171 ci_12 ⟨Nat.le_of_ble_eq_true rfl, Nat.le_of_ble_eq_true rfl⟩ rfl rfl (Nat.le_of_ble_eq_true rfl) (Nat.le_of_ble_eq_true rfl) (Nat.le_of_ble_eq_true rfl) rfl (fun q9 => ?_)
  refine V_iconst (pc := 12) dX12_parts_12 ic_1 ?_
  refine V_callVi (pc := 13) (As := [.int q9, .int (1 : Int32)]) (rest := []) (c_X12_throwsIf w q9 (1 : Int32) s2) cw_X12_257 rfl rfl dX12_parts_13 kc_171 ci_12 ⟨Nat.le_of_ble_eq_true rfl, Nat.le_of_ble_eq_true rfl⟩ rfl rfl (Nat.le_of_ble_eq_true rfl) (Nat.le_of_ble_eq_true rfl) (Nat.le_of_ble_eq_true rfl) rfl (fun q13 => ?_)
  refine V_if_ne (pc := 16) (tgt := 37) dX12_parts_16 (by decide +kernel) ?_ ?_
  · refine V_sub (vs' := [none, none, none, none, none]) (show vless _ _ from trivial) rfl ?_
    exact hJ37 q13.2
  · refine V_aload_n (pc := 19) dX12_parts_19 rfl rfl ?_
    refine V_iload_n (pc := 20) dX12_parts_20 rfl rfl ?_
    refine V_iload_n (pc := 21) dX12_parts_21 rfl rfl ?_
    refine V_icmp_ne (pc := 22) (tgt := 29) dX12_parts_22 (by decide +kernel) ?_ ?_
    · refine V_iconst (pc := 29) dX12_parts_29 ic_0 ?_
      exact hJ30 (0 : Int32) q13.2
    · refine V_iconst (pc := 25) dX12_parts_25 ic_1 ?_
      refine V_goto (pc := 26) (tgt := 30) dX12_parts_26 (by decide +kernel) ?_
      exact hJ30 (1 : Int32) q13.2
def L_X12_between_28 (n : Nat) (v2 : Int32) (σ : MS) (a28 : Int32 × Int32) : Option ((Int32 × Int32) ⊕ (Int32 × MS)) := (if (8 : Int32) ≤ a28.2 then (some ((-1 : Int32), σ)).map Sum.inr else ((f_X12_has a28.1 v2 σ).bind (fun q37 => (if q37 = 0 then ((f_X12_widened n a28.1 σ).bind (fun q48 => some (.inl (q48, (a28.2 + (1 : Int32)))))) else (some (a28.2, σ)).map Sum.inr))))
def f_X12_between (n : Nat) (p1 : Int32) (p2 : Int32) (σ : MS) : Option (Int32 × MS) := (ltM (mu σ 171 0 (0 : Int32)) (fun s2 => ((f_X12_noBoth p1 p2 s2).bind (fun q9 => ((f_X12_throwsIf q9 (1 : Int32) s2).bind (fun q13 => (if q13.1 = 0 then itr (L_X12_between_28 n p2 q13.2) n ((shlI (1 : Int32) p1), (0 : Int32)) else some ((0 : Int32), q13.2))))))))
set_option maxRecDepth 20000 in
set_option maxHeartbeats 2000000 in
theorem c_X12_between (w : TG) (n : Nat) (p1 : Int32) (p2 : Int32) (σ : MS) : MC m_X12_between w [.ref (wB w + 171), .int p1, .int p2] σ (f_X12_between n p1 p2 σ) := by
  refine V_meth (by decide +kernel) (Nat.le_of_ble_eq_true rfl) (by intro v hv; simp only [List.mem_cons, List.not_mem_nil, or_false] at hv; rcases hv with rfl | rfl | rfl <;> rfl) (fun g x => ?_)
  show VV m_X12_between w g 0 0 (QM m_X12_between w g x) (fun b : Int32 × MS => b = x) 0 [some (.ref (wB w + 171)), some (.int p1), some (.int p2), none, none] [] σ (f_X12_between n p1 p2 σ)
  have hL28 : ∀ (σ : MS) (n0 : Nat) (a : Int32 × Int32), VV m_X12_between w g 0 0 (QM m_X12_between w g x) (fun b : Int32 × MS => b = x) 28 [some (.ref (wB w + 171)), none, some (.int p2), some (.int a.1), some (.int a.2)] [] σ (itr (L_X12_between_28 n p2 σ) n0 a) := by
    intro σ
    refine V_itr (vf := fun a : Int32 × Int32 => [some (.ref (wB w + 171)), none, some (.int p2), some (.int a.1), some (.int a.2)]) (sf := fun a : Int32 × Int32 => σ) (fun κ28 b28 r28 a28 => ?_)
    obtain ⟨a28_1, a28_2⟩ := a28
    show VV m_X12_between w g 0 0 (QM m_X12_between w g x) κ28 28 [some (.ref (wB w + 171)), none, some (.int p2), some (.int a28_1), some (.int a28_2)] [] σ (L_X12_between_28 n p2 σ (a28_1, a28_2))
    refine V_iload (pc := 28) dX12_between_28 rfl ?_
    refine V_bipush (pc := 30) dX12_between_30 bp_8 ?_
    refine V_icmp_ge (pc := 32) (tgt := 58) dX12_between_32 (by decide +kernel) ?_ ?_
    · refine V_exit r28 ?_
      refine V_iconst (pc := 58) dX12_between_58 ic_m1 ?_
      exact V_ireti (pc := 59) dX12_between_59 rfl (hk := fun h => h)
    · refine V_iload_n (pc := 35) dX12_between_35 rfl rfl ?_
      refine V_iload_n (pc := 36) dX12_between_36 rfl rfl ?_
      refine V_callSpi (pc := 37) (As := [.int a28_1, .int p2]) (rest := []) (c_X12_has w a28_1 p2 σ) cs_X12_76 rfl rfl dX12_between_37 ⟨Nat.le_of_ble_eq_true rfl, Nat.le_of_ble_eq_true rfl⟩ rfl rfl (Nat.le_of_ble_eq_true rfl) (Nat.le_of_ble_eq_true rfl) (Nat.le_of_ble_eq_true rfl) rfl (fun q37 => ?_)
      refine V_if_eq (pc := 40) (tgt := 46) dX12_between_40 (by decide +kernel) ?_ ?_
      · refine V_aload_n (pc := 46) dX12_between_46 rfl rfl ?_
        refine V_iload_n (pc := 47) dX12_between_47 rfl rfl ?_
        refine V_callVpi (pc := 48) (As := [.int a28_1]) (rest := []) (c_X12_widened w n a28_1 σ) cw_X12_351 rfl rfl dX12_between_48 kc_171 ci_12 ⟨Nat.le_of_ble_eq_true rfl, Nat.le_of_ble_eq_true rfl⟩ rfl rfl (Nat.le_of_ble_eq_true rfl) (Nat.le_of_ble_eq_true rfl) (Nat.le_of_ble_eq_true rfl) rfl (fun q48 => ?_)
        refine V_istore_n (pc := 51) (vs' := [some (.ref (wB w + 171)), none, some (.int p2), some (.int q48), some (.int a28_2)]) dX12_between_51 rfl (Nat.le_of_ble_eq_true rfl) (Nat.le_of_ble_eq_true rfl) rfl ?_
        refine V_iincC (pc := 52) (vs' := [some (.ref (wB w + 171)), none, some (.int p2), some (.int q48), some (.int (a28_2 + (1 : Int32)))]) dX12_between_52 (Nat.le_of_ble_eq_true rfl) rfl ic_1 rfl ?_
        refine V_goto (pc := 55) (tgt := 28) dX12_between_55 (by decide +kernel) ?_
        exact V_back (b28 (q48, (a28_2 + (1 : Int32))))
      · refine V_exit r28 ?_
        refine V_iload (pc := 43) dX12_between_43 rfl ?_
        exact V_ireti (pc := 45) dX12_between_45 rfl (hk := fun h => h)
  refine V_aload_n (pc := 0) dX12_between_0 rfl rfl ?_
  refine V_iconst (pc := 1) dX12_between_1 ic_0 ?_
  refine V_puti (pc := 2) fp_X12_3 rfl dX12_between_2 kc_171 rf_12_0_171 (fun s2 => ?_)
  refine V_aload_n (pc := 5) dX12_between_5 rfl rfl ?_
  refine V_aload_n (pc := 6) dX12_between_6 rfl rfl ?_
  refine V_iload_n (pc := 7) dX12_between_7 rfl rfl ?_
  refine V_iload_n (pc := 8) dX12_between_8 rfl rfl ?_
  refine V_callVpi (pc := 9) (As := [.int p1, .int p2]) (rest := [.ref (wB w + 171)]) (c_X12_noBoth w p1 p2 s2) cw_X12_300 rfl rfl dX12_between_9 kc_171 ci_12 ⟨Nat.le_of_ble_eq_true rfl, Nat.le_of_ble_eq_true rfl⟩ rfl rfl (Nat.le_of_ble_eq_true rfl) (Nat.le_of_ble_eq_true rfl) (Nat.le_of_ble_eq_true rfl) rfl (fun q9 => ?_)
  refine V_iconst (pc := 12) dX12_between_12 ic_1 ?_
  refine V_callVi (pc := 13) (As := [.int q9, .int (1 : Int32)]) (rest := []) (c_X12_throwsIf w q9 (1 : Int32) s2) cw_X12_257 rfl rfl dX12_between_13 kc_171 ci_12 ⟨Nat.le_of_ble_eq_true rfl, Nat.le_of_ble_eq_true rfl⟩ rfl rfl (Nat.le_of_ble_eq_true rfl) (Nat.le_of_ble_eq_true rfl) (Nat.le_of_ble_eq_true rfl) rfl (fun q13 => ?_)
  refine V_if_eq (pc := 16) (tgt := 21) dX12_between_16 (by decide +kernel) ?_ ?_
  · refine V_iconst (pc := 21) dX12_between_21 ic_1 ?_
    refine V_iload_n (pc := 22) dX12_between_22 rfl rfl ?_
    refine V_ishl (pc := 23) dX12_between_23 ?_
    refine V_istore_n (pc := 24) (vs' := [some (.ref (wB w + 171)), some (.int p1), some (.int p2), some (.int (shlI (1 : Int32) p1)), none]) dX12_between_24 rfl (Nat.le_of_ble_eq_true rfl) (Nat.le_of_ble_eq_true rfl) rfl ?_
    refine V_iconst (pc := 25) dX12_between_25 ic_0 ?_
    refine V_istore (pc := 26) (vs' := [some (.ref (wB w + 171)), some (.int p1), some (.int p2), some (.int (shlI (1 : Int32) p1)), some (.int (0 : Int32))]) dX12_between_26 (Nat.le_of_ble_eq_true rfl) (Nat.le_of_ble_eq_true rfl) rfl ?_
    refine V_sub (vs' := [some (.ref (wB w + 171)), none, some (.int p2), some (.int (shlI (1 : Int32) p1)), some (.int (0 : Int32))]) (show vless _ _ from ⟨rfl, ⟨rfl, ⟨rfl, ⟨rfl, trivial⟩⟩⟩⟩) rfl ?_
    exact hL28 q13.2 n ((shlI (1 : Int32) p1), (0 : Int32))
  · refine V_iconst (pc := 19) dX12_between_19 ic_0 ?_
    exact V_ireti (pc := 20) dX12_between_20 rfl (hk := fun h => h)
def J_X12_hub_40 (n : Nat) (v2 : Int32) (v3 : Int32) (v4 : Int32) (t0 : Int32) (σ : MS) : Option ((Int32 × Int32 × Int32) ⊕ (Int32 × MS)) := some (.inl (t0, (mxI v2 v4), (v3 + (1 : Int32))))
def L_X12_hub_11 (n : Nat)  (σ : MS) (a11 : Int32 × Int32 × Int32) : Option ((Int32 × Int32 × Int32) ⊕ (Int32 × MS)) := ((f_X12_people  σ).bind (fun q13 => (if q13 ≤ a11.2.2 then (some (a11.1, σ)).map Sum.inr else ((f_X12_boundTo n a11.2.2 σ).bind (fun q21 => ((f_J6_bitCount_0f7a4 q21 σ).bind (fun q24 => (if q24 ≤ a11.2.1 then J_X12_hub_40 n a11.2.1 a11.2.2 q24 a11.1 σ else J_X12_hub_40 n a11.2.1 a11.2.2 q24 a11.2.2 σ))))))))
def f_X12_hub (n : Nat)  (σ : MS) : Option (Int32 × MS) := (ltM (mu σ 171 0 (0 : Int32)) (fun s2 => itr (L_X12_hub_11 n  s2) n ((-1 : Int32), (0 : Int32), (0 : Int32))))
set_option maxRecDepth 20000 in
set_option maxHeartbeats 2000000 in
theorem c_X12_hub (w : TG) (n : Nat)  (σ : MS) : MC m_X12_hub w [.ref (wB w + 171)] σ (f_X12_hub n  σ) := by
  refine V_meth (by decide +kernel) (Nat.le_of_ble_eq_true rfl) (by intro v hv; simp only [List.mem_cons, List.not_mem_nil, or_false] at hv; subst hv; rfl) (fun g x => ?_)
  show VV m_X12_hub w g 0 0 (QM m_X12_hub w g x) (fun b : Int32 × MS => b = x) 0 [some (.ref (wB w + 171)), none, none, none, none] [] σ (f_X12_hub n  σ)
  have hL11 : ∀ (σ : MS) (n0 : Nat) (a : Int32 × Int32 × Int32), VV m_X12_hub w g 0 0 (QM m_X12_hub w g x) (fun b : Int32 × MS => b = x) 11 [some (.ref (wB w + 171)), some (.int a.1), some (.int a.2.1), some (.int a.2.2), none] [] σ (itr (L_X12_hub_11 n  σ) n0 a) := by
    intro σ
    refine V_itr (vf := fun a : Int32 × Int32 × Int32 => [some (.ref (wB w + 171)), some (.int a.1), some (.int a.2.1), some (.int a.2.2), none]) (sf := fun a : Int32 × Int32 × Int32 => σ) (fun κ11 b11 r11 a11 => ?_)
    obtain ⟨a11_1, a11_2, a11_3⟩ := a11
    show VV m_X12_hub w g 0 0 (QM m_X12_hub w g x) κ11 11 [some (.ref (wB w + 171)), some (.int a11_1), some (.int a11_2), some (.int a11_3), none] [] σ (L_X12_hub_11 n  σ (a11_1, a11_2, a11_3))
    have hJ40 : ∀ (v2 : Int32) (v3 : Int32) (v4 : Int32) (t0 : Int32), VV m_X12_hub w g 0 0 (QM m_X12_hub w g x) κ11 40 [some (.ref (wB w + 171)), none, some (.int v2), some (.int v3), some (.int v4)] [.int t0] σ (J_X12_hub_40 n v2 v3 v4 t0 σ) := by
      intro v2 v3 v4 t0
      refine V_istore_n (pc := 40) (vs' := [some (.ref (wB w + 171)), some (.int t0), some (.int v2), some (.int v3), some (.int v4)]) dX12_hub_40 rfl (Nat.le_of_ble_eq_true rfl) (Nat.le_of_ble_eq_true rfl) rfl ?_
      refine V_iload_n (pc := 41) dX12_hub_41 rfl rfl ?_
      refine V_iload (pc := 42) dX12_hub_42 rfl ?_
      refine V_mmax (pc := 44) dX12_hub_44 rfl mw_X12_288 (Nat.le_of_ble_eq_true rfl) (Nat.le_of_ble_eq_true rfl) (Nat.le_of_ble_eq_true rfl) (Nat.le_of_ble_eq_true rfl) ?_
      refine V_istore_n (pc := 47) (vs' := [some (.ref (wB w + 171)), some (.int t0), some (.int (mxI v2 v4)), some (.int v3), some (.int v4)]) dX12_hub_47 rfl (Nat.le_of_ble_eq_true rfl) (Nat.le_of_ble_eq_true rfl) rfl ?_
      refine V_iincC (pc := 48) (vs' := [some (.ref (wB w + 171)), some (.int t0), some (.int (mxI v2 v4)), some (.int (v3 + (1 : Int32))), some (.int v4)]) dX12_hub_48 (Nat.le_of_ble_eq_true rfl) rfl ic_1 rfl ?_
      refine V_goto (pc := 51) (tgt := 11) dX12_hub_51 (by decide +kernel) ?_
      refine V_sub (vs' := [some (.ref (wB w + 171)), some (.int t0), some (.int (mxI v2 v4)), some (.int (v3 + (1 : Int32))), none]) (show vless _ _ from ⟨rfl, ⟨rfl, ⟨rfl, ⟨rfl, trivial⟩⟩⟩⟩) rfl ?_
      exact V_back (b11 (t0, (mxI v2 v4), (v3 + (1 : Int32))))
    refine V_iload_n (pc := 11) dX12_hub_11 rfl rfl ?_
    refine V_aload_n (pc := 12) dX12_hub_12 rfl rfl ?_
    refine V_callVpi (pc := 13) (As := []) (rest := [.int a11_3]) (c_X12_people w  σ) cw_X12_58 rfl rfl dX12_hub_13 kc_171 ci_12 ⟨Nat.le_of_ble_eq_true rfl, Nat.le_of_ble_eq_true rfl⟩ rfl rfl (Nat.le_of_ble_eq_true rfl) (Nat.le_of_ble_eq_true rfl) (Nat.le_of_ble_eq_true rfl) rfl (fun q13 => ?_)
    refine V_icmp_ge (pc := 16) (tgt := 54) dX12_hub_16 (by decide +kernel) ?_ ?_
    · refine V_exit r11 ?_
      refine V_iload_n (pc := 54) dX12_hub_54 rfl rfl ?_
      exact V_ireti (pc := 55) dX12_hub_55 rfl (hk := fun h => h)
    · refine V_aload_n (pc := 19) dX12_hub_19 rfl rfl ?_
      refine V_iload_n (pc := 20) dX12_hub_20 rfl rfl ?_
      refine V_callVpi (pc := 21) (As := [.int a11_3]) (rest := []) (c_X12_boundTo w n a11_3 σ) cw_X12_348 rfl rfl dX12_hub_21 kc_171 ci_12 ⟨Nat.le_of_ble_eq_true rfl, Nat.le_of_ble_eq_true rfl⟩ rfl rfl (Nat.le_of_ble_eq_true rfl) (Nat.le_of_ble_eq_true rfl) (Nat.le_of_ble_eq_true rfl) rfl (fun q21 => ?_)
      refine V_callSpi (pc := 24) (As := [.int q21]) (rest := []) (c_J6_bitCount_0f7a4 w q21 σ) cs_X12_318 rfl rfl dX12_hub_24 ⟨Nat.le_of_ble_eq_true rfl, Nat.le_of_ble_eq_true rfl⟩ rfl rfl (Nat.le_of_ble_eq_true rfl) (Nat.le_of_ble_eq_true rfl) (Nat.le_of_ble_eq_true rfl) rfl (fun q24 => ?_)
      refine V_istore (pc := 27) (vs' := [some (.ref (wB w + 171)), some (.int a11_1), some (.int a11_2), some (.int a11_3), some (.int q24)]) dX12_hub_27 (Nat.le_of_ble_eq_true rfl) (Nat.le_of_ble_eq_true rfl) rfl ?_
      refine V_iload (pc := 29) dX12_hub_29 rfl ?_
      refine V_iload_n (pc := 31) dX12_hub_31 rfl rfl ?_
      refine V_icmp_le (pc := 32) (tgt := 39) dX12_hub_32 (by decide +kernel) ?_ ?_
      · refine V_iload_n (pc := 39) dX12_hub_39 rfl rfl ?_
        refine V_sub (vs' := [some (.ref (wB w + 171)), none, some (.int a11_2), some (.int a11_3), some (.int q24)]) (show vless _ _ from ⟨rfl, ⟨rfl, ⟨rfl, ⟨rfl, trivial⟩⟩⟩⟩) rfl ?_
        exact hJ40 a11_2 a11_3 q24 a11_1
      · refine V_iload_n (pc := 35) dX12_hub_35 rfl rfl ?_
        refine V_goto (pc := 36) (tgt := 40) dX12_hub_36 (by decide +kernel) ?_
        refine V_sub (vs' := [some (.ref (wB w + 171)), none, some (.int a11_2), some (.int a11_3), some (.int q24)]) (show vless _ _ from ⟨rfl, ⟨rfl, ⟨rfl, ⟨rfl, trivial⟩⟩⟩⟩) rfl ?_
        exact hJ40 a11_2 a11_3 q24 a11_3
  refine V_aload_n (pc := 0) dX12_hub_0 rfl rfl ?_
  refine V_iconst (pc := 1) dX12_hub_1 ic_0 ?_
  refine V_puti (pc := 2) fp_X12_3 rfl dX12_hub_2 kc_171 rf_12_0_171 (fun s2 => ?_)
  refine V_iconst (pc := 5) dX12_hub_5 ic_m1 ?_
  refine V_istore_n (pc := 6) (vs' := [some (.ref (wB w + 171)), some (.int (-1 : Int32)), none, none, none]) dX12_hub_6 rfl (Nat.le_of_ble_eq_true rfl) (Nat.le_of_ble_eq_true rfl) rfl ?_
  refine V_iconst (pc := 7) dX12_hub_7 ic_0 ?_
  refine V_istore_n (pc := 8) (vs' := [some (.ref (wB w + 171)), some (.int (-1 : Int32)), some (.int (0 : Int32)), none, none]) dX12_hub_8 rfl (Nat.le_of_ble_eq_true rfl) (Nat.le_of_ble_eq_true rfl) rfl ?_
  refine V_iconst (pc := 9) dX12_hub_9 ic_0 ?_
  refine V_istore_n (pc := 10) (vs' := [some (.ref (wB w + 171)), some (.int (-1 : Int32)), some (.int (0 : Int32)), some (.int (0 : Int32)), none]) dX12_hub_10 rfl (Nat.le_of_ble_eq_true rfl) (Nat.le_of_ble_eq_true rfl) rfl ?_
  exact hL11 s2 n ((-1 : Int32), (0 : Int32), (0 : Int32))
def J_X12_allTold_57 (n : Nat) (v1 : Int32) (v3 : Int32) (v4 : Int32) (t0 : Int32) (σ : MS) : Option ((Int32 × Int32) ⊕ ((Int32 × Int32) ⊕ (Int32))) := some (.inl (t0, (v4 + (1 : Int32))))
def J_X12_allTold_56 (n : Nat) (v1 : Int32) (v3 : Int32) (v4 : Int32) (σ : MS) : Option ((Int32 × Int32) ⊕ ((Int32 × Int32) ⊕ (Int32))) := J_X12_allTold_57 n v1 v3 v4 (0 : Int32) σ
def J_X12_allTold_52 (n : Nat) (v1 : Int32) (v3 : Int32) (v4 : Int32) (σ : MS) : Option ((Int32 × Int32) ⊕ ((Int32 × Int32) ⊕ (Int32))) := J_X12_allTold_57 n v1 v3 v4 (1 : Int32) σ
def L_X12_allTold_15 (n : Nat) (v1 : Int32) (v3 : Int32) (σ : MS) (a15 : Int32 × Int32) : Option ((Int32 × Int32) ⊕ ((Int32 × Int32) ⊕ (Int32))) := (if v3 ≤ a15.2 then (some (.inl (a15.1, (v3 + (1 : Int32))))).map Sum.inr else (if a15.1 = 0 then J_X12_allTold_56 n v1 v3 a15.2 σ else ((f_X12_isSecret v3 a15.2 σ).bind (fun q29 => (if q29 = 0 then J_X12_allTold_52 n v1 v3 a15.2 σ else ((f_X12_has v1 v3 σ).bind (fun q37 => (if q37 = 0 then ((f_X12_has v1 a15.2 σ).bind (fun q46 => (if q46 = 0 then J_X12_allTold_56 n v1 v3 a15.2 σ else J_X12_allTold_52 n v1 v3 a15.2 σ))) else J_X12_allTold_52 n v1 v3 a15.2 σ))))))))
def L_X12_allTold_4 (n : Nat) (v1 : Int32) (σ : MS) (a4 : Int32 × Int32) : Option ((Int32 × Int32) ⊕ (Int32)) := ((f_X12_people  σ).bind (fun q6 => (if q6 ≤ a4.2 then ((if a4.1 = 0 ∨ a4.1 = 1 then some a4.1 else none)).map Sum.inr else itr (L_X12_allTold_15 n v1 a4.2 σ) n (a4.1, (0 : Int32)))))
def f_X12_allTold (n : Nat) (p1 : Int32) (σ : MS) : Option (Int32) := itr (L_X12_allTold_4 n p1 σ) n ((1 : Int32), (0 : Int32))
set_option maxRecDepth 20000 in
set_option maxHeartbeats 2000000 in
theorem c_X12_allTold (w : TG) (n : Nat) (p1 : Int32) (σ : MS) : MC m_X12_allTold w [.ref (wB w + 171), .int p1] σ ((f_X12_allTold n p1 σ).map (fun r => (r, σ))) := by
  refine V_methp (by decide +kernel) (Nat.le_of_ble_eq_true rfl) (by intro v hv; simp only [List.mem_cons, List.not_mem_nil, or_false] at hv; rcases hv with rfl | rfl <;> rfl) (fun g x => ?_)
  show VV m_X12_allTold w g 0 0 (QM m_X12_allTold w g x) (fun b : Int32 => (b, σ) = x) 0 [some (.ref (wB w + 171)), some (.int p1), none, none, none] [] σ (f_X12_allTold n p1 σ)
  have hL4 : ∀  (n0 : Nat) (a : Int32 × Int32), VV m_X12_allTold w g 0 0 (QM m_X12_allTold w g x) (fun b : Int32 => (b, σ) = x) 4 [some (.ref (wB w + 171)), some (.int p1), some (.int a.1), some (.int a.2), none] [] σ (itr (L_X12_allTold_4 n p1 σ) n0 a) := by
    refine V_itr (vf := fun a : Int32 × Int32 => [some (.ref (wB w + 171)), some (.int p1), some (.int a.1), some (.int a.2), none]) (sf := fun a : Int32 × Int32 => σ) (fun κ4 b4 r4 a4 => ?_)
    obtain ⟨a4_1, a4_2⟩ := a4
    show VV m_X12_allTold w g 0 0 (QM m_X12_allTold w g x) κ4 4 [some (.ref (wB w + 171)), some (.int p1), some (.int a4_1), some (.int a4_2), none] [] σ (L_X12_allTold_4 n p1 σ (a4_1, a4_2))
    have hL15 : ∀ (v3 : Int32) (n0 : Nat) (a : Int32 × Int32), VV m_X12_allTold w g 0 0 (QM m_X12_allTold w g x) κ4 15 [some (.ref (wB w + 171)), some (.int p1), some (.int a.1), some (.int v3), some (.int a.2)] [] σ (itr (L_X12_allTold_15 n p1 v3 σ) n0 a) := by
      intro v3
      refine V_itr (vf := fun a : Int32 × Int32 => [some (.ref (wB w + 171)), some (.int p1), some (.int a.1), some (.int v3), some (.int a.2)]) (sf := fun a : Int32 × Int32 => σ) (fun κ15 b15 r15 a15 => ?_)
      obtain ⟨a15_1, a15_2⟩ := a15
      show VV m_X12_allTold w g 0 0 (QM m_X12_allTold w g x) κ15 15 [some (.ref (wB w + 171)), some (.int p1), some (.int a15_1), some (.int v3), some (.int a15_2)] [] σ (L_X12_allTold_15 n p1 v3 σ (a15_1, a15_2))
      have hJ57 : ∀ (v4 : Int32) (t0 : Int32), VV m_X12_allTold w g 0 0 (QM m_X12_allTold w g x) κ15 57 [some (.ref (wB w + 171)), some (.int p1), none, some (.int v3), some (.int v4)] [.int t0] σ (J_X12_allTold_57 n p1 v3 v4 t0 σ) := by
        intro v4 t0
        refine V_istore_n (pc := 57) (vs' := [some (.ref (wB w + 171)), some (.int p1), some (.int t0), some (.int v3), some (.int v4)]) dX12_allTold_57 rfl (Nat.le_of_ble_eq_true rfl) (Nat.le_of_ble_eq_true rfl) rfl ?_
        refine V_iincC (pc := 58) (vs' := [some (.ref (wB w + 171)), some (.int p1), some (.int t0), some (.int v3), some (.int (v4 + (1 : Int32)))]) dX12_allTold_58 (Nat.le_of_ble_eq_true rfl) rfl ic_1 rfl ?_
        refine V_goto (pc := 61) (tgt := 15) dX12_allTold_61 (by decide +kernel) ?_
        exact V_back (b15 (t0, (v4 + (1 : Int32))))
      have hJ56 : ∀ (v4 : Int32), VV m_X12_allTold w g 0 0 (QM m_X12_allTold w g x) κ15 56 [some (.ref (wB w + 171)), some (.int p1), none, some (.int v3), some (.int v4)] [] σ (J_X12_allTold_56 n p1 v3 v4 σ) := by
        intro v4
        refine V_iconst (pc := 56) dX12_allTold_56 ic_0 ?_
        exact hJ57 v4 (0 : Int32)
      have hJ52 : ∀ (v4 : Int32), VV m_X12_allTold w g 0 0 (QM m_X12_allTold w g x) κ15 52 [some (.ref (wB w + 171)), some (.int p1), none, some (.int v3), some (.int v4)] [] σ (J_X12_allTold_52 n p1 v3 v4 σ) := by
        intro v4
        refine V_iconst (pc := 52) dX12_allTold_52 ic_1 ?_
        refine V_goto (pc := 53) (tgt := 57) dX12_allTold_53 (by decide +kernel) ?_
        exact hJ57 v4 (1 : Int32)
      refine V_iload (pc := 15) dX12_allTold_15 rfl ?_
      refine V_iload_n (pc := 17) dX12_allTold_17 rfl rfl ?_
      refine V_icmp_ge (pc := 18) (tgt := 64) dX12_allTold_18 (by decide +kernel) ?_ ?_
      · refine V_exit r15 ?_
        refine V_iincC (pc := 64) (vs' := [some (.ref (wB w + 171)), some (.int p1), some (.int a15_1), some (.int (v3 + (1 : Int32))), some (.int a15_2)]) dX12_allTold_64 (Nat.le_of_ble_eq_true rfl) rfl ic_1 rfl ?_
        refine V_goto (pc := 67) (tgt := 4) dX12_allTold_67 (by decide +kernel) ?_
        refine V_sub (vs' := [some (.ref (wB w + 171)), some (.int p1), some (.int a15_1), some (.int (v3 + (1 : Int32))), none]) (show vless _ _ from ⟨rfl, ⟨rfl, ⟨rfl, ⟨rfl, trivial⟩⟩⟩⟩) rfl ?_
        exact V_back (b4 (a15_1, (v3 + (1 : Int32))))
      · refine V_iload_n (pc := 21) dX12_allTold_21 rfl rfl ?_
        refine V_if_eq (pc := 22) (tgt := 56) dX12_allTold_22 (by decide +kernel) ?_ ?_
        · refine V_sub (vs' := [some (.ref (wB w + 171)), some (.int p1), none, some (.int v3), some (.int a15_2)]) (show vless _ _ from ⟨rfl, ⟨rfl, ⟨rfl, ⟨rfl, trivial⟩⟩⟩⟩) rfl ?_
          exact hJ56 a15_2
        · refine V_aload_n (pc := 25) dX12_allTold_25 rfl rfl ?_
          refine V_iload_n (pc := 26) dX12_allTold_26 rfl rfl ?_
          refine V_iload (pc := 27) dX12_allTold_27 rfl ?_
          refine V_callVpi (pc := 29) (As := [.int v3, .int a15_2]) (rest := []) (c_X12_isSecret w v3 a15_2 σ) cw_X12_372 rfl rfl dX12_allTold_29 kc_171 ci_12 ⟨Nat.le_of_ble_eq_true rfl, Nat.le_of_ble_eq_true rfl⟩ rfl rfl (Nat.le_of_ble_eq_true rfl) (Nat.le_of_ble_eq_true rfl) (Nat.le_of_ble_eq_true rfl) rfl (fun q29 => ?_)
          refine V_if_eq (pc := 32) (tgt := 52) dX12_allTold_32 (by decide +kernel) ?_ ?_
          · refine V_sub (vs' := [some (.ref (wB w + 171)), some (.int p1), none, some (.int v3), some (.int a15_2)]) (show vless _ _ from ⟨rfl, ⟨rfl, ⟨rfl, ⟨rfl, trivial⟩⟩⟩⟩) rfl ?_
            exact hJ52 a15_2
          · refine V_iload_n (pc := 35) dX12_allTold_35 rfl rfl ?_
            refine V_iload_n (pc := 36) dX12_allTold_36 rfl rfl ?_
            refine V_callSpi (pc := 37) (As := [.int p1, .int v3]) (rest := []) (c_X12_has w p1 v3 σ) cs_X12_76 rfl rfl dX12_allTold_37 ⟨Nat.le_of_ble_eq_true rfl, Nat.le_of_ble_eq_true rfl⟩ rfl rfl (Nat.le_of_ble_eq_true rfl) (Nat.le_of_ble_eq_true rfl) (Nat.le_of_ble_eq_true rfl) rfl (fun q37 => ?_)
            refine V_if_ne (pc := 40) (tgt := 52) dX12_allTold_40 (by decide +kernel) ?_ ?_
            · refine V_sub (vs' := [some (.ref (wB w + 171)), some (.int p1), none, some (.int v3), some (.int a15_2)]) (show vless _ _ from ⟨rfl, ⟨rfl, ⟨rfl, ⟨rfl, trivial⟩⟩⟩⟩) rfl ?_
              exact hJ52 a15_2
            · refine V_iload_n (pc := 43) dX12_allTold_43 rfl rfl ?_
              refine V_iload (pc := 44) dX12_allTold_44 rfl ?_
              refine V_callSpi (pc := 46) (As := [.int p1, .int a15_2]) (rest := []) (c_X12_has w p1 a15_2 σ) cs_X12_76 rfl rfl dX12_allTold_46 ⟨Nat.le_of_ble_eq_true rfl, Nat.le_of_ble_eq_true rfl⟩ rfl rfl (Nat.le_of_ble_eq_true rfl) (Nat.le_of_ble_eq_true rfl) (Nat.le_of_ble_eq_true rfl) rfl (fun q46 => ?_)
              refine V_if_eq (pc := 49) (tgt := 56) dX12_allTold_49 (by decide +kernel) ?_ ?_
              · refine V_sub (vs' := [some (.ref (wB w + 171)), some (.int p1), none, some (.int v3), some (.int a15_2)]) (show vless _ _ from ⟨rfl, ⟨rfl, ⟨rfl, ⟨rfl, trivial⟩⟩⟩⟩) rfl ?_
                exact hJ56 a15_2
              · refine V_sub (vs' := [some (.ref (wB w + 171)), some (.int p1), none, some (.int v3), some (.int a15_2)]) (show vless _ _ from ⟨rfl, ⟨rfl, ⟨rfl, ⟨rfl, trivial⟩⟩⟩⟩) rfl ?_
                exact hJ52 a15_2
    refine V_iload_n (pc := 4) dX12_allTold_4 rfl rfl ?_
    refine V_aload_n (pc := 5) dX12_allTold_5 rfl rfl ?_
    refine V_callVpi (pc := 6) (As := []) (rest := [.int a4_2]) (c_X12_people w  σ) cw_X12_58 rfl rfl dX12_allTold_6 kc_171 ci_12 ⟨Nat.le_of_ble_eq_true rfl, Nat.le_of_ble_eq_true rfl⟩ rfl rfl (Nat.le_of_ble_eq_true rfl) (Nat.le_of_ble_eq_true rfl) (Nat.le_of_ble_eq_true rfl) rfl (fun q6 => ?_)
    refine V_icmp_ge (pc := 9) (tgt := 70) dX12_allTold_9 (by decide +kernel) ?_ ?_
    · refine V_exit r4 ?_
      refine V_iload_n (pc := 70) dX12_allTold_70 rfl rfl ?_
      exact V_iretZ (pc := 71) dX12_allTold_71 rfl (hk := fun h => h)
    · refine V_iconst (pc := 12) dX12_allTold_12 ic_0 ?_
      refine V_istore (pc := 13) (vs' := [some (.ref (wB w + 171)), some (.int p1), some (.int a4_1), some (.int a4_2), some (.int (0 : Int32))]) dX12_allTold_13 (Nat.le_of_ble_eq_true rfl) (Nat.le_of_ble_eq_true rfl) rfl ?_
      exact hL15 a4_2 n (a4_1, (0 : Int32))
  refine V_iconst (pc := 0) dX12_allTold_0 ic_1 ?_
  refine V_istore_n (pc := 1) (vs' := [some (.ref (wB w + 171)), some (.int p1), some (.int (1 : Int32)), none, none]) dX12_allTold_1 rfl (Nat.le_of_ble_eq_true rfl) (Nat.le_of_ble_eq_true rfl) rfl ?_
  refine V_iconst (pc := 2) dX12_allTold_2 ic_0 ?_
  refine V_istore_n (pc := 3) (vs' := [some (.ref (wB w + 171)), some (.int p1), some (.int (1 : Int32)), some (.int (0 : Int32)), none]) dX12_allTold_3 rfl (Nat.le_of_ble_eq_true rfl) (Nat.le_of_ble_eq_true rfl) rfl ?_
  exact hL4 n ((1 : Int32), (0 : Int32))
def J_X12_tell_40 (n : Nat) (v2 : Int32) (t0 : Int32) (σ : MS) : Option ((Int32 × Int32) ⊕ (Int32 × MS)) := some (.inl (t0, (v2 + (-1 : Int32))))
def J_X12_tell_39 (n : Nat) (v1 : Int32) (v2 : Int32) (σ : MS) : Option ((Int32 × Int32) ⊕ (Int32 × MS)) := J_X12_tell_40 n v2 v1 σ
def L_X12_tell_12 (n : Nat)  (σ : MS) (a12 : Int32 × Int32) : Option ((Int32 × Int32) ⊕ (Int32 × MS)) := (if a12.2 < 0 then (some (a12.1, σ)).map Sum.inr else ((f_J6_bitCount_0f7a4 a12.2 σ).bind (fun q17 => ((f_J6_bitCount_0f7a4 a12.1 σ).bind (fun q21 => (if q21 < q17 then J_X12_tell_39 n a12.1 a12.2 σ else ((f_X12_allTold n a12.2 σ).bind (fun q29 => (if q29 = 0 then J_X12_tell_39 n a12.1 a12.2 σ else J_X12_tell_40 n a12.2 a12.2 σ)))))))))
def f_X12_tell (n : Nat)  (σ : MS) : Option (Int32 × MS) := (ltM (mu σ 171 0 (0 : Int32)) (fun s2 => ((f_X12_everybody  s2).bind (fun q6 => itr (L_X12_tell_12 n  s2) n (q6, q6)))))
set_option maxRecDepth 20000 in
set_option maxHeartbeats 2000000 in
theorem c_X12_tell (w : TG) (n : Nat)  (σ : MS) : MC m_X12_tell w [.ref (wB w + 171)] σ (f_X12_tell n  σ) := by
  refine V_meth (by decide +kernel) (Nat.le_of_ble_eq_true rfl) (by intro v hv; simp only [List.mem_cons, List.not_mem_nil, or_false] at hv; subst hv; rfl) (fun g x => ?_)
  show VV m_X12_tell w g 0 0 (QM m_X12_tell w g x) (fun b : Int32 × MS => b = x) 0 [some (.ref (wB w + 171)), none, none] [] σ (f_X12_tell n  σ)
  have hL12 : ∀ (σ : MS) (n0 : Nat) (a : Int32 × Int32), VV m_X12_tell w g 0 0 (QM m_X12_tell w g x) (fun b : Int32 × MS => b = x) 12 [some (.ref (wB w + 171)), some (.int a.1), some (.int a.2)] [] σ (itr (L_X12_tell_12 n  σ) n0 a) := by
    intro σ
    refine V_itr (vf := fun a : Int32 × Int32 => [some (.ref (wB w + 171)), some (.int a.1), some (.int a.2)]) (sf := fun a : Int32 × Int32 => σ) (fun κ12 b12 r12 a12 => ?_)
    obtain ⟨a12_1, a12_2⟩ := a12
    show VV m_X12_tell w g 0 0 (QM m_X12_tell w g x) κ12 12 [some (.ref (wB w + 171)), some (.int a12_1), some (.int a12_2)] [] σ (L_X12_tell_12 n  σ (a12_1, a12_2))
    have hJ40 : ∀ (v2 : Int32) (t0 : Int32), VV m_X12_tell w g 0 0 (QM m_X12_tell w g x) κ12 40 [some (.ref (wB w + 171)), none, some (.int v2)] [.int t0] σ (J_X12_tell_40 n v2 t0 σ) := by
      intro v2 t0
      refine V_istore_n (pc := 40) (vs' := [some (.ref (wB w + 171)), some (.int t0), some (.int v2)]) dX12_tell_40 rfl (Nat.le_of_ble_eq_true rfl) (Nat.le_of_ble_eq_true rfl) rfl ?_
      refine V_iincC (pc := 41) (vs' := [some (.ref (wB w + 171)), some (.int t0), some (.int (v2 + (-1 : Int32)))]) dX12_tell_41 (Nat.le_of_ble_eq_true rfl) rfl ic_m1 rfl ?_
      refine V_goto (pc := 44) (tgt := 12) dX12_tell_44 (by decide +kernel) ?_
      exact V_back (b12 (t0, (v2 + (-1 : Int32))))
    have hJ39 : ∀ (v1 : Int32) (v2 : Int32), VV m_X12_tell w g 0 0 (QM m_X12_tell w g x) κ12 39 [some (.ref (wB w + 171)), some (.int v1), some (.int v2)] [] σ (J_X12_tell_39 n v1 v2 σ) := by
      intro v1 v2
      refine V_iload_n (pc := 39) dX12_tell_39 rfl rfl ?_
      refine V_sub (vs' := [some (.ref (wB w + 171)), none, some (.int v2)]) (show vless _ _ from ⟨rfl, ⟨rfl, trivial⟩⟩) rfl ?_
      exact hJ40 v2 v1
    refine V_iload_n (pc := 12) dX12_tell_12 rfl rfl ?_
    refine V_if_lt (pc := 13) (tgt := 47) dX12_tell_13 (by decide +kernel) ?_ ?_
    · refine V_exit r12 ?_
      refine V_iload_n (pc := 47) dX12_tell_47 rfl rfl ?_
      exact V_ireti (pc := 48) dX12_tell_48 rfl (hk := fun h => h)
    · refine V_iload_n (pc := 16) dX12_tell_16 rfl rfl ?_
      refine V_callSpi (pc := 17) (As := [.int a12_2]) (rest := []) (c_J6_bitCount_0f7a4 w a12_2 σ) cs_X12_318 rfl rfl dX12_tell_17 ⟨Nat.le_of_ble_eq_true rfl, Nat.le_of_ble_eq_true rfl⟩ rfl rfl (Nat.le_of_ble_eq_true rfl) (Nat.le_of_ble_eq_true rfl) (Nat.le_of_ble_eq_true rfl) rfl (fun q17 => ?_)
      refine V_iload_n (pc := 20) dX12_tell_20 rfl rfl ?_
      refine V_callSpi (pc := 21) (As := [.int a12_1]) (rest := [.int q17]) (c_J6_bitCount_0f7a4 w a12_1 σ) cs_X12_318 rfl rfl dX12_tell_21 ⟨Nat.le_of_ble_eq_true rfl, Nat.le_of_ble_eq_true rfl⟩ rfl rfl (Nat.le_of_ble_eq_true rfl) (Nat.le_of_ble_eq_true rfl) (Nat.le_of_ble_eq_true rfl) rfl (fun q21 => ?_)
      refine V_icmp_gt (pc := 24) (tgt := 39) dX12_tell_24 (by decide +kernel) ?_ ?_
      · exact hJ39 a12_1 a12_2
      · refine V_aload_n (pc := 27) dX12_tell_27 rfl rfl ?_
        refine V_iload_n (pc := 28) dX12_tell_28 rfl rfl ?_
        refine V_callVpi (pc := 29) (As := [.int a12_2]) (rest := []) (c_X12_allTold w n a12_2 σ) cw_X12_379 rfl rfl dX12_tell_29 kc_171 ci_12 ⟨Nat.le_of_ble_eq_true rfl, Nat.le_of_ble_eq_true rfl⟩ rfl rfl (Nat.le_of_ble_eq_true rfl) (Nat.le_of_ble_eq_true rfl) (Nat.le_of_ble_eq_true rfl) rfl (fun q29 => ?_)
        refine V_if_eq (pc := 32) (tgt := 39) dX12_tell_32 (by decide +kernel) ?_ ?_
        · exact hJ39 a12_1 a12_2
        · refine V_iload_n (pc := 35) dX12_tell_35 rfl rfl ?_
          refine V_goto (pc := 36) (tgt := 40) dX12_tell_36 (by decide +kernel) ?_
          refine V_sub (vs' := [some (.ref (wB w + 171)), none, some (.int a12_2)]) (show vless _ _ from ⟨rfl, ⟨rfl, trivial⟩⟩) rfl ?_
          exact hJ40 a12_2 a12_2
  refine V_aload_n (pc := 0) dX12_tell_0 rfl rfl ?_
  refine V_iconst (pc := 1) dX12_tell_1 ic_0 ?_
  refine V_puti (pc := 2) fp_X12_3 rfl dX12_tell_2 kc_171 rf_12_0_171 (fun s2 => ?_)
  refine V_aload_n (pc := 5) dX12_tell_5 rfl rfl ?_
  refine V_callVpi (pc := 6) (As := []) (rest := []) (c_X12_everybody w  s2) cw_X12_327 rfl rfl dX12_tell_6 kc_171 ci_12 ⟨Nat.le_of_ble_eq_true rfl, Nat.le_of_ble_eq_true rfl⟩ rfl rfl (Nat.le_of_ble_eq_true rfl) (Nat.le_of_ble_eq_true rfl) (Nat.le_of_ble_eq_true rfl) rfl (fun q6 => ?_)
  refine V_istore_n (pc := 9) (vs' := [some (.ref (wB w + 171)), some (.int q6), none]) dX12_tell_9 rfl (Nat.le_of_ble_eq_true rfl) (Nat.le_of_ble_eq_true rfl) rfl ?_
  refine V_iload_n (pc := 10) dX12_tell_10 rfl rfl ?_
  refine V_istore_n (pc := 11) (vs' := [some (.ref (wB w + 171)), some (.int q6), some (.int q6)]) dX12_tell_11 rfl (Nat.le_of_ble_eq_true rfl) (Nat.le_of_ble_eq_true rfl) rfl ?_
  exact hL12 s2 n (q6, q6)
def J_X12_lovers_95 (n : Nat) (t0 : Int32) (σ : MS) : Option (Int32 × MS) := some (t0, σ)
def J_X12_lovers_74 (n : Nat) (v1 : Int32) (v4 : Int32) (v2 : Int32) (v3 : Int32) (v5 : Int32) (σ : MS) : Option ((Int32 × Int32 × Int32) ⊕ ((Int32 × Int32 × Int32) ⊕ (Int32 × MS))) := some (.inl (v2, v3, (v5 + (-1 : Int32))))
def L_X12_lovers_30 (n : Nat) (v1 : Int32) (v4 : Int32) (σ : MS) (a30 : Int32 × Int32 × Int32) : Option ((Int32 × Int32 × Int32) ⊕ ((Int32 × Int32 × Int32) ⊕ (Int32 × MS))) := (if a30.2.2 ≤ v4 then (some (.inl (a30.1, a30.2.1, (v4 + (-1 : Int32))))).map Sum.inr else ((f_X12_isGladder n v4 a30.2.2 σ).bind (fun q42 => (if q42 = 0 then J_X12_lovers_74 n v1 v4 a30.1 a30.2.1 a30.2.2 σ else ((f_X12_isGladder n a30.2.2 v4 σ).bind (fun q53 => (if q53 = 0 then J_X12_lovers_74 n v1 v4 a30.1 a30.2.1 a30.2.2 σ else J_X12_lovers_74 n v1 v4 (a30.1 + (1 : Int32)) (((10 : Int32) * v4) + a30.2.2) a30.2.2 σ)))))))
def L_X12_lovers_17 (n : Nat) (v1 : Int32) (σ : MS) (a17 : Int32 × Int32 × Int32) : Option ((Int32 × Int32 × Int32) ⊕ (Int32 × MS)) := (if a17.2.2 < 0 then ((if v1 = 0 then J_X12_lovers_95 n a17.1 σ else J_X12_lovers_95 n a17.2.1 σ)).map Sum.inr else ((f_X12_people  σ).bind (fun q23 => itr (L_X12_lovers_30 n v1 a17.2.2 σ) n (a17.1, a17.2.1, (q23 - (1 : Int32))))))
def f_X12_lovers (n : Nat) (p1 : Int32) (σ : MS) : Option (Int32 × MS) := (ltM (mu σ 171 0 (0 : Int32)) (fun s2 => ((f_X12_people  s2).bind (fun q10 => itr (L_X12_lovers_17 n p1 s2) n ((0 : Int32), (-1 : Int32), (q10 - (1 : Int32)))))))
set_option maxRecDepth 20000 in
set_option maxHeartbeats 2000000 in
theorem c_X12_lovers (w : TG) (n : Nat) (p1 : Int32) (σ : MS) : MC m_X12_lovers w [.ref (wB w + 171), .int p1] σ (f_X12_lovers n p1 σ) := by
  refine V_meth (by decide +kernel) (Nat.le_of_ble_eq_true rfl) (by intro v hv; simp only [List.mem_cons, List.not_mem_nil, or_false] at hv; rcases hv with rfl | rfl <;> rfl) (fun g x => ?_)
  show VV m_X12_lovers w g 0 0 (QM m_X12_lovers w g x) (fun b : Int32 × MS => b = x) 0 [some (.ref (wB w + 171)), some (.int p1), none, none, none, none] [] σ (f_X12_lovers n p1 σ)
  have hJ95 : ∀ (t0 : Int32) (σ : MS), VV m_X12_lovers w g 0 0 (QM m_X12_lovers w g x) (fun b : Int32 × MS => b = x) 95 [none, none, none, none, none, none] [.int t0] σ (J_X12_lovers_95 n t0 σ) := by
    intro t0 σ
    exact V_ireti (pc := 95) dX12_lovers_95 rfl (hk := fun h => h)
  have hL17 : ∀ (σ : MS) (n0 : Nat) (a : Int32 × Int32 × Int32), VV m_X12_lovers w g 0 0 (QM m_X12_lovers w g x) (fun b : Int32 × MS => b = x) 17 [some (.ref (wB w + 171)), some (.int p1), some (.int a.1), some (.int a.2.1), some (.int a.2.2), none] [] σ (itr (L_X12_lovers_17 n p1 σ) n0 a) := by
    intro σ
    refine V_itr (vf := fun a : Int32 × Int32 × Int32 => [some (.ref (wB w + 171)), some (.int p1), some (.int a.1), some (.int a.2.1), some (.int a.2.2), none]) (sf := fun a : Int32 × Int32 × Int32 => σ) (fun κ17 b17 r17 a17 => ?_)
    obtain ⟨a17_1, a17_2, a17_3⟩ := a17
    show VV m_X12_lovers w g 0 0 (QM m_X12_lovers w g x) κ17 17 [some (.ref (wB w + 171)), some (.int p1), some (.int a17_1), some (.int a17_2), some (.int a17_3), none] [] σ (L_X12_lovers_17 n p1 σ (a17_1, a17_2, a17_3))
    have hL30 : ∀ (v4 : Int32) (n0 : Nat) (a : Int32 × Int32 × Int32), VV m_X12_lovers w g 0 0 (QM m_X12_lovers w g x) κ17 30 [some (.ref (wB w + 171)), some (.int p1), some (.int a.1), some (.int a.2.1), some (.int v4), some (.int a.2.2)] [] σ (itr (L_X12_lovers_30 n p1 v4 σ) n0 a) := by
      intro v4
      refine V_itr (vf := fun a : Int32 × Int32 × Int32 => [some (.ref (wB w + 171)), some (.int p1), some (.int a.1), some (.int a.2.1), some (.int v4), some (.int a.2.2)]) (sf := fun a : Int32 × Int32 × Int32 => σ) (fun κ30 b30 r30 a30 => ?_)
      obtain ⟨a30_1, a30_2, a30_3⟩ := a30
      show VV m_X12_lovers w g 0 0 (QM m_X12_lovers w g x) κ30 30 [some (.ref (wB w + 171)), some (.int p1), some (.int a30_1), some (.int a30_2), some (.int v4), some (.int a30_3)] [] σ (L_X12_lovers_30 n p1 v4 σ (a30_1, a30_2, a30_3))
      have hJ74 : ∀ (v2 : Int32) (v3 : Int32) (v5 : Int32), VV m_X12_lovers w g 0 0 (QM m_X12_lovers w g x) κ30 74 [some (.ref (wB w + 171)), some (.int p1), some (.int v2), some (.int v3), some (.int v4), some (.int v5)] [] σ (J_X12_lovers_74 n p1 v4 v2 v3 v5 σ) := by
        intro v2 v3 v5
        refine V_iincC (pc := 74) (vs' := [some (.ref (wB w + 171)), some (.int p1), some (.int v2), some (.int v3), some (.int v4), some (.int (v5 + (-1 : Int32)))]) dX12_lovers_74 (Nat.le_of_ble_eq_true rfl) rfl ic_m1 rfl ?_
        refine V_goto (pc := 77) (tgt := 30) dX12_lovers_77 (by decide +kernel) ?_
        exact V_back (b30 (v2, v3, (v5 + (-1 : Int32))))
      refine V_iload (pc := 30) dX12_lovers_30 rfl ?_
      refine V_iload (pc := 32) dX12_lovers_32 rfl ?_
      refine V_icmp_le (pc := 34) (tgt := 80) dX12_lovers_34 (by decide +kernel) ?_ ?_
      · refine V_exit r30 ?_
        refine V_iincC (pc := 80) (vs' := [some (.ref (wB w + 171)), some (.int p1), some (.int a30_1), some (.int a30_2), some (.int (v4 + (-1 : Int32))), some (.int a30_3)]) dX12_lovers_80 (Nat.le_of_ble_eq_true rfl) rfl ic_m1 rfl ?_
        refine V_goto (pc := 83) (tgt := 17) dX12_lovers_83 (by decide +kernel) ?_
        refine V_sub (vs' := [some (.ref (wB w + 171)), some (.int p1), some (.int a30_1), some (.int a30_2), some (.int (v4 + (-1 : Int32))), none]) (show vless _ _ from ⟨rfl, ⟨rfl, ⟨rfl, ⟨rfl, ⟨rfl, trivial⟩⟩⟩⟩⟩) rfl ?_
        exact V_back (b17 (a30_1, a30_2, (v4 + (-1 : Int32))))
      · refine V_aload_n (pc := 37) dX12_lovers_37 rfl rfl ?_
        refine V_iload (pc := 38) dX12_lovers_38 rfl ?_
        refine V_iload (pc := 40) dX12_lovers_40 rfl ?_
        refine V_callVpi (pc := 42) (As := [.int v4, .int a30_3]) (rest := []) (c_X12_isGladder w n v4 a30_3 σ) cw_X12_360 rfl rfl dX12_lovers_42 kc_171 ci_12 ⟨Nat.le_of_ble_eq_true rfl, Nat.le_of_ble_eq_true rfl⟩ rfl rfl (Nat.le_of_ble_eq_true rfl) (Nat.le_of_ble_eq_true rfl) (Nat.le_of_ble_eq_true rfl) rfl (fun q42 => ?_)
        refine V_if_eq (pc := 45) (tgt := 74) dX12_lovers_45 (by decide +kernel) ?_ ?_
        · exact hJ74 a30_1 a30_2 a30_3
        · refine V_aload_n (pc := 48) dX12_lovers_48 rfl rfl ?_
          refine V_iload (pc := 49) dX12_lovers_49 rfl ?_
          refine V_iload (pc := 51) dX12_lovers_51 rfl ?_
          refine V_callVpi (pc := 53) (As := [.int a30_3, .int v4]) (rest := []) (c_X12_isGladder w n a30_3 v4 σ) cw_X12_360 rfl rfl dX12_lovers_53 kc_171 ci_12 ⟨Nat.le_of_ble_eq_true rfl, Nat.le_of_ble_eq_true rfl⟩ rfl rfl (Nat.le_of_ble_eq_true rfl) (Nat.le_of_ble_eq_true rfl) (Nat.le_of_ble_eq_true rfl) rfl (fun q53 => ?_)
          refine V_if_ne (pc := 56) (tgt := 62) dX12_lovers_56 (by decide +kernel) ?_ ?_
          · refine V_iincC (pc := 62) (vs' := [some (.ref (wB w + 171)), some (.int p1), some (.int (a30_1 + (1 : Int32))), some (.int a30_2), some (.int v4), some (.int a30_3)]) dX12_lovers_62 (Nat.le_of_ble_eq_true rfl) rfl ic_1 rfl ?_
            refine V_bipush (pc := 65) dX12_lovers_65 bp_10 ?_
            refine V_iload (pc := 67) dX12_lovers_67 rfl ?_
            refine V_imul (pc := 69) dX12_lovers_69 ?_
            refine V_iload (pc := 70) dX12_lovers_70 rfl ?_
            refine V_iadd (pc := 72) dX12_lovers_72 ?_
            refine V_istore_n (pc := 73) (vs' := [some (.ref (wB w + 171)), some (.int p1), some (.int (a30_1 + (1 : Int32))), some (.int (((10 : Int32) * v4) + a30_3)), some (.int v4), some (.int a30_3)]) dX12_lovers_73 rfl (Nat.le_of_ble_eq_true rfl) (Nat.le_of_ble_eq_true rfl) rfl ?_
            exact hJ74 (a30_1 + (1 : Int32)) (((10 : Int32) * v4) + a30_3) a30_3
          · refine V_goto (pc := 59) (tgt := 74) dX12_lovers_59 (by decide +kernel) ?_
            exact hJ74 a30_1 a30_2 a30_3
    refine V_iload (pc := 17) dX12_lovers_17 rfl ?_
    refine V_if_lt (pc := 19) (tgt := 86) dX12_lovers_19 (by decide +kernel) ?_ ?_
    · refine V_exit r17 ?_
      refine V_iload_n (pc := 86) dX12_lovers_86 rfl rfl ?_
      refine V_if_eq (pc := 87) (tgt := 94) dX12_lovers_87 (by decide +kernel) ?_ ?_
      · refine V_iload_n (pc := 94) dX12_lovers_94 rfl rfl ?_
        refine V_sub (vs' := [none, none, none, none, none, none]) (show vless _ _ from trivial) rfl ?_
        exact hJ95 a17_1 σ
      · refine V_iload_n (pc := 90) dX12_lovers_90 rfl rfl ?_
        refine V_goto (pc := 91) (tgt := 95) dX12_lovers_91 (by decide +kernel) ?_
        refine V_sub (vs' := [none, none, none, none, none, none]) (show vless _ _ from trivial) rfl ?_
        exact hJ95 a17_2 σ
    · refine V_aload_n (pc := 22) dX12_lovers_22 rfl rfl ?_
      refine V_callVpi (pc := 23) (As := []) (rest := []) (c_X12_people w  σ) cw_X12_58 rfl rfl dX12_lovers_23 kc_171 ci_12 ⟨Nat.le_of_ble_eq_true rfl, Nat.le_of_ble_eq_true rfl⟩ rfl rfl (Nat.le_of_ble_eq_true rfl) (Nat.le_of_ble_eq_true rfl) (Nat.le_of_ble_eq_true rfl) rfl (fun q23 => ?_)
      refine V_iconst (pc := 26) dX12_lovers_26 ic_1 ?_
      refine V_isub (pc := 27) dX12_lovers_27 ?_
      refine V_istore (pc := 28) (vs' := [some (.ref (wB w + 171)), some (.int p1), some (.int a17_1), some (.int a17_2), some (.int a17_3), some (.int (q23 - (1 : Int32)))]) dX12_lovers_28 (Nat.le_of_ble_eq_true rfl) (Nat.le_of_ble_eq_true rfl) rfl ?_
      exact hL30 a17_3 n (a17_1, a17_2, (q23 - (1 : Int32)))
  refine V_aload_n (pc := 0) dX12_lovers_0 rfl rfl ?_
  refine V_iconst (pc := 1) dX12_lovers_1 ic_0 ?_
  refine V_puti (pc := 2) fp_X12_3 rfl dX12_lovers_2 kc_171 rf_12_0_171 (fun s2 => ?_)
  refine V_iconst (pc := 5) dX12_lovers_5 ic_0 ?_
  refine V_istore_n (pc := 6) (vs' := [some (.ref (wB w + 171)), some (.int p1), some (.int (0 : Int32)), none, none, none]) dX12_lovers_6 rfl (Nat.le_of_ble_eq_true rfl) (Nat.le_of_ble_eq_true rfl) rfl ?_
  refine V_iconst (pc := 7) dX12_lovers_7 ic_m1 ?_
  refine V_istore_n (pc := 8) (vs' := [some (.ref (wB w + 171)), some (.int p1), some (.int (0 : Int32)), some (.int (-1 : Int32)), none, none]) dX12_lovers_8 rfl (Nat.le_of_ble_eq_true rfl) (Nat.le_of_ble_eq_true rfl) rfl ?_
  refine V_aload_n (pc := 9) dX12_lovers_9 rfl rfl ?_
  refine V_callVpi (pc := 10) (As := []) (rest := []) (c_X12_people w  s2) cw_X12_58 rfl rfl dX12_lovers_10 kc_171 ci_12 ⟨Nat.le_of_ble_eq_true rfl, Nat.le_of_ble_eq_true rfl⟩ rfl rfl (Nat.le_of_ble_eq_true rfl) (Nat.le_of_ble_eq_true rfl) (Nat.le_of_ble_eq_true rfl) rfl (fun q10 => ?_)
  refine V_iconst (pc := 13) dX12_lovers_13 ic_1 ?_
  refine V_isub (pc := 14) dX12_lovers_14 ?_
  refine V_istore (pc := 15) (vs' := [some (.ref (wB w + 171)), some (.int p1), some (.int (0 : Int32)), some (.int (-1 : Int32)), some (.int (q10 - (1 : Int32))), none]) dX12_lovers_15 (Nat.le_of_ble_eq_true rfl) (Nat.le_of_ble_eq_true rfl) rfl ?_
  exact hL17 s2 n ((0 : Int32), (-1 : Int32), (q10 - (1 : Int32)))
def L_X12_waysOf_6 (n : Nat)  (σ : MS) (a6 : Int32 × Int32) : Option ((Int32 × Int32) ⊕ (Int32)) := (if a6.2 ≤ (1 : Int32) then (some a6.1).map Sum.inr else some (.inl ((a6.1 * a6.2), (a6.2 + (-2 : Int32)))))
def f_X12_waysOf (n : Nat) (p0 : Int32) (σ : MS) : Option (Int32) := itr (L_X12_waysOf_6 n  σ) n ((1 : Int32), (p0 - (1 : Int32)))
set_option maxRecDepth 20000 in
set_option maxHeartbeats 2000000 in
theorem c_X12_waysOf (w : TG) (n : Nat) (p0 : Int32) (σ : MS) : MC m_X12_waysOf w [.int p0] σ ((f_X12_waysOf n p0 σ).map (fun r => (r, σ))) := by
  refine V_methp (by decide +kernel) (Nat.le_of_ble_eq_true rfl) (by intro v hv; simp only [List.mem_cons, List.not_mem_nil, or_false] at hv; subst hv; rfl) (fun g x => ?_)
  show VV m_X12_waysOf w g 0 0 (QM m_X12_waysOf w g x) (fun b : Int32 => (b, σ) = x) 0 [some (.int p0), none, none] [] σ (f_X12_waysOf n p0 σ)
  have hL6 : ∀  (n0 : Nat) (a : Int32 × Int32), VV m_X12_waysOf w g 0 0 (QM m_X12_waysOf w g x) (fun b : Int32 => (b, σ) = x) 6 [none, some (.int a.1), some (.int a.2)] [] σ (itr (L_X12_waysOf_6 n  σ) n0 a) := by
    refine V_itr (vf := fun a : Int32 × Int32 => [none, some (.int a.1), some (.int a.2)]) (sf := fun a : Int32 × Int32 => σ) (fun κ6 b6 r6 a6 => ?_)
    obtain ⟨a6_1, a6_2⟩ := a6
    show VV m_X12_waysOf w g 0 0 (QM m_X12_waysOf w g x) κ6 6 [none, some (.int a6_1), some (.int a6_2)] [] σ (L_X12_waysOf_6 n  σ (a6_1, a6_2))
    refine V_iload_n (pc := 6) dX12_waysOf_6 rfl rfl ?_
    refine V_iconst (pc := 7) dX12_waysOf_7 ic_1 ?_
    refine V_icmp_le (pc := 8) (tgt := 21) dX12_waysOf_8 (by decide +kernel) ?_ ?_
    · refine V_exit r6 ?_
      refine V_iload_n (pc := 21) dX12_waysOf_21 rfl rfl ?_
      exact V_ireti (pc := 22) dX12_waysOf_22 rfl (hk := fun h => h)
    · refine V_iload_n (pc := 11) dX12_waysOf_11 rfl rfl ?_
      refine V_iload_n (pc := 12) dX12_waysOf_12 rfl rfl ?_
      refine V_imul (pc := 13) dX12_waysOf_13 ?_
      refine V_istore_n (pc := 14) (vs' := [none, some (.int (a6_1 * a6_2)), some (.int a6_2)]) dX12_waysOf_14 rfl (Nat.le_of_ble_eq_true rfl) (Nat.le_of_ble_eq_true rfl) rfl ?_
      refine V_iincC (pc := 15) (vs' := [none, some (.int (a6_1 * a6_2)), some (.int (a6_2 + (-2 : Int32)))]) dX12_waysOf_15 (Nat.le_of_ble_eq_true rfl) rfl ic_m2 rfl ?_
      refine V_goto (pc := 18) (tgt := 6) dX12_waysOf_18 (by decide +kernel) ?_
      exact V_back (b6 ((a6_1 * a6_2), (a6_2 + (-2 : Int32))))
  refine V_iconst (pc := 0) dX12_waysOf_0 ic_1 ?_
  refine V_istore_n (pc := 1) (vs' := [some (.int p0), some (.int (1 : Int32)), none]) dX12_waysOf_1 rfl (Nat.le_of_ble_eq_true rfl) (Nat.le_of_ble_eq_true rfl) rfl ?_
  refine V_iload_n (pc := 2) dX12_waysOf_2 rfl rfl ?_
  refine V_iconst (pc := 3) dX12_waysOf_3 ic_1 ?_
  refine V_isub (pc := 4) dX12_waysOf_4 ?_
  refine V_istore_n (pc := 5) (vs' := [some (.int p0), some (.int (1 : Int32)), some (.int (p0 - (1 : Int32)))]) dX12_waysOf_5 rfl (Nat.le_of_ble_eq_true rfl) (Nat.le_of_ble_eq_true rfl) rfl ?_
  refine V_sub (vs' := [none, some (.int (1 : Int32)), some (.int (p0 - (1 : Int32)))]) (show vless _ _ from ⟨rfl, ⟨rfl, trivial⟩⟩) rfl ?_
  exact hL6 n ((1 : Int32), (p0 - (1 : Int32)))
def J_X12_freeOne_70 (n : Nat) (v4 : Int32) (t0 : Int32) (t1 : Int32) (σ : MS) : Option ((Int32 × Int32) ⊕ (Int32)) := some (.inl ((t1 - t0), (v4 + (1 : Int32))))
def J_X12_freeOne_53 (n : Nat) (v3 : Int32) (v4 : Int32) (σ : MS) : Option ((Int32 × Int32) ⊕ (Int32)) := (if inb v4 9 then (if (σ 180 (ix v4)) = (-1 : Int32) then J_X12_freeOne_70 n v4 (1 : Int32) v3 σ else J_X12_freeOne_70 n v4 (0 : Int32) v3 σ) else none)
def L_X12_freeOne_38 (n : Nat)  (σ : MS) (a38 : Int32 × Int32) : Option ((Int32 × Int32) ⊕ (Int32)) := (if inb a38.2 9 then (if (σ 180 (ix a38.2)) = (-1 : Int32) then (if a38.1 ≤ 0 then (some a38.2).map Sum.inr else J_X12_freeOne_53 n a38.1 a38.2 σ) else J_X12_freeOne_53 n a38.1 a38.2 σ) else none)
def J_X12_freeOne_35 (n : Nat) (v3 : Int32) (σ : MS) : Option (Int32) := itr (L_X12_freeOne_38 n  σ) n (v3, (0 : Int32))
def f_X12_freeOne (n : Nat) (p1 : Int32) (p2 : Int32) (σ : MS) : Option (Int32) := ((f_X12_people  σ).bind (fun q4 => (if p2 ≤ q4 then J_X12_freeOne_35 n p1 σ else ((f_X12_people  σ).bind (fun q15 => (if inb q15 9 then (if (σ 180 (ix q15)) = (-1 : Int32) then (if p1 = 0 then ((f_X12_people  σ).bind (fun q28 => some q28)) else J_X12_freeOne_35 n (p1 + (-1 : Int32)) σ) else J_X12_freeOne_35 n p1 σ) else none))))))
set_option maxRecDepth 20000 in
set_option maxHeartbeats 2000000 in
theorem c_X12_freeOne (w : TG) (n : Nat) (p1 : Int32) (p2 : Int32) (σ : MS) : MC m_X12_freeOne w [.ref (wB w + 171), .int p1, .int p2] σ ((f_X12_freeOne n p1 p2 σ).map (fun r => (r, σ))) := by
  refine V_methp (by decide +kernel) (Nat.le_of_ble_eq_true rfl) (by intro v hv; simp only [List.mem_cons, List.not_mem_nil, or_false] at hv; rcases hv with rfl | rfl | rfl <;> rfl) (fun g x => ?_)
  show VV m_X12_freeOne w g 0 0 (QM m_X12_freeOne w g x) (fun b : Int32 => (b, σ) = x) 0 [some (.ref (wB w + 171)), some (.int p1), some (.int p2), none, none] [] σ (f_X12_freeOne n p1 p2 σ)
  have hL38 : ∀  (n0 : Nat) (a : Int32 × Int32), VV m_X12_freeOne w g 0 0 (QM m_X12_freeOne w g x) (fun b : Int32 => (b, σ) = x) 38 [some (.ref (wB w + 171)), none, none, some (.int a.1), some (.int a.2)] [] σ (itr (L_X12_freeOne_38 n  σ) n0 a) := by
    refine V_itr (vf := fun a : Int32 × Int32 => [some (.ref (wB w + 171)), none, none, some (.int a.1), some (.int a.2)]) (sf := fun a : Int32 × Int32 => σ) (fun κ38 b38 r38 a38 => ?_)
    obtain ⟨a38_1, a38_2⟩ := a38
    show VV m_X12_freeOne w g 0 0 (QM m_X12_freeOne w g x) κ38 38 [some (.ref (wB w + 171)), none, none, some (.int a38_1), some (.int a38_2)] [] σ (L_X12_freeOne_38 n  σ (a38_1, a38_2))
    have hJ70 : ∀ (v4 : Int32) (t0 : Int32) (t1 : Int32), VV m_X12_freeOne w g 0 0 (QM m_X12_freeOne w g x) κ38 70 [some (.ref (wB w + 171)), none, none, none, some (.int v4)] [.int t0, .int t1] σ (J_X12_freeOne_70 n v4 t0 t1 σ) := by
      intro v4 t0 t1
      refine V_isub (pc := 70) dX12_freeOne_70 ?_
      refine V_istore_n (pc := 71) (vs' := [some (.ref (wB w + 171)), none, none, some (.int (t1 - t0)), some (.int v4)]) dX12_freeOne_71 rfl (Nat.le_of_ble_eq_true rfl) (Nat.le_of_ble_eq_true rfl) rfl ?_
      refine V_iincC (pc := 72) (vs' := [some (.ref (wB w + 171)), none, none, some (.int (t1 - t0)), some (.int (v4 + (1 : Int32)))]) dX12_freeOne_72 (Nat.le_of_ble_eq_true rfl) rfl ic_1 rfl ?_
      refine V_goto (pc := 75) (tgt := 38) dX12_freeOne_75 (by decide +kernel) ?_
      exact V_back (b38 ((t1 - t0), (v4 + (1 : Int32))))
    have hJ53 : ∀ (v3 : Int32) (v4 : Int32), VV m_X12_freeOne w g 0 0 (QM m_X12_freeOne w g x) κ38 53 [some (.ref (wB w + 171)), none, none, some (.int v3), some (.int v4)] [] σ (J_X12_freeOne_53 n v3 v4 σ) := by
      intro v3 v4
      refine V_iload_n (pc := 53) dX12_freeOne_53 rfl rfl ?_
      refine V_aload_n (pc := 54) dX12_freeOne_54 rfl rfl ?_
      refine V_getr (pc := 55) (t := 180) fk_X12_42 rfl dX12_freeOne_55 kc_171 rf_12_22_171 ?_
      refine V_iload (pc := 58) dX12_freeOne_58 rfl ?_
      refine V_iald (pc := 60) (n := 9) dX12_freeOne_60 kc_180 lc_180 ?_
      refine V_iconst (pc := 61) dX12_freeOne_61 ic_m1 ?_
      refine V_icmp_ne (pc := 62) (tgt := 69) dX12_freeOne_62 (by decide +kernel) ?_ ?_
      · refine V_iconst (pc := 69) dX12_freeOne_69 ic_0 ?_
        refine V_sub (vs' := [some (.ref (wB w + 171)), none, none, none, some (.int v4)]) (show vless _ _ from ⟨rfl, ⟨rfl, trivial⟩⟩) rfl ?_
        exact hJ70 v4 (0 : Int32) v3
      · refine V_iconst (pc := 65) dX12_freeOne_65 ic_1 ?_
        refine V_goto (pc := 66) (tgt := 70) dX12_freeOne_66 (by decide +kernel) ?_
        refine V_sub (vs' := [some (.ref (wB w + 171)), none, none, none, some (.int v4)]) (show vless _ _ from ⟨rfl, ⟨rfl, trivial⟩⟩) rfl ?_
        exact hJ70 v4 (1 : Int32) v3
    refine V_aload_n (pc := 38) dX12_freeOne_38 rfl rfl ?_
    refine V_getr (pc := 39) (t := 180) fk_X12_42 rfl dX12_freeOne_39 kc_171 rf_12_22_171 ?_
    refine V_iload (pc := 42) dX12_freeOne_42 rfl ?_
    refine V_iald (pc := 44) (n := 9) dX12_freeOne_44 kc_180 lc_180 ?_
    refine V_iconst (pc := 45) dX12_freeOne_45 ic_m1 ?_
    refine V_icmp_ne (pc := 46) (tgt := 53) dX12_freeOne_46 (by decide +kernel) ?_ ?_
    · exact hJ53 a38_1 a38_2
    · refine V_iload_n (pc := 49) dX12_freeOne_49 rfl rfl ?_
      refine V_if_le (pc := 50) (tgt := 78) dX12_freeOne_50 (by decide +kernel) ?_ ?_
      · refine V_exit r38 ?_
        refine V_iload (pc := 78) dX12_freeOne_78 rfl ?_
        exact V_ireti (pc := 80) dX12_freeOne_80 rfl (hk := fun h => h)
      · exact hJ53 a38_1 a38_2
  have hJ35 : ∀ (v3 : Int32), VV m_X12_freeOne w g 0 0 (QM m_X12_freeOne w g x) (fun b : Int32 => (b, σ) = x) 35 [some (.ref (wB w + 171)), none, none, some (.int v3), none] [] σ (J_X12_freeOne_35 n v3 σ) := by
    intro v3
    refine V_iconst (pc := 35) dX12_freeOne_35 ic_0 ?_
    refine V_istore (pc := 36) (vs' := [some (.ref (wB w + 171)), none, none, some (.int v3), some (.int (0 : Int32))]) dX12_freeOne_36 (Nat.le_of_ble_eq_true rfl) (Nat.le_of_ble_eq_true rfl) rfl ?_
    exact hL38 n (v3, (0 : Int32))
  refine V_iload_n (pc := 0) dX12_freeOne_0 rfl rfl ?_
  refine V_istore_n (pc := 1) (vs' := [some (.ref (wB w + 171)), some (.int p1), some (.int p2), some (.int p1), none]) dX12_freeOne_1 rfl (Nat.le_of_ble_eq_true rfl) (Nat.le_of_ble_eq_true rfl) rfl ?_
  refine V_iload_n (pc := 2) dX12_freeOne_2 rfl rfl ?_
  refine V_aload_n (pc := 3) dX12_freeOne_3 rfl rfl ?_
  refine V_callVpi (pc := 4) (As := []) (rest := [.int p2]) (c_X12_people w  σ) cw_X12_58 rfl rfl dX12_freeOne_4 kc_171 ci_12 ⟨Nat.le_of_ble_eq_true rfl, Nat.le_of_ble_eq_true rfl⟩ rfl rfl (Nat.le_of_ble_eq_true rfl) (Nat.le_of_ble_eq_true rfl) (Nat.le_of_ble_eq_true rfl) rfl (fun q4 => ?_)
  refine V_icmp_le (pc := 7) (tgt := 35) dX12_freeOne_7 (by decide +kernel) ?_ ?_
  · refine V_sub (vs' := [some (.ref (wB w + 171)), none, none, some (.int p1), none]) (show vless _ _ from ⟨rfl, ⟨rfl, trivial⟩⟩) rfl ?_
    exact hJ35 p1
  · refine V_aload_n (pc := 10) dX12_freeOne_10 rfl rfl ?_
    refine V_getr (pc := 11) (t := 180) fk_X12_42 rfl dX12_freeOne_11 kc_171 rf_12_22_171 ?_
    refine V_aload_n (pc := 14) dX12_freeOne_14 rfl rfl ?_
    refine V_callVpi (pc := 15) (As := []) (rest := [.ref (wB w + 180)]) (c_X12_people w  σ) cw_X12_58 rfl rfl dX12_freeOne_15 kc_171 ci_12 ⟨Nat.le_of_ble_eq_true rfl, Nat.le_of_ble_eq_true rfl⟩ rfl rfl (Nat.le_of_ble_eq_true rfl) (Nat.le_of_ble_eq_true rfl) (Nat.le_of_ble_eq_true rfl) rfl (fun q15 => ?_)
    refine V_iald (pc := 18) (n := 9) dX12_freeOne_18 kc_180 lc_180 ?_
    refine V_iconst (pc := 19) dX12_freeOne_19 ic_m1 ?_
    refine V_icmp_ne (pc := 20) (tgt := 35) dX12_freeOne_20 (by decide +kernel) ?_ ?_
    · refine V_sub (vs' := [some (.ref (wB w + 171)), none, none, some (.int p1), none]) (show vless _ _ from ⟨rfl, ⟨rfl, trivial⟩⟩) rfl ?_
      exact hJ35 p1
    · refine V_iload_n (pc := 23) dX12_freeOne_23 rfl rfl ?_
      refine V_if_ne (pc := 24) (tgt := 32) dX12_freeOne_24 (by decide +kernel) ?_ ?_
      · refine V_iincC (pc := 32) (vs' := [some (.ref (wB w + 171)), some (.int p1), some (.int p2), some (.int (p1 + (-1 : Int32))), none]) dX12_freeOne_32 (Nat.le_of_ble_eq_true rfl) rfl ic_m1 rfl ?_
        refine V_sub (vs' := [some (.ref (wB w + 171)), none, none, some (.int (p1 + (-1 : Int32))), none]) (show vless _ _ from ⟨rfl, ⟨rfl, trivial⟩⟩) rfl ?_
        exact hJ35 (p1 + (-1 : Int32))
      · refine V_aload_n (pc := 27) dX12_freeOne_27 rfl rfl ?_
        refine V_callVpi (pc := 28) (As := []) (rest := []) (c_X12_people w  σ) cw_X12_58 rfl rfl dX12_freeOne_28 kc_171 ci_12 ⟨Nat.le_of_ble_eq_true rfl, Nat.le_of_ble_eq_true rfl⟩ rfl rfl (Nat.le_of_ble_eq_true rfl) (Nat.le_of_ble_eq_true rfl) (Nat.le_of_ble_eq_true rfl) rfl (fun q28 => ?_)
        exact V_ireti (pc := 31) dX12_freeOne_31 rfl (hk := fun h => h)
def L_X12_laysWay_34 (n : Nat) (v2 : Int32) (v3 : Int32) (v4 : Int32) (σ : MS) (a34 : Int32) : Option ((Int32) ⊕ ((Int32 × Int32 × MS) ⊕ (Int32 × MS))) := (if inb a34 9 then (if (σ 180 (ix a34)) = (-1 : Int32) then (((f_X12_waysOf n (v4 - (2 : Int32)) σ).bind (fun q55 => (if inb a34 9 then ltM (mu σ 180 (ix a34) a34) (fun s68 => (if q55 = 0 then none else ((f_X12_freeOne n (v3 / q55) v2 s68).bind (fun q75 => (if q55 = 0 then none else (if inb a34 9 then ltM (mu s68 180 (ix a34) q75) (fun s93 => (if inb q75 9 then ltM (mu s93 180 (ix q75) a34) (fun s102 => some (.inl ((remI v3 q55), (v4 + (-2 : Int32)), s102))) else none)) else none)))))) else none)))).map Sum.inr else some (.inl ((a34 + (1 : Int32))))) else none)
def L_X12_laysWay_26 (n : Nat) (v2 : Int32) (σ : MS) (a26 : Int32 × Int32 × MS) : Option ((Int32 × Int32 × MS) ⊕ (Int32 × MS)) := (if a26.2.1 ≤ 0 then (some (0, a26.2.2)).map Sum.inr else itr (L_X12_laysWay_34 n v2 a26.1 a26.2.1 a26.2.2) n ((0 : Int32)))
def L_X12_laysWay_2 (n : Nat) (v1 : Int32) (v2 : Int32) (σ : MS) (a2 : Int32 × MS) : Option ((Int32 × MS) ⊕ (Int32 × MS)) := (if (8 : Int32) < a2.1 then (itr (L_X12_laysWay_26 n v2 σ) n (v1, v2, a2.2)).map Sum.inr else (if inb a2.1 9 then ltM (mu a2.2 180 (ix a2.1) (-1 : Int32)) (fun s14 => some (.inl ((a2.1 + (1 : Int32)), s14))) else none))
def f_X12_laysWay (n : Nat) (p1 : Int32) (p2 : Int32) (σ : MS) : Option (Int32 × MS) := itr (L_X12_laysWay_2 n p1 p2 σ) n ((0 : Int32), σ)
set_option maxRecDepth 20000 in
set_option maxHeartbeats 2000000 in
theorem c_X12_laysWay (w : TG) (n : Nat) (p1 : Int32) (p2 : Int32) (σ : MS) : MC m_X12_laysWay w [.ref (wB w + 171), .int p1, .int p2] σ (f_X12_laysWay n p1 p2 σ) := by
  refine V_meth (by decide +kernel) (Nat.le_of_ble_eq_true rfl) (by intro v hv; simp only [List.mem_cons, List.not_mem_nil, or_false] at hv; rcases hv with rfl | rfl | rfl <;> rfl) (fun g x => ?_)
  show VV m_X12_laysWay w g 0 0 (QM m_X12_laysWay w g x) (fun b : Int32 × MS => b = x) 0 [some (.ref (wB w + 171)), some (.int p1), some (.int p2), none, none, none, none, none] [] σ (f_X12_laysWay n p1 p2 σ)
  have hL26 : ∀  (n0 : Nat) (a : Int32 × Int32 × MS), VV m_X12_laysWay w g 0 0 (QM m_X12_laysWay w g x) (fun b : Int32 × MS => b = x) 26 [some (.ref (wB w + 171)), none, some (.int p2), some (.int a.1), some (.int a.2.1), none, none, none] [] a.2.2 (itr (L_X12_laysWay_26 n p2 σ) n0 a) := by
    refine V_itr (vf := fun a : Int32 × Int32 × MS => [some (.ref (wB w + 171)), none, some (.int p2), some (.int a.1), some (.int a.2.1), none, none, none]) (sf := fun a : Int32 × Int32 × MS => a.2.2) (fun κ26 b26 r26 a26 => ?_)
    obtain ⟨a26_1, a26_2, a26_3⟩ := a26
    show VV m_X12_laysWay w g 0 0 (QM m_X12_laysWay w g x) κ26 26 [some (.ref (wB w + 171)), none, some (.int p2), some (.int a26_1), some (.int a26_2), none, none, none] [] a26_3 (L_X12_laysWay_26 n p2 σ (a26_1, a26_2, a26_3))
    have hL34 : ∀ (v3 : Int32) (v4 : Int32) (σ : MS) (n0 : Nat) (a : Int32), VV m_X12_laysWay w g 0 0 (QM m_X12_laysWay w g x) κ26 34 [some (.ref (wB w + 171)), none, some (.int p2), some (.int v3), some (.int v4), some (.int a), none, none] [] σ (itr (L_X12_laysWay_34 n p2 v3 v4 σ) n0 a) := by
      intro v3 v4 σ
      refine V_itr (vf := fun a : Int32 => [some (.ref (wB w + 171)), none, some (.int p2), some (.int v3), some (.int v4), some (.int a), none, none]) (sf := fun a : Int32 => σ) (fun κ34 b34 r34 a34 => ?_)
      show VV m_X12_laysWay w g 0 0 (QM m_X12_laysWay w g x) κ34 34 [some (.ref (wB w + 171)), none, some (.int p2), some (.int v3), some (.int v4), some (.int a34), none, none] [] σ (L_X12_laysWay_34 n p2 v3 v4 σ a34)
      refine V_aload_n (pc := 34) dX12_laysWay_34 rfl rfl ?_
      refine V_getr (pc := 35) (t := 180) fk_X12_42 rfl dX12_laysWay_35 kc_171 rf_12_22_171 ?_
      refine V_iload (pc := 38) dX12_laysWay_38 rfl ?_
      refine V_iald (pc := 40) (n := 9) dX12_laysWay_40 kc_180 lc_180 ?_
      refine V_iconst (pc := 41) dX12_laysWay_41 ic_m1 ?_
      refine V_icmp_eq (pc := 42) (tgt := 51) dX12_laysWay_42 (by decide +kernel) ?_ ?_
      · refine V_exit r34 ?_
        refine V_iload (pc := 51) dX12_laysWay_51 rfl ?_
        refine V_iconst (pc := 53) dX12_laysWay_53 ic_2 ?_
        refine V_isub (pc := 54) dX12_laysWay_54 ?_
        refine V_callSpi (pc := 55) (As := [.int (v4 - (2 : Int32))]) (rest := []) (c_X12_waysOf w n (v4 - (2 : Int32)) σ) cs_X12_382 rfl rfl dX12_laysWay_55 ⟨Nat.le_of_ble_eq_true rfl, Nat.le_of_ble_eq_true rfl⟩ rfl rfl (Nat.le_of_ble_eq_true rfl) (Nat.le_of_ble_eq_true rfl) (Nat.le_of_ble_eq_true rfl) rfl (fun q55 => ?_)
        refine V_istore (pc := 58) (vs' := [some (.ref (wB w + 171)), none, some (.int p2), some (.int v3), some (.int v4), some (.int a34), some (.int q55), none]) dX12_laysWay_58 (Nat.le_of_ble_eq_true rfl) (Nat.le_of_ble_eq_true rfl) rfl ?_
        refine V_aload_n (pc := 60) dX12_laysWay_60 rfl rfl ?_
        refine V_getr (pc := 61) (t := 180) fk_X12_42 rfl dX12_laysWay_61 kc_171 rf_12_22_171 ?_
        refine V_iload (pc := 64) dX12_laysWay_64 rfl ?_
        refine V_iload (pc := 66) dX12_laysWay_66 rfl ?_
        refine V_iast (pc := 68) (n := 9) dX12_laysWay_68 kc_180 lc_180 (fun s68 => ?_)
        refine V_aload_n (pc := 69) dX12_laysWay_69 rfl rfl ?_
        refine V_iload_n (pc := 70) dX12_laysWay_70 rfl rfl ?_
        refine V_iload (pc := 71) dX12_laysWay_71 rfl ?_
        refine V_idivG (pc := 73) dX12_laysWay_73 ?_
        refine V_iload_n (pc := 74) dX12_laysWay_74 rfl rfl ?_
        refine V_callVpi (pc := 75) (As := [.int (v3 / q55), .int p2]) (rest := []) (c_X12_freeOne w n (v3 / q55) p2 s68) cw_X12_385 rfl rfl dX12_laysWay_75 kc_171 ci_12 ⟨Nat.le_of_ble_eq_true rfl, Nat.le_of_ble_eq_true rfl⟩ rfl rfl (Nat.le_of_ble_eq_true rfl) (Nat.le_of_ble_eq_true rfl) (Nat.le_of_ble_eq_true rfl) rfl (fun q75 => ?_)
        refine V_istore (pc := 78) (vs' := [some (.ref (wB w + 171)), none, some (.int p2), some (.int v3), some (.int v4), some (.int a34), some (.int q55), some (.int q75)]) dX12_laysWay_78 (Nat.le_of_ble_eq_true rfl) (Nat.le_of_ble_eq_true rfl) rfl ?_
        refine V_iload_n (pc := 80) dX12_laysWay_80 rfl rfl ?_
        refine V_iload (pc := 81) dX12_laysWay_81 rfl ?_
        refine V_iremG (pc := 83) dX12_laysWay_83 ?_
        refine V_istore_n (pc := 84) (vs' := [some (.ref (wB w + 171)), none, some (.int p2), some (.int (remI v3 q55)), some (.int v4), some (.int a34), some (.int q55), some (.int q75)]) dX12_laysWay_84 rfl (Nat.le_of_ble_eq_true rfl) (Nat.le_of_ble_eq_true rfl) rfl ?_
        refine V_aload_n (pc := 85) dX12_laysWay_85 rfl rfl ?_
        refine V_getr (pc := 86) (t := 180) fk_X12_42 rfl dX12_laysWay_86 kc_171 rf_12_22_171 ?_
        refine V_iload (pc := 89) dX12_laysWay_89 rfl ?_
        refine V_iload (pc := 91) dX12_laysWay_91 rfl ?_
        refine V_iast (pc := 93) (n := 9) dX12_laysWay_93 kc_180 lc_180 (fun s93 => ?_)
        refine V_aload_n (pc := 94) dX12_laysWay_94 rfl rfl ?_
        refine V_getr (pc := 95) (t := 180) fk_X12_42 rfl dX12_laysWay_95 kc_171 rf_12_22_171 ?_
        refine V_iload (pc := 98) dX12_laysWay_98 rfl ?_
        refine V_iload (pc := 100) dX12_laysWay_100 rfl ?_
        refine V_iast (pc := 102) (n := 9) dX12_laysWay_102 kc_180 lc_180 (fun s102 => ?_)
        refine V_iincC (pc := 103) (vs' := [some (.ref (wB w + 171)), none, some (.int p2), some (.int (remI v3 q55)), some (.int (v4 + (-2 : Int32))), some (.int a34), some (.int q55), some (.int q75)]) dX12_laysWay_103 (Nat.le_of_ble_eq_true rfl) rfl ic_m2 rfl ?_
        refine V_goto (pc := 106) (tgt := 26) dX12_laysWay_106 (by decide +kernel) ?_
        refine V_sub (vs' := [some (.ref (wB w + 171)), none, some (.int p2), some (.int (remI v3 q55)), some (.int (v4 + (-2 : Int32))), none, none, none]) (show vless _ _ from ⟨rfl, ⟨rfl, ⟨rfl, ⟨rfl, trivial⟩⟩⟩⟩) rfl ?_
        exact V_back (b26 ((remI v3 q55), (v4 + (-2 : Int32)), s102))
      · refine V_iincC (pc := 45) (vs' := [some (.ref (wB w + 171)), none, some (.int p2), some (.int v3), some (.int v4), some (.int (a34 + (1 : Int32))), none, none]) dX12_laysWay_45 (Nat.le_of_ble_eq_true rfl) rfl ic_1 rfl ?_
        refine V_goto (pc := 48) (tgt := 34) dX12_laysWay_48 (by decide +kernel) ?_
        exact V_back (b34 ((a34 + (1 : Int32))))
    refine V_iload (pc := 26) dX12_laysWay_26 rfl ?_
    refine V_if_le (pc := 28) (tgt := 109) dX12_laysWay_28 (by decide +kernel) ?_ ?_
    · refine V_exit r26 ?_
      exact V_ret (pc := 109) dX12_laysWay_109 rfl (hk := fun h => h)
    · refine V_iconst (pc := 31) dX12_laysWay_31 ic_0 ?_
      refine V_istore (pc := 32) (vs' := [some (.ref (wB w + 171)), none, some (.int p2), some (.int a26_1), some (.int a26_2), some (.int (0 : Int32)), none, none]) dX12_laysWay_32 (Nat.le_of_ble_eq_true rfl) (Nat.le_of_ble_eq_true rfl) rfl ?_
      exact hL34 a26_1 a26_2 a26_3 n ((0 : Int32))
  have hL2 : ∀  (n0 : Nat) (a : Int32 × MS), VV m_X12_laysWay w g 0 0 (QM m_X12_laysWay w g x) (fun b : Int32 × MS => b = x) 2 [some (.ref (wB w + 171)), some (.int p1), some (.int p2), some (.int a.1), none, none, none, none] [] a.2 (itr (L_X12_laysWay_2 n p1 p2 σ) n0 a) := by
    refine V_itr (vf := fun a : Int32 × MS => [some (.ref (wB w + 171)), some (.int p1), some (.int p2), some (.int a.1), none, none, none, none]) (sf := fun a : Int32 × MS => a.2) (fun κ2 b2 r2 a2 => ?_)
    obtain ⟨a2_1, a2_2⟩ := a2
    show VV m_X12_laysWay w g 0 0 (QM m_X12_laysWay w g x) κ2 2 [some (.ref (wB w + 171)), some (.int p1), some (.int p2), some (.int a2_1), none, none, none, none] [] a2_2 (L_X12_laysWay_2 n p1 p2 σ (a2_1, a2_2))
    refine V_iload_n (pc := 2) dX12_laysWay_2 rfl rfl ?_
    refine V_bipush (pc := 3) dX12_laysWay_3 bp_8 ?_
    refine V_icmp_gt (pc := 5) (tgt := 21) dX12_laysWay_5 (by decide +kernel) ?_ ?_
    · refine V_exit r2 ?_
      refine V_iload_n (pc := 21) dX12_laysWay_21 rfl rfl ?_
      refine V_istore_n (pc := 22) (vs' := [some (.ref (wB w + 171)), some (.int p1), some (.int p2), some (.int p1), none, none, none, none]) dX12_laysWay_22 rfl (Nat.le_of_ble_eq_true rfl) (Nat.le_of_ble_eq_true rfl) rfl ?_
      refine V_iload_n (pc := 23) dX12_laysWay_23 rfl rfl ?_
      refine V_istore (pc := 24) (vs' := [some (.ref (wB w + 171)), some (.int p1), some (.int p2), some (.int p1), some (.int p2), none, none, none]) dX12_laysWay_24 (Nat.le_of_ble_eq_true rfl) (Nat.le_of_ble_eq_true rfl) rfl ?_
      refine V_sub (vs' := [some (.ref (wB w + 171)), none, some (.int p2), some (.int p1), some (.int p2), none, none, none]) (show vless _ _ from ⟨rfl, ⟨rfl, ⟨rfl, ⟨rfl, trivial⟩⟩⟩⟩) rfl ?_
      exact hL26 n (p1, p2, a2_2)
    · refine V_aload_n (pc := 8) dX12_laysWay_8 rfl rfl ?_
      refine V_getr (pc := 9) (t := 180) fk_X12_42 rfl dX12_laysWay_9 kc_171 rf_12_22_171 ?_
      refine V_iload_n (pc := 12) dX12_laysWay_12 rfl rfl ?_
      refine V_iconst (pc := 13) dX12_laysWay_13 ic_m1 ?_
      refine V_iast (pc := 14) (n := 9) dX12_laysWay_14 kc_180 lc_180 (fun s14 => ?_)
      refine V_iincC (pc := 15) (vs' := [some (.ref (wB w + 171)), some (.int p1), some (.int p2), some (.int (a2_1 + (1 : Int32))), none, none, none, none]) dX12_laysWay_15 (Nat.le_of_ble_eq_true rfl) rfl ic_1 rfl ?_
      refine V_goto (pc := 18) (tgt := 2) dX12_laysWay_18 (by decide +kernel) ?_
      exact V_back (b2 ((a2_1 + (1 : Int32)), s14))
  refine V_iconst (pc := 0) dX12_laysWay_0 ic_0 ?_
  refine V_istore_n (pc := 1) (vs' := [some (.ref (wB w + 171)), some (.int p1), some (.int p2), some (.int (0 : Int32)), none, none, none, none]) dX12_laysWay_1 rfl (Nat.le_of_ble_eq_true rfl) (Nat.le_of_ble_eq_true rfl) rfl ?_
  exact hL2 n ((0 : Int32), σ)
def J_X12_likesIts_28 (t0 : Int32) (σ : MS) : Option (Int32) := some t0
def f_X12_likesIts (p1 : Int32) (σ : MS) : Option (Int32) := (if inb p1 9 then ((f_X12_people  σ).bind (fun q7 => (if (σ 180 (ix p1)) = q7 then J_X12_likesIts_28 (-1 : Int32) σ else (if inb p1 9 then ((f_X12_likes p1 (σ 180 (ix p1)) σ).bind (fun q25 => J_X12_likesIts_28 q25 σ)) else none)))) else none)
set_option maxRecDepth 20000 in
set_option maxHeartbeats 2000000 in
theorem c_X12_likesIts (w : TG) (p1 : Int32) (σ : MS) : MC m_X12_likesIts w [.ref (wB w + 171), .int p1] σ ((f_X12_likesIts p1 σ).map (fun r => (r, σ))) := by
  refine V_methp (by decide +kernel) (Nat.le_of_ble_eq_true rfl) (by intro v hv; simp only [List.mem_cons, List.not_mem_nil, or_false] at hv; rcases hv with rfl | rfl <;> rfl) (fun g x => ?_)
  show VV m_X12_likesIts w g 0 0 (QM m_X12_likesIts w g x) (fun b : Int32 => (b, σ) = x) 0 [some (.ref (wB w + 171)), some (.int p1)] [] σ (f_X12_likesIts p1 σ)
  have hJ28 : ∀ (t0 : Int32), VV m_X12_likesIts w g 0 0 (QM m_X12_likesIts w g x) (fun b : Int32 => (b, σ) = x) 28 [none, none] [.int t0] σ (J_X12_likesIts_28 t0 σ) := by
    intro t0
    exact V_ireti (pc := 28) dX12_likesIts_28 rfl (hk := fun h => h)
  refine V_aload_n (pc := 0) dX12_likesIts_0 rfl rfl ?_
  refine V_getr (pc := 1) (t := 180) fk_X12_42 rfl dX12_likesIts_1 kc_171 rf_12_22_171 ?_
  refine V_iload_n (pc := 4) dX12_likesIts_4 rfl rfl ?_
  refine V_iald (pc := 5) (n := 9) dX12_likesIts_5 kc_180 lc_180 ?_
  refine V_aload_n (pc := 6) dX12_likesIts_6 rfl rfl ?_
  refine V_callVpi (pc := 7) (As := []) (rest := [.int (σ 180 (ix p1))]) (c_X12_people w  σ) cw_X12_58 rfl rfl dX12_likesIts_7 kc_171 ci_12 ⟨Nat.le_of_ble_eq_true rfl, Nat.le_of_ble_eq_true rfl⟩ rfl rfl (Nat.le_of_ble_eq_true rfl) (Nat.le_of_ble_eq_true rfl) (Nat.le_of_ble_eq_true rfl) rfl (fun q7 => ?_)
  refine V_icmp_ne (pc := 10) (tgt := 17) dX12_likesIts_10 (by decide +kernel) ?_ ?_
  · refine V_aload_n (pc := 17) dX12_likesIts_17 rfl rfl ?_
    refine V_iload_n (pc := 18) dX12_likesIts_18 rfl rfl ?_
    refine V_aload_n (pc := 19) dX12_likesIts_19 rfl rfl ?_
    refine V_getr (pc := 20) (t := 180) fk_X12_42 rfl dX12_likesIts_20 kc_171 rf_12_22_171 ?_
    refine V_iload_n (pc := 23) dX12_likesIts_23 rfl rfl ?_
    refine V_iald (pc := 24) (n := 9) dX12_likesIts_24 kc_180 lc_180 ?_
    refine V_callVpi (pc := 25) (As := [.int p1, .int (σ 180 (ix p1))]) (rest := []) (c_X12_likes w p1 (σ 180 (ix p1)) σ) cw_X12_272 rfl rfl dX12_likesIts_25 kc_171 ci_12 ⟨Nat.le_of_ble_eq_true rfl, Nat.le_of_ble_eq_true rfl⟩ rfl rfl (Nat.le_of_ble_eq_true rfl) (Nat.le_of_ble_eq_true rfl) (Nat.le_of_ble_eq_true rfl) rfl (fun q25 => ?_)
    refine V_sub (vs' := [none, none]) (show vless _ _ from trivial) rfl ?_
    exact hJ28 q25
  · refine V_iconst (pc := 13) dX12_likesIts_13 ic_m1 ?_
    refine V_goto (pc := 14) (tgt := 28) dX12_likesIts_14 (by decide +kernel) ?_
    refine V_sub (vs' := [none, none]) (show vless _ _ from trivial) rfl ?_
    exact hJ28 (-1 : Int32)
def J_X12_isSteady_66 (n : Nat) (v2 : Int32) (v3 : Int32) (t0 : Int32) (σ : MS) : Option ((Int32 × Int32) ⊕ ((Int32 × Int32) ⊕ (Int32))) := some (.inl (t0, (v3 + (1 : Int32))))
def J_X12_isSteady_65 (n : Nat) (v2 : Int32) (v3 : Int32) (σ : MS) : Option ((Int32 × Int32) ⊕ ((Int32 × Int32) ⊕ (Int32))) := J_X12_isSteady_66 n v2 v3 (0 : Int32) σ
def J_X12_isSteady_61 (n : Nat) (v2 : Int32) (v3 : Int32) (σ : MS) : Option ((Int32 × Int32) ⊕ ((Int32 × Int32) ⊕ (Int32))) := J_X12_isSteady_66 n v2 v3 (1 : Int32) σ
def L_X12_isSteady_14 (n : Nat) (v2 : Int32) (σ : MS) (a14 : Int32 × Int32) : Option ((Int32 × Int32) ⊕ ((Int32 × Int32) ⊕ (Int32))) := (if v2 ≤ a14.2 then (some (.inl (a14.1, (v2 + (1 : Int32))))).map Sum.inr else (if a14.1 = 0 then J_X12_isSteady_65 n v2 a14.2 σ else (if inb v2 9 then (if (σ 180 (ix v2)) = a14.2 then J_X12_isSteady_61 n v2 a14.2 σ else ((f_X12_likes v2 a14.2 σ).bind (fun q36 => ((f_X12_likesIts v2 σ).bind (fun q41 => (if q36 ≤ q41 then J_X12_isSteady_61 n v2 a14.2 σ else ((f_X12_likes a14.2 v2 σ).bind (fun q50 => ((f_X12_likesIts a14.2 σ).bind (fun q55 => (if q55 < q50 then J_X12_isSteady_65 n v2 a14.2 σ else J_X12_isSteady_61 n v2 a14.2 σ))))))))))) else none)))
def L_X12_isSteady_4 (n : Nat)  (σ : MS) (a4 : Int32 × Int32) : Option ((Int32 × Int32) ⊕ (Int32)) := ((f_X12_people  σ).bind (fun q6 => (if q6 ≤ a4.2 then ((if a4.1 = 0 ∨ a4.1 = 1 then some a4.1 else none)).map Sum.inr else itr (L_X12_isSteady_14 n a4.2 σ) n (a4.1, (0 : Int32)))))
def f_X12_isSteady (n : Nat)  (σ : MS) : Option (Int32) := itr (L_X12_isSteady_4 n  σ) n ((1 : Int32), (0 : Int32))
set_option maxRecDepth 20000 in
set_option maxHeartbeats 2000000 in
theorem c_X12_isSteady (w : TG) (n : Nat)  (σ : MS) : MC m_X12_isSteady w [.ref (wB w + 171)] σ ((f_X12_isSteady n  σ).map (fun r => (r, σ))) := by
  refine V_methp (by decide +kernel) (Nat.le_of_ble_eq_true rfl) (by intro v hv; simp only [List.mem_cons, List.not_mem_nil, or_false] at hv; subst hv; rfl) (fun g x => ?_)
  show VV m_X12_isSteady w g 0 0 (QM m_X12_isSteady w g x) (fun b : Int32 => (b, σ) = x) 0 [some (.ref (wB w + 171)), none, none, none] [] σ (f_X12_isSteady n  σ)
  have hL4 : ∀  (n0 : Nat) (a : Int32 × Int32), VV m_X12_isSteady w g 0 0 (QM m_X12_isSteady w g x) (fun b : Int32 => (b, σ) = x) 4 [some (.ref (wB w + 171)), some (.int a.1), some (.int a.2), none] [] σ (itr (L_X12_isSteady_4 n  σ) n0 a) := by
    refine V_itr (vf := fun a : Int32 × Int32 => [some (.ref (wB w + 171)), some (.int a.1), some (.int a.2), none]) (sf := fun a : Int32 × Int32 => σ) (fun κ4 b4 r4 a4 => ?_)
    obtain ⟨a4_1, a4_2⟩ := a4
    show VV m_X12_isSteady w g 0 0 (QM m_X12_isSteady w g x) κ4 4 [some (.ref (wB w + 171)), some (.int a4_1), some (.int a4_2), none] [] σ (L_X12_isSteady_4 n  σ (a4_1, a4_2))
    have hL14 : ∀ (v2 : Int32) (n0 : Nat) (a : Int32 × Int32), VV m_X12_isSteady w g 0 0 (QM m_X12_isSteady w g x) κ4 14 [some (.ref (wB w + 171)), some (.int a.1), some (.int v2), some (.int a.2)] [] σ (itr (L_X12_isSteady_14 n v2 σ) n0 a) := by
      intro v2
      refine V_itr (vf := fun a : Int32 × Int32 => [some (.ref (wB w + 171)), some (.int a.1), some (.int v2), some (.int a.2)]) (sf := fun a : Int32 × Int32 => σ) (fun κ14 b14 r14 a14 => ?_)
      obtain ⟨a14_1, a14_2⟩ := a14
      show VV m_X12_isSteady w g 0 0 (QM m_X12_isSteady w g x) κ14 14 [some (.ref (wB w + 171)), some (.int a14_1), some (.int v2), some (.int a14_2)] [] σ (L_X12_isSteady_14 n v2 σ (a14_1, a14_2))
      have hJ66 : ∀ (v3 : Int32) (t0 : Int32), VV m_X12_isSteady w g 0 0 (QM m_X12_isSteady w g x) κ14 66 [some (.ref (wB w + 171)), none, some (.int v2), some (.int v3)] [.int t0] σ (J_X12_isSteady_66 n v2 v3 t0 σ) := by
        intro v3 t0
        refine V_istore_n (pc := 66) (vs' := [some (.ref (wB w + 171)), some (.int t0), some (.int v2), some (.int v3)]) dX12_isSteady_66 rfl (Nat.le_of_ble_eq_true rfl) (Nat.le_of_ble_eq_true rfl) rfl ?_
        refine V_iincC (pc := 67) (vs' := [some (.ref (wB w + 171)), some (.int t0), some (.int v2), some (.int (v3 + (1 : Int32)))]) dX12_isSteady_67 (Nat.le_of_ble_eq_true rfl) rfl ic_1 rfl ?_
        refine V_goto (pc := 70) (tgt := 14) dX12_isSteady_70 (by decide +kernel) ?_
        exact V_back (b14 (t0, (v3 + (1 : Int32))))
      have hJ65 : ∀ (v3 : Int32), VV m_X12_isSteady w g 0 0 (QM m_X12_isSteady w g x) κ14 65 [some (.ref (wB w + 171)), none, some (.int v2), some (.int v3)] [] σ (J_X12_isSteady_65 n v2 v3 σ) := by
        intro v3
        refine V_iconst (pc := 65) dX12_isSteady_65 ic_0 ?_
        exact hJ66 v3 (0 : Int32)
      have hJ61 : ∀ (v3 : Int32), VV m_X12_isSteady w g 0 0 (QM m_X12_isSteady w g x) κ14 61 [some (.ref (wB w + 171)), none, some (.int v2), some (.int v3)] [] σ (J_X12_isSteady_61 n v2 v3 σ) := by
        intro v3
        refine V_iconst (pc := 61) dX12_isSteady_61 ic_1 ?_
        refine V_goto (pc := 62) (tgt := 66) dX12_isSteady_62 (by decide +kernel) ?_
        exact hJ66 v3 (1 : Int32)
      refine V_iload_n (pc := 14) dX12_isSteady_14 rfl rfl ?_
      refine V_iload_n (pc := 15) dX12_isSteady_15 rfl rfl ?_
      refine V_icmp_ge (pc := 16) (tgt := 73) dX12_isSteady_16 (by decide +kernel) ?_ ?_
      · refine V_exit r14 ?_
        refine V_iincC (pc := 73) (vs' := [some (.ref (wB w + 171)), some (.int a14_1), some (.int (v2 + (1 : Int32))), some (.int a14_2)]) dX12_isSteady_73 (Nat.le_of_ble_eq_true rfl) rfl ic_1 rfl ?_
        refine V_goto (pc := 76) (tgt := 4) dX12_isSteady_76 (by decide +kernel) ?_
        refine V_sub (vs' := [some (.ref (wB w + 171)), some (.int a14_1), some (.int (v2 + (1 : Int32))), none]) (show vless _ _ from ⟨rfl, ⟨rfl, ⟨rfl, trivial⟩⟩⟩) rfl ?_
        exact V_back (b4 (a14_1, (v2 + (1 : Int32))))
      · refine V_iload_n (pc := 19) dX12_isSteady_19 rfl rfl ?_
        refine V_if_eq (pc := 20) (tgt := 65) dX12_isSteady_20 (by decide +kernel) ?_ ?_
        · refine V_sub (vs' := [some (.ref (wB w + 171)), none, some (.int v2), some (.int a14_2)]) (show vless _ _ from ⟨rfl, ⟨rfl, ⟨rfl, trivial⟩⟩⟩) rfl ?_
          exact hJ65 a14_2
        · refine V_aload_n (pc := 23) dX12_isSteady_23 rfl rfl ?_
          refine V_getr (pc := 24) (t := 180) fk_X12_42 rfl dX12_isSteady_24 kc_171 rf_12_22_171 ?_
          refine V_iload_n (pc := 27) dX12_isSteady_27 rfl rfl ?_
          refine V_iald (pc := 28) (n := 9) dX12_isSteady_28 kc_180 lc_180 ?_
          refine V_iload_n (pc := 29) dX12_isSteady_29 rfl rfl ?_
          refine V_icmp_eq (pc := 30) (tgt := 61) dX12_isSteady_30 (by decide +kernel) ?_ ?_
          · refine V_sub (vs' := [some (.ref (wB w + 171)), none, some (.int v2), some (.int a14_2)]) (show vless _ _ from ⟨rfl, ⟨rfl, ⟨rfl, trivial⟩⟩⟩) rfl ?_
            exact hJ61 a14_2
          · refine V_aload_n (pc := 33) dX12_isSteady_33 rfl rfl ?_
            refine V_iload_n (pc := 34) dX12_isSteady_34 rfl rfl ?_
            refine V_iload_n (pc := 35) dX12_isSteady_35 rfl rfl ?_
            refine V_callVpi (pc := 36) (As := [.int v2, .int a14_2]) (rest := []) (c_X12_likes w v2 a14_2 σ) cw_X12_272 rfl rfl dX12_isSteady_36 kc_171 ci_12 ⟨Nat.le_of_ble_eq_true rfl, Nat.le_of_ble_eq_true rfl⟩ rfl rfl (Nat.le_of_ble_eq_true rfl) (Nat.le_of_ble_eq_true rfl) (Nat.le_of_ble_eq_true rfl) rfl (fun q36 => ?_)
            refine V_aload_n (pc := 39) dX12_isSteady_39 rfl rfl ?_
            refine V_iload_n (pc := 40) dX12_isSteady_40 rfl rfl ?_
            refine V_callVpi (pc := 41) (As := [.int v2]) (rest := [.int q36]) (c_X12_likesIts w v2 σ) cw_X12_388 rfl rfl dX12_isSteady_41 kc_171 ci_12 ⟨Nat.le_of_ble_eq_true rfl, Nat.le_of_ble_eq_true rfl⟩ rfl rfl (Nat.le_of_ble_eq_true rfl) (Nat.le_of_ble_eq_true rfl) (Nat.le_of_ble_eq_true rfl) rfl (fun q41 => ?_)
            refine V_icmp_le (pc := 44) (tgt := 61) dX12_isSteady_44 (by decide +kernel) ?_ ?_
            · refine V_sub (vs' := [some (.ref (wB w + 171)), none, some (.int v2), some (.int a14_2)]) (show vless _ _ from ⟨rfl, ⟨rfl, ⟨rfl, trivial⟩⟩⟩) rfl ?_
              exact hJ61 a14_2
            · refine V_aload_n (pc := 47) dX12_isSteady_47 rfl rfl ?_
              refine V_iload_n (pc := 48) dX12_isSteady_48 rfl rfl ?_
              refine V_iload_n (pc := 49) dX12_isSteady_49 rfl rfl ?_
              refine V_callVpi (pc := 50) (As := [.int a14_2, .int v2]) (rest := []) (c_X12_likes w a14_2 v2 σ) cw_X12_272 rfl rfl dX12_isSteady_50 kc_171 ci_12 ⟨Nat.le_of_ble_eq_true rfl, Nat.le_of_ble_eq_true rfl⟩ rfl rfl (Nat.le_of_ble_eq_true rfl) (Nat.le_of_ble_eq_true rfl) (Nat.le_of_ble_eq_true rfl) rfl (fun q50 => ?_)
              refine V_aload_n (pc := 53) dX12_isSteady_53 rfl rfl ?_
              refine V_iload_n (pc := 54) dX12_isSteady_54 rfl rfl ?_
              refine V_callVpi (pc := 55) (As := [.int a14_2]) (rest := [.int q50]) (c_X12_likesIts w a14_2 σ) cw_X12_388 rfl rfl dX12_isSteady_55 kc_171 ci_12 ⟨Nat.le_of_ble_eq_true rfl, Nat.le_of_ble_eq_true rfl⟩ rfl rfl (Nat.le_of_ble_eq_true rfl) (Nat.le_of_ble_eq_true rfl) (Nat.le_of_ble_eq_true rfl) rfl (fun q55 => ?_)
              refine V_icmp_gt (pc := 58) (tgt := 65) dX12_isSteady_58 (by decide +kernel) ?_ ?_
              · refine V_sub (vs' := [some (.ref (wB w + 171)), none, some (.int v2), some (.int a14_2)]) (show vless _ _ from ⟨rfl, ⟨rfl, ⟨rfl, trivial⟩⟩⟩) rfl ?_
                exact hJ65 a14_2
              · refine V_sub (vs' := [some (.ref (wB w + 171)), none, some (.int v2), some (.int a14_2)]) (show vless _ _ from ⟨rfl, ⟨rfl, ⟨rfl, trivial⟩⟩⟩) rfl ?_
                exact hJ61 a14_2
    refine V_iload_n (pc := 4) dX12_isSteady_4 rfl rfl ?_
    refine V_aload_n (pc := 5) dX12_isSteady_5 rfl rfl ?_
    refine V_callVpi (pc := 6) (As := []) (rest := [.int a4_2]) (c_X12_people w  σ) cw_X12_58 rfl rfl dX12_isSteady_6 kc_171 ci_12 ⟨Nat.le_of_ble_eq_true rfl, Nat.le_of_ble_eq_true rfl⟩ rfl rfl (Nat.le_of_ble_eq_true rfl) (Nat.le_of_ble_eq_true rfl) (Nat.le_of_ble_eq_true rfl) rfl (fun q6 => ?_)
    refine V_icmp_ge (pc := 9) (tgt := 79) dX12_isSteady_9 (by decide +kernel) ?_ ?_
    · refine V_exit r4 ?_
      refine V_iload_n (pc := 79) dX12_isSteady_79 rfl rfl ?_
      exact V_iretZ (pc := 80) dX12_isSteady_80 rfl (hk := fun h => h)
    · refine V_iconst (pc := 12) dX12_isSteady_12 ic_0 ?_
      refine V_istore_n (pc := 13) (vs' := [some (.ref (wB w + 171)), some (.int a4_1), some (.int a4_2), some (.int (0 : Int32))]) dX12_isSteady_13 rfl (Nat.le_of_ble_eq_true rfl) (Nat.le_of_ble_eq_true rfl) rfl ?_
      exact hL14 a4_2 n (a4_1, (0 : Int32))
  refine V_iconst (pc := 0) dX12_isSteady_0 ic_1 ?_
  refine V_istore_n (pc := 1) (vs' := [some (.ref (wB w + 171)), some (.int (1 : Int32)), none, none]) dX12_isSteady_1 rfl (Nat.le_of_ble_eq_true rfl) (Nat.le_of_ble_eq_true rfl) rfl ?_
  refine V_iconst (pc := 2) dX12_isSteady_2 ic_0 ?_
  refine V_istore_n (pc := 3) (vs' := [some (.ref (wB w + 171)), some (.int (1 : Int32)), some (.int (0 : Int32)), none]) dX12_isSteady_3 rfl (Nat.le_of_ble_eq_true rfl) (Nat.le_of_ble_eq_true rfl) rfl ?_
  exact hL4 n ((1 : Int32), (0 : Int32))
def J_X12_steady_155 (n : Nat) (t0 : Int32) (σ : MS) : Option (Int32 × MS) := some (t0, σ)
def J_X12_steady_126 (n : Nat) (v1 : Int32) (v2 : Int32) (v3 : Int32) (v4 : Int32) (σ : MS) : Option ((Int32 × Int32 × MS) ⊕ (Int32 × MS)) := some (.inl (v3, (v4 + (1 : Int32)), σ))
def J_X12_steady_123 (n : Nat) (v1 : Int32) (v2 : Int32) (v3 : Int32) (v4 : Int32) (σ : MS) : Option ((Int32 × Int32 × MS) ⊕ (Int32 × MS)) := J_X12_steady_126 n v1 v2 (v3 + (1 : Int32)) v4 σ
def J_X12_steady_116 (n : Nat) (v1 : Int32) (v2 : Int32) (v3 : Int32) (v4 : Int32) (v5 : Int32) (t0 : Int32) (t1 : Int32) (σ : MS) : Option ((Int32 × MS) ⊕ ((Int32 × Int32 × MS) ⊕ (Int32 × MS))) := (if inb t1 8 then ltM (mu σ 181 (ix t1) t0) (fun s116 => some (.inl ((v5 + (1 : Int32)), s116))) else none)
def L_X12_steady_71 (n : Nat) (v1 : Int32) (v2 : Int32) (v3 : Int32) (v4 : Int32) (σ : MS) (a71 : Int32 × MS) : Option ((Int32 × MS) ⊕ ((Int32 × Int32 × MS) ⊕ (Int32 × MS))) := ((f_X12_people  a71.2).bind (fun q74 => (if q74 ≤ a71.1 then (J_X12_steady_123 n v1 v2 v3 v4 a71.2).map Sum.inr else (if v3 = 0 then (if inb a71.1 9 then ((f_X12_people  a71.2).bind (fun q98 => (if (a71.2 180 (ix a71.1)) = q98 then J_X12_steady_116 n v1 v2 v3 v4 a71.1 a71.1 a71.1 a71.2 else (if inb a71.1 9 then J_X12_steady_116 n v1 v2 v3 v4 a71.1 (a71.2 180 (ix a71.1)) a71.1 a71.2 else none)))) else none) else (J_X12_steady_123 n v1 v2 v3 v4 a71.2).map Sum.inr))))
def L_X12_steady_42 (n : Nat) (v1 : Int32) (v2 : Int32) (σ : MS) (a42 : Int32 × Int32 × MS) : Option ((Int32 × Int32 × MS) ⊕ (Int32 × MS)) := ((f_X12_waysOf n v2 a42.2.2).bind (fun q45 => (if q45 ≤ a42.2.1 then ((if v1 = (-1 : Int32) then J_X12_steady_155 n a42.1 a42.2.2 else (if a42.1 = 0 then J_X12_steady_155 n (-1 : Int32) a42.2.2 else (if inb v1 8 then J_X12_steady_155 n (a42.2.2 181 (ix v1)) a42.2.2 else none)))).map Sum.inr else ((f_X12_laysWay n a42.2.1 v2 a42.2.2).bind (fun q55 => ((f_X12_isSteady n  q55.2).bind (fun q59 => (if q59 = 0 then J_X12_steady_126 n v1 v2 a42.1 a42.2.1 q55.2 else itr (L_X12_steady_71 n v1 v2 a42.1 a42.2.1 σ) n ((0 : Int32), q55.2)))))))))
def J_X12_steady_25 (n : Nat) (v1 : Int32) (σ : MS) : Option (Int32 × MS) := ((f_X12_people  σ).bind (fun q26 => ((f_X12_people  σ).bind (fun q30 => itr (L_X12_steady_42 n v1 (q26 + (remI q30 (2 : Int32))) σ) n ((0 : Int32), (0 : Int32), σ)))))
def f_X12_steady (n : Nat) (p1 : Int32) (σ : MS) : Option (Int32 × MS) := (ltM (mu σ 171 0 (0 : Int32)) (fun s2 => (if p1 = (-1 : Int32) then J_X12_steady_25 n p1 s2 else ((f_X12_noPerson p1 s2).bind (fun q13 => ((f_X12_throwsIf q13 (1 : Int32) s2).bind (fun q17 => (if q17.1 = 0 then J_X12_steady_25 n p1 q17.2 else some ((0 : Int32), q17.2)))))))))
set_option maxRecDepth 20000 in
set_option maxHeartbeats 2000000 in
theorem c_X12_steady (w : TG) (n : Nat) (p1 : Int32) (σ : MS) : MC m_X12_steady w [.ref (wB w + 171), .int p1] σ (f_X12_steady n p1 σ) := by
  refine V_meth (by decide +kernel) (Nat.le_of_ble_eq_true rfl) (by intro v hv; simp only [List.mem_cons, List.not_mem_nil, or_false] at hv; rcases hv with rfl | rfl <;> rfl) (fun g x => ?_)
  show VV m_X12_steady w g 0 0 (QM m_X12_steady w g x) (fun b : Int32 × MS => b = x) 0 [some (.ref (wB w + 171)), some (.int p1), none, none, none, none] [] σ (f_X12_steady n p1 σ)
  have hJ155 : ∀ (t0 : Int32) (σ : MS), VV m_X12_steady w g 0 0 (QM m_X12_steady w g x) (fun b : Int32 × MS => b = x) 155 [none, none, none, none, none, none] [.int t0] σ (J_X12_steady_155 n t0 σ) := by
    intro t0 σ
    exact V_ireti (pc := 155) dX12_steady_155 rfl (hk := fun h => h)
  have hL42 : ∀ (v2 : Int32) (n0 : Nat) (a : Int32 × Int32 × MS), VV m_X12_steady w g 0 0 (QM m_X12_steady w g x) (fun b : Int32 × MS => b = x) 42 [some (.ref (wB w + 171)), some (.int p1), some (.int v2), some (.int a.1), some (.int a.2.1), none] [] a.2.2 (itr (L_X12_steady_42 n p1 v2 σ) n0 a) := by
    intro v2
    refine V_itr (vf := fun a : Int32 × Int32 × MS => [some (.ref (wB w + 171)), some (.int p1), some (.int v2), some (.int a.1), some (.int a.2.1), none]) (sf := fun a : Int32 × Int32 × MS => a.2.2) (fun κ42 b42 r42 a42 => ?_)
    obtain ⟨a42_1, a42_2, a42_3⟩ := a42
    show VV m_X12_steady w g 0 0 (QM m_X12_steady w g x) κ42 42 [some (.ref (wB w + 171)), some (.int p1), some (.int v2), some (.int a42_1), some (.int a42_2), none] [] a42_3 (L_X12_steady_42 n p1 v2 σ (a42_1, a42_2, a42_3))
    have hJ126 : ∀ (v3 : Int32) (v4 : Int32) (σ : MS), VV m_X12_steady w g 0 0 (QM m_X12_steady w g x) κ42 126 [some (.ref (wB w + 171)), some (.int p1), some (.int v2), some (.int v3), some (.int v4), none] [] σ (J_X12_steady_126 n p1 v2 v3 v4 σ) := by
      intro v3 v4 σ
      refine V_iincC (pc := 126) (vs' := [some (.ref (wB w + 171)), some (.int p1), some (.int v2), some (.int v3), some (.int (v4 + (1 : Int32))), none]) dX12_steady_126 (Nat.le_of_ble_eq_true rfl) rfl ic_1 rfl ?_
      refine V_goto (pc := 129) (tgt := 42) dX12_steady_129 (by decide +kernel) ?_
      exact V_back (b42 (v3, (v4 + (1 : Int32)), σ))
    have hJ123 : ∀ (v3 : Int32) (v4 : Int32) (σ : MS), VV m_X12_steady w g 0 0 (QM m_X12_steady w g x) κ42 123 [some (.ref (wB w + 171)), some (.int p1), some (.int v2), some (.int v3), some (.int v4), none] [] σ (J_X12_steady_123 n p1 v2 v3 v4 σ) := by
      intro v3 v4 σ
      refine V_iincC (pc := 123) (vs' := [some (.ref (wB w + 171)), some (.int p1), some (.int v2), some (.int (v3 + (1 : Int32))), some (.int v4), none]) dX12_steady_123 (Nat.le_of_ble_eq_true rfl) rfl ic_1 rfl ?_
      exact hJ126 (v3 + (1 : Int32)) v4 σ
    have hL71 : ∀ (v3 : Int32) (v4 : Int32) (n0 : Nat) (a : Int32 × MS), VV m_X12_steady w g 0 0 (QM m_X12_steady w g x) κ42 71 [some (.ref (wB w + 171)), some (.int p1), some (.int v2), some (.int v3), some (.int v4), some (.int a.1)] [] a.2 (itr (L_X12_steady_71 n p1 v2 v3 v4 σ) n0 a) := by
      intro v3 v4
      refine V_itr (vf := fun a : Int32 × MS => [some (.ref (wB w + 171)), some (.int p1), some (.int v2), some (.int v3), some (.int v4), some (.int a.1)]) (sf := fun a : Int32 × MS => a.2) (fun κ71 b71 r71 a71 => ?_)
      obtain ⟨a71_1, a71_2⟩ := a71
      show VV m_X12_steady w g 0 0 (QM m_X12_steady w g x) κ71 71 [some (.ref (wB w + 171)), some (.int p1), some (.int v2), some (.int v3), some (.int v4), some (.int a71_1)] [] a71_2 (L_X12_steady_71 n p1 v2 v3 v4 σ (a71_1, a71_2))
      have hJ116 : ∀ (v5 : Int32) (t0 : Int32) (t1 : Int32) (σ : MS), VV m_X12_steady w g 0 0 (QM m_X12_steady w g x) κ71 116 [some (.ref (wB w + 171)), some (.int p1), some (.int v2), some (.int v3), some (.int v4), some (.int v5)] [.int t0, .int t1, .ref (wB w + 181)] σ (J_X12_steady_116 n p1 v2 v3 v4 v5 t0 t1 σ) := by
        intro v5 t0 t1 σ
        refine V_iast (pc := 116) (n := 8) dX12_steady_116 kc_181 lc_181 (fun s116 => ?_)
        refine V_iincC (pc := 117) (vs' := [some (.ref (wB w + 171)), some (.int p1), some (.int v2), some (.int v3), some (.int v4), some (.int (v5 + (1 : Int32)))]) dX12_steady_117 (Nat.le_of_ble_eq_true rfl) rfl ic_1 rfl ?_
        refine V_goto (pc := 120) (tgt := 71) dX12_steady_120 (by decide +kernel) ?_
        exact V_back (b71 ((v5 + (1 : Int32)), s116))
      refine V_iload (pc := 71) dX12_steady_71 rfl ?_
      refine V_aload_n (pc := 73) dX12_steady_73 rfl rfl ?_
      refine V_callVpi (pc := 74) (As := []) (rest := [.int a71_1]) (c_X12_people w  a71_2) cw_X12_58 rfl rfl dX12_steady_74 kc_171 ci_12 ⟨Nat.le_of_ble_eq_true rfl, Nat.le_of_ble_eq_true rfl⟩ rfl rfl (Nat.le_of_ble_eq_true rfl) (Nat.le_of_ble_eq_true rfl) (Nat.le_of_ble_eq_true rfl) rfl (fun q74 => ?_)
      refine V_icmp_ge (pc := 77) (tgt := 123) dX12_steady_77 (by decide +kernel) ?_ ?_
      · refine V_exit r71 ?_
        refine V_sub (vs' := [some (.ref (wB w + 171)), some (.int p1), some (.int v2), some (.int v3), some (.int v4), none]) (show vless _ _ from ⟨rfl, ⟨rfl, ⟨rfl, ⟨rfl, ⟨rfl, trivial⟩⟩⟩⟩⟩) rfl ?_
        exact hJ123 v3 v4 a71_2
      · refine V_iload_n (pc := 80) dX12_steady_80 rfl rfl ?_
        refine V_if_ne (pc := 81) (tgt := 123) dX12_steady_81 (by decide +kernel) ?_ ?_
        · refine V_exit r71 ?_
          refine V_sub (vs' := [some (.ref (wB w + 171)), some (.int p1), some (.int v2), some (.int v3), some (.int v4), none]) (show vless _ _ from ⟨rfl, ⟨rfl, ⟨rfl, ⟨rfl, ⟨rfl, trivial⟩⟩⟩⟩⟩) rfl ?_
          exact hJ123 v3 v4 a71_2
        · refine V_aload_n (pc := 84) dX12_steady_84 rfl rfl ?_
          refine V_getr (pc := 85) (t := 181) fk_X12_45 rfl dX12_steady_85 kc_171 rf_12_23_171 ?_
          refine V_iload (pc := 88) dX12_steady_88 rfl ?_
          refine V_aload_n (pc := 90) dX12_steady_90 rfl rfl ?_
          refine V_getr (pc := 91) (t := 180) fk_X12_42 rfl dX12_steady_91 kc_171 rf_12_22_171 ?_
          refine V_iload (pc := 94) dX12_steady_94 rfl ?_
          refine V_iald (pc := 96) (n := 9) dX12_steady_96 kc_180 lc_180 ?_
          refine V_aload_n (pc := 97) dX12_steady_97 rfl rfl ?_
          refine V_callVpi (pc := 98) (As := []) (rest := [.int (a71_2 180 (ix a71_1)), .int a71_1, .ref (wB w + 181)]) (c_X12_people w  a71_2) cw_X12_58 rfl rfl dX12_steady_98 kc_171 ci_12 ⟨Nat.le_of_ble_eq_true rfl, Nat.le_of_ble_eq_true rfl⟩ rfl rfl (Nat.le_of_ble_eq_true rfl) (Nat.le_of_ble_eq_true rfl) (Nat.le_of_ble_eq_true rfl) rfl (fun q98 => ?_)
          refine V_icmp_ne (pc := 101) (tgt := 109) dX12_steady_101 (by decide +kernel) ?_ ?_
          · refine V_aload_n (pc := 109) dX12_steady_109 rfl rfl ?_
            refine V_getr (pc := 110) (t := 180) fk_X12_42 rfl dX12_steady_110 kc_171 rf_12_22_171 ?_
            refine V_iload (pc := 113) dX12_steady_113 rfl ?_
            refine V_iald (pc := 115) (n := 9) dX12_steady_115 kc_180 lc_180 ?_
            exact hJ116 a71_1 (a71_2 180 (ix a71_1)) a71_1 a71_2
          · refine V_iload (pc := 104) dX12_steady_104 rfl ?_
            refine V_goto (pc := 106) (tgt := 116) dX12_steady_106 (by decide +kernel) ?_
            exact hJ116 a71_1 a71_1 a71_1 a71_2
    refine V_iload (pc := 42) dX12_steady_42 rfl ?_
    refine V_iload_n (pc := 44) dX12_steady_44 rfl rfl ?_
    refine V_callSpi (pc := 45) (As := [.int v2]) (rest := [.int a42_2]) (c_X12_waysOf w n v2 a42_3) cs_X12_382 rfl rfl dX12_steady_45 ⟨Nat.le_of_ble_eq_true rfl, Nat.le_of_ble_eq_true rfl⟩ rfl rfl (Nat.le_of_ble_eq_true rfl) (Nat.le_of_ble_eq_true rfl) (Nat.le_of_ble_eq_true rfl) rfl (fun q45 => ?_)
    refine V_icmp_ge (pc := 48) (tgt := 132) dX12_steady_48 (by decide +kernel) ?_ ?_
    · refine V_exit r42 ?_
      refine V_iload_n (pc := 132) dX12_steady_132 rfl rfl ?_
      refine V_iconst (pc := 133) dX12_steady_133 ic_m1 ?_
      refine V_icmp_ne (pc := 134) (tgt := 141) dX12_steady_134 (by decide +kernel) ?_ ?_
      · refine V_iload_n (pc := 141) dX12_steady_141 rfl rfl ?_
        refine V_if_ne (pc := 142) (tgt := 149) dX12_steady_142 (by decide +kernel) ?_ ?_
        · refine V_aload_n (pc := 149) dX12_steady_149 rfl rfl ?_
          refine V_getr (pc := 150) (t := 181) fk_X12_45 rfl dX12_steady_150 kc_171 rf_12_23_171 ?_
          refine V_iload_n (pc := 153) dX12_steady_153 rfl rfl ?_
          refine V_iald (pc := 154) (n := 8) dX12_steady_154 kc_181 lc_181 ?_
          refine V_sub (vs' := [none, none, none, none, none, none]) (show vless _ _ from trivial) rfl ?_
          exact hJ155 (a42_3 181 (ix p1)) a42_3
        · refine V_iconst (pc := 145) dX12_steady_145 ic_m1 ?_
          refine V_goto (pc := 146) (tgt := 155) dX12_steady_146 (by decide +kernel) ?_
          refine V_sub (vs' := [none, none, none, none, none, none]) (show vless _ _ from trivial) rfl ?_
          exact hJ155 (-1 : Int32) a42_3
      · refine V_iload_n (pc := 137) dX12_steady_137 rfl rfl ?_
        refine V_goto (pc := 138) (tgt := 155) dX12_steady_138 (by decide +kernel) ?_
        refine V_sub (vs' := [none, none, none, none, none, none]) (show vless _ _ from trivial) rfl ?_
        exact hJ155 a42_1 a42_3
    · refine V_aload_n (pc := 51) dX12_steady_51 rfl rfl ?_
      refine V_iload (pc := 52) dX12_steady_52 rfl ?_
      refine V_iload_n (pc := 54) dX12_steady_54 rfl rfl ?_
      refine V_callVv (pc := 55) (As := [.int a42_2, .int v2]) (rest := []) (c_X12_laysWay w n a42_2 v2 a42_3) cw_X12_391 rfl rfl dX12_steady_55 kc_171 ci_12 ⟨Nat.le_of_ble_eq_true rfl, Nat.le_of_ble_eq_true rfl⟩ rfl rfl (Nat.le_of_ble_eq_true rfl) (Nat.le_of_ble_eq_true rfl) (Nat.le_of_ble_eq_true rfl) rfl (fun q55 => ?_)
      refine V_aload_n (pc := 58) dX12_steady_58 rfl rfl ?_
      refine V_callVpi (pc := 59) (As := []) (rest := []) (c_X12_isSteady w n  q55.2) cw_X12_394 rfl rfl dX12_steady_59 kc_171 ci_12 ⟨Nat.le_of_ble_eq_true rfl, Nat.le_of_ble_eq_true rfl⟩ rfl rfl (Nat.le_of_ble_eq_true rfl) (Nat.le_of_ble_eq_true rfl) (Nat.le_of_ble_eq_true rfl) rfl (fun q59 => ?_)
      refine V_if_ne (pc := 62) (tgt := 68) dX12_steady_62 (by decide +kernel) ?_ ?_
      · refine V_iconst (pc := 68) dX12_steady_68 ic_0 ?_
        refine V_istore (pc := 69) (vs' := [some (.ref (wB w + 171)), some (.int p1), some (.int v2), some (.int a42_1), some (.int a42_2), some (.int (0 : Int32))]) dX12_steady_69 (Nat.le_of_ble_eq_true rfl) (Nat.le_of_ble_eq_true rfl) rfl ?_
        exact hL71 a42_1 a42_2 n ((0 : Int32), q55.2)
      · refine V_goto (pc := 65) (tgt := 126) dX12_steady_65 (by decide +kernel) ?_
        exact hJ126 a42_1 a42_2 q55.2
  have hJ25 : ∀ (σ : MS), VV m_X12_steady w g 0 0 (QM m_X12_steady w g x) (fun b : Int32 × MS => b = x) 25 [some (.ref (wB w + 171)), some (.int p1), none, none, none, none] [] σ (J_X12_steady_25 n p1 σ) := by
    intro σ
    refine V_aload_n (pc := 25) dX12_steady_25 rfl rfl ?_
    refine V_callVpi (pc := 26) (As := []) (rest := []) (c_X12_people w  σ) cw_X12_58 rfl rfl dX12_steady_26 kc_171 ci_12 ⟨Nat.le_of_ble_eq_true rfl, Nat.le_of_ble_eq_true rfl⟩ rfl rfl (Nat.le_of_ble_eq_true rfl) (Nat.le_of_ble_eq_true rfl) (Nat.le_of_ble_eq_true rfl) rfl (fun q26 => ?_)
    refine V_aload_n (pc := 29) dX12_steady_29 rfl rfl ?_
    refine V_callVpi (pc := 30) (As := []) (rest := [.int q26]) (c_X12_people w  σ) cw_X12_58 rfl rfl dX12_steady_30 kc_171 ci_12 ⟨Nat.le_of_ble_eq_true rfl, Nat.le_of_ble_eq_true rfl⟩ rfl rfl (Nat.le_of_ble_eq_true rfl) (Nat.le_of_ble_eq_true rfl) (Nat.le_of_ble_eq_true rfl) rfl (fun q30 => ?_)
    refine V_iconst (pc := 33) dX12_steady_33 ic_2 ?_
    refine V_irem (pc := 34) dX12_steady_34 (by decide +kernel) ?_
    refine V_iadd (pc := 35) dX12_steady_35 ?_
    refine V_istore_n (pc := 36) (vs' := [some (.ref (wB w + 171)), some (.int p1), some (.int (q26 + (remI q30 (2 : Int32)))), none, none, none]) dX12_steady_36 rfl (Nat.le_of_ble_eq_true rfl) (Nat.le_of_ble_eq_true rfl) rfl ?_
    refine V_iconst (pc := 37) dX12_steady_37 ic_0 ?_
    refine V_istore_n (pc := 38) (vs' := [some (.ref (wB w + 171)), some (.int p1), some (.int (q26 + (remI q30 (2 : Int32)))), some (.int (0 : Int32)), none, none]) dX12_steady_38 rfl (Nat.le_of_ble_eq_true rfl) (Nat.le_of_ble_eq_true rfl) rfl ?_
    refine V_iconst (pc := 39) dX12_steady_39 ic_0 ?_
    refine V_istore (pc := 40) (vs' := [some (.ref (wB w + 171)), some (.int p1), some (.int (q26 + (remI q30 (2 : Int32)))), some (.int (0 : Int32)), some (.int (0 : Int32)), none]) dX12_steady_40 (Nat.le_of_ble_eq_true rfl) (Nat.le_of_ble_eq_true rfl) rfl ?_
    exact hL42 (q26 + (remI q30 (2 : Int32))) n ((0 : Int32), (0 : Int32), σ)
  refine V_aload_n (pc := 0) dX12_steady_0 rfl rfl ?_
  refine V_iconst (pc := 1) dX12_steady_1 ic_0 ?_
  refine V_puti (pc := 2) fp_X12_3 rfl dX12_steady_2 kc_171 rf_12_0_171 (fun s2 => ?_)
  refine V_iload_n (pc := 5) dX12_steady_5 rfl rfl ?_
  refine V_iconst (pc := 6) dX12_steady_6 ic_m1 ?_
  refine V_icmp_eq (pc := 7) (tgt := 25) dX12_steady_7 (by decide +kernel) ?_ ?_
  · exact hJ25 s2
  · refine V_aload_n (pc := 10) dX12_steady_10 rfl rfl ?_
    refine V_aload_n (pc := 11) dX12_steady_11 rfl rfl ?_
    refine V_iload_n (pc := 12) dX12_steady_12 rfl rfl ?_
    refine V_callVpi (pc := 13) (As := [.int p1]) (rest := [.ref (wB w + 171)]) (c_X12_noPerson w p1 s2) cw_X12_297 rfl rfl dX12_steady_13 kc_171 ci_12 ⟨Nat.le_of_ble_eq_true rfl, Nat.le_of_ble_eq_true rfl⟩ rfl rfl (Nat.le_of_ble_eq_true rfl) (Nat.le_of_ble_eq_true rfl) (Nat.le_of_ble_eq_true rfl) rfl (fun q13 => ?_)
    refine V_iconst (pc := 16) dX12_steady_16 ic_1 ?_
    refine V_callVi (pc := 17) (As := [.int q13, .int (1 : Int32)]) (rest := []) (c_X12_throwsIf w q13 (1 : Int32) s2) cw_X12_257 rfl rfl dX12_steady_17 kc_171 ci_12 ⟨Nat.le_of_ble_eq_true rfl, Nat.le_of_ble_eq_true rfl⟩ rfl rfl (Nat.le_of_ble_eq_true rfl) (Nat.le_of_ble_eq_true rfl) (Nat.le_of_ble_eq_true rfl) rfl (fun q17 => ?_)
    refine V_if_eq (pc := 20) (tgt := 25) dX12_steady_20 (by decide +kernel) ?_ ?_
    · exact hJ25 q17.2
    · refine V_iconst (pc := 23) dX12_steady_23 ic_0 ?_
      exact V_ireti (pc := 24) dX12_steady_24 rfl (hk := fun h => h)
def J_X12_fondest_102 (n : Nat) (v1 : Int32) (v2 : Int32) (v3 : Int32) (σ : MS) : Option ((Int32 × MS) ⊕ ((Int32 × MS) ⊕ ((Int32 × MS) ⊕ (Int32 × MS)))) := some (.inl ((v3 + (1 : Int32)), σ))
def L_X12_fondest_34 (n : Nat) (v1 : Int32) (v2 : Int32) (σ : MS) (a34 : Int32 × MS) : Option ((Int32 × MS) ⊕ ((Int32 × MS) ⊕ ((Int32 × MS) ⊕ (Int32 × MS)))) := (if v2 ≤ a34.1 then (some (.inl ((v2 + (1 : Int32)), a34.2))).map Sum.inr else ((f_X12_has v1 v2 a34.2).bind (fun q41 => (if q41 = 0 then J_X12_fondest_102 n v1 v2 a34.1 a34.2 else ((f_X12_has v1 a34.1 a34.2).bind (fun q49 => (if q49 = 0 then J_X12_fondest_102 n v1 v2 a34.1 a34.2 else (if inb v1 256 then ((f_X12_likes v2 a34.1 a34.2).bind (fun q69 => ((f_X12_likes a34.1 v2 a34.2).bind (fun q75 => (if inb ((v1 &&& ((shlI (1 : Int32) v2) ^^^ (-1 : Int32))) &&& ((shlI (1 : Int32) a34.1) ^^^ (-1 : Int32))) 256 then (if inb v1 256 then ltM (mu a34.2 182 (ix v1) (mxI (a34.2 182 (ix v1)) ((q69 + q75) + (a34.2 182 (ix ((v1 &&& ((shlI (1 : Int32) v2) ^^^ (-1 : Int32))) &&& ((shlI (1 : Int32) a34.1) ^^^ (-1 : Int32)))))))) (fun s101 => J_X12_fondest_102 n v1 v2 a34.1 s101) else none) else none))))) else none))))))))
def L_X12_fondest_24 (n : Nat) (v1 : Int32) (σ : MS) (a24 : Int32 × MS) : Option ((Int32 × MS) ⊕ ((Int32 × MS) ⊕ (Int32 × MS))) := ((f_X12_people  a24.2).bind (fun q26 => (if q26 ≤ a24.1 then (some (.inl ((v1 + (1 : Int32)), a24.2))).map Sum.inr else itr (L_X12_fondest_34 n v1 a24.1 σ) n ((0 : Int32), a24.2))))
def L_X12_fondest_7 (n : Nat)  (σ : MS) (a7 : Int32 × MS) : Option ((Int32 × MS) ⊕ (Int32 × MS)) := ((f_X12_everybody  a7.2).bind (fun q9 => (if q9 < a7.1 then (((f_X12_everybody  a7.2).bind (fun q125 => (if inb q125 256 then some ((a7.2 182 (ix q125)), a7.2) else none)))).map Sum.inr else (if inb a7.1 256 then ltM (mu a7.2 182 (ix a7.1) (0 : Int32)) (fun s21 => itr (L_X12_fondest_24 n a7.1 σ) n ((0 : Int32), s21)) else none))))
def f_X12_fondest (n : Nat)  (σ : MS) : Option (Int32 × MS) := (ltM (mu σ 171 0 (0 : Int32)) (fun s2 => itr (L_X12_fondest_7 n  σ) n ((0 : Int32), s2)))
set_option maxRecDepth 20000 in
set_option maxHeartbeats 2000000 in
theorem c_X12_fondest (w : TG) (n : Nat)  (σ : MS) : MC m_X12_fondest w [.ref (wB w + 171)] σ (f_X12_fondest n  σ) := by
  refine V_meth (by decide +kernel) (Nat.le_of_ble_eq_true rfl) (by intro v hv; simp only [List.mem_cons, List.not_mem_nil, or_false] at hv; subst hv; rfl) (fun g x => ?_)
  show VV m_X12_fondest w g 0 0 (QM m_X12_fondest w g x) (fun b : Int32 × MS => b = x) 0 [some (.ref (wB w + 171)), none, none, none] [] σ (f_X12_fondest n  σ)
  have hL7 : ∀  (n0 : Nat) (a : Int32 × MS), VV m_X12_fondest w g 0 0 (QM m_X12_fondest w g x) (fun b : Int32 × MS => b = x) 7 [some (.ref (wB w + 171)), some (.int a.1), none, none] [] a.2 (itr (L_X12_fondest_7 n  σ) n0 a) := by
    refine V_itr (vf := fun a : Int32 × MS => [some (.ref (wB w + 171)), some (.int a.1), none, none]) (sf := fun a : Int32 × MS => a.2) (fun κ7 b7 r7 a7 => ?_)
    obtain ⟨a7_1, a7_2⟩ := a7
    show VV m_X12_fondest w g 0 0 (QM m_X12_fondest w g x) κ7 7 [some (.ref (wB w + 171)), some (.int a7_1), none, none] [] a7_2 (L_X12_fondest_7 n  σ (a7_1, a7_2))
    have hL24 : ∀ (v1 : Int32) (n0 : Nat) (a : Int32 × MS), VV m_X12_fondest w g 0 0 (QM m_X12_fondest w g x) κ7 24 [some (.ref (wB w + 171)), some (.int v1), some (.int a.1), none] [] a.2 (itr (L_X12_fondest_24 n v1 σ) n0 a) := by
      intro v1
      refine V_itr (vf := fun a : Int32 × MS => [some (.ref (wB w + 171)), some (.int v1), some (.int a.1), none]) (sf := fun a : Int32 × MS => a.2) (fun κ24 b24 r24 a24 => ?_)
      obtain ⟨a24_1, a24_2⟩ := a24
      show VV m_X12_fondest w g 0 0 (QM m_X12_fondest w g x) κ24 24 [some (.ref (wB w + 171)), some (.int v1), some (.int a24_1), none] [] a24_2 (L_X12_fondest_24 n v1 σ (a24_1, a24_2))
      have hL34 : ∀ (v2 : Int32) (n0 : Nat) (a : Int32 × MS), VV m_X12_fondest w g 0 0 (QM m_X12_fondest w g x) κ24 34 [some (.ref (wB w + 171)), some (.int v1), some (.int v2), some (.int a.1)] [] a.2 (itr (L_X12_fondest_34 n v1 v2 σ) n0 a) := by
        intro v2
        refine V_itr (vf := fun a : Int32 × MS => [some (.ref (wB w + 171)), some (.int v1), some (.int v2), some (.int a.1)]) (sf := fun a : Int32 × MS => a.2) (fun κ34 b34 r34 a34 => ?_)
        obtain ⟨a34_1, a34_2⟩ := a34
        show VV m_X12_fondest w g 0 0 (QM m_X12_fondest w g x) κ34 34 [some (.ref (wB w + 171)), some (.int v1), some (.int v2), some (.int a34_1)] [] a34_2 (L_X12_fondest_34 n v1 v2 σ (a34_1, a34_2))
        have hJ102 : ∀ (v3 : Int32) (σ : MS), VV m_X12_fondest w g 0 0 (QM m_X12_fondest w g x) κ34 102 [some (.ref (wB w + 171)), some (.int v1), some (.int v2), some (.int v3)] [] σ (J_X12_fondest_102 n v1 v2 v3 σ) := by
          intro v3 σ
          refine V_iincC (pc := 102) (vs' := [some (.ref (wB w + 171)), some (.int v1), some (.int v2), some (.int (v3 + (1 : Int32)))]) dX12_fondest_102 (Nat.le_of_ble_eq_true rfl) rfl ic_1 rfl ?_
          refine V_goto (pc := 105) (tgt := 34) dX12_fondest_105 (by decide +kernel) ?_
          exact V_back (b34 ((v3 + (1 : Int32)), σ))
        refine V_iload_n (pc := 34) dX12_fondest_34 rfl rfl ?_
        refine V_iload_n (pc := 35) dX12_fondest_35 rfl rfl ?_
        refine V_icmp_ge (pc := 36) (tgt := 108) dX12_fondest_36 (by decide +kernel) ?_ ?_
        · refine V_exit r34 ?_
          refine V_iincC (pc := 108) (vs' := [some (.ref (wB w + 171)), some (.int v1), some (.int (v2 + (1 : Int32))), some (.int a34_1)]) dX12_fondest_108 (Nat.le_of_ble_eq_true rfl) rfl ic_1 rfl ?_
          refine V_goto (pc := 111) (tgt := 24) dX12_fondest_111 (by decide +kernel) ?_
          refine V_sub (vs' := [some (.ref (wB w + 171)), some (.int v1), some (.int (v2 + (1 : Int32))), none]) (show vless _ _ from ⟨rfl, ⟨rfl, ⟨rfl, trivial⟩⟩⟩) rfl ?_
          exact V_back (b24 ((v2 + (1 : Int32)), a34_2))
        · refine V_iload_n (pc := 39) dX12_fondest_39 rfl rfl ?_
          refine V_iload_n (pc := 40) dX12_fondest_40 rfl rfl ?_
          refine V_callSpi (pc := 41) (As := [.int v1, .int v2]) (rest := []) (c_X12_has w v1 v2 a34_2) cs_X12_76 rfl rfl dX12_fondest_41 ⟨Nat.le_of_ble_eq_true rfl, Nat.le_of_ble_eq_true rfl⟩ rfl rfl (Nat.le_of_ble_eq_true rfl) (Nat.le_of_ble_eq_true rfl) (Nat.le_of_ble_eq_true rfl) rfl (fun q41 => ?_)
          refine V_if_eq (pc := 44) (tgt := 102) dX12_fondest_44 (by decide +kernel) ?_ ?_
          · exact hJ102 a34_1 a34_2
          · refine V_iload_n (pc := 47) dX12_fondest_47 rfl rfl ?_
            refine V_iload_n (pc := 48) dX12_fondest_48 rfl rfl ?_
            refine V_callSpi (pc := 49) (As := [.int v1, .int a34_1]) (rest := []) (c_X12_has w v1 a34_1 a34_2) cs_X12_76 rfl rfl dX12_fondest_49 ⟨Nat.le_of_ble_eq_true rfl, Nat.le_of_ble_eq_true rfl⟩ rfl rfl (Nat.le_of_ble_eq_true rfl) (Nat.le_of_ble_eq_true rfl) (Nat.le_of_ble_eq_true rfl) rfl (fun q49 => ?_)
            refine V_if_eq (pc := 52) (tgt := 102) dX12_fondest_52 (by decide +kernel) ?_ ?_
            · exact hJ102 a34_1 a34_2
            · refine V_aload_n (pc := 55) dX12_fondest_55 rfl rfl ?_
              refine V_getr (pc := 56) (t := 182) fk_X12_48 rfl dX12_fondest_56 kc_171 rf_12_24_171 ?_
              refine V_iload_n (pc := 59) dX12_fondest_59 rfl rfl ?_
              refine V_aload_n (pc := 60) dX12_fondest_60 rfl rfl ?_
              refine V_getr (pc := 61) (t := 182) fk_X12_48 rfl dX12_fondest_61 kc_171 rf_12_24_171 ?_
              refine V_iload_n (pc := 64) dX12_fondest_64 rfl rfl ?_
              refine V_iald (pc := 65) (n := 256) dX12_fondest_65 kc_182 lc_182 ?_
              refine V_aload_n (pc := 66) dX12_fondest_66 rfl rfl ?_
              refine V_iload_n (pc := 67) dX12_fondest_67 rfl rfl ?_
              refine V_iload_n (pc := 68) dX12_fondest_68 rfl rfl ?_
              refine V_callVpi (pc := 69) (As := [.int v2, .int a34_1]) (rest := [.int (a34_2 182 (ix v1)), .int v1, .ref (wB w + 182)]) (c_X12_likes w v2 a34_1 a34_2) cw_X12_272 rfl rfl dX12_fondest_69 kc_171 ci_12 ⟨Nat.le_of_ble_eq_true rfl, Nat.le_of_ble_eq_true rfl⟩ rfl rfl (Nat.le_of_ble_eq_true rfl) (Nat.le_of_ble_eq_true rfl) (Nat.le_of_ble_eq_true rfl) rfl (fun q69 => ?_)
              refine V_aload_n (pc := 72) dX12_fondest_72 rfl rfl ?_
              refine V_iload_n (pc := 73) dX12_fondest_73 rfl rfl ?_
              refine V_iload_n (pc := 74) dX12_fondest_74 rfl rfl ?_
              refine V_callVpi (pc := 75) (As := [.int a34_1, .int v2]) (rest := [.int q69, .int (a34_2 182 (ix v1)), .int v1, .ref (wB w + 182)]) (c_X12_likes w a34_1 v2 a34_2) cw_X12_272 rfl rfl dX12_fondest_75 kc_171 ci_12 ⟨Nat.le_of_ble_eq_true rfl, Nat.le_of_ble_eq_true rfl⟩ rfl rfl (Nat.le_of_ble_eq_true rfl) (Nat.le_of_ble_eq_true rfl) (Nat.le_of_ble_eq_true rfl) rfl (fun q75 => ?_)
              refine V_iadd (pc := 78) dX12_fondest_78 ?_
              refine V_aload_n (pc := 79) dX12_fondest_79 rfl rfl ?_
              refine V_getr (pc := 80) (t := 182) fk_X12_48 rfl dX12_fondest_80 kc_171 rf_12_24_171 ?_
              refine V_iload_n (pc := 83) dX12_fondest_83 rfl rfl ?_
              refine V_iconst (pc := 84) dX12_fondest_84 ic_1 ?_
              refine V_iload_n (pc := 85) dX12_fondest_85 rfl rfl ?_
              refine V_ishl (pc := 86) dX12_fondest_86 ?_
              refine V_iconst (pc := 87) dX12_fondest_87 ic_m1 ?_
              refine V_ixor (pc := 88) dX12_fondest_88 ?_
              refine V_iand (pc := 89) dX12_fondest_89 ?_
              refine V_iconst (pc := 90) dX12_fondest_90 ic_1 ?_
              refine V_iload_n (pc := 91) dX12_fondest_91 rfl rfl ?_
              refine V_ishl (pc := 92) dX12_fondest_92 ?_
              refine V_iconst (pc := 93) dX12_fondest_93 ic_m1 ?_
              refine V_ixor (pc := 94) dX12_fondest_94 ?_
              refine V_iand (pc := 95) dX12_fondest_95 ?_
              refine V_iald (pc := 96) (n := 256) dX12_fondest_96 kc_182 lc_182 ?_
              refine V_iadd (pc := 97) dX12_fondest_97 ?_
              refine V_mmax (pc := 98) dX12_fondest_98 rfl mw_X12_288 (Nat.le_of_ble_eq_true rfl) (Nat.le_of_ble_eq_true rfl) (Nat.le_of_ble_eq_true rfl) (Nat.le_of_ble_eq_true rfl) ?_
              refine V_iast (pc := 101) (n := 256) dX12_fondest_101 kc_182 lc_182 (fun s101 => ?_)
              exact hJ102 a34_1 s101
      refine V_iload_n (pc := 24) dX12_fondest_24 rfl rfl ?_
      refine V_aload_n (pc := 25) dX12_fondest_25 rfl rfl ?_
      refine V_callVpi (pc := 26) (As := []) (rest := [.int a24_1]) (c_X12_people w  a24_2) cw_X12_58 rfl rfl dX12_fondest_26 kc_171 ci_12 ⟨Nat.le_of_ble_eq_true rfl, Nat.le_of_ble_eq_true rfl⟩ rfl rfl (Nat.le_of_ble_eq_true rfl) (Nat.le_of_ble_eq_true rfl) (Nat.le_of_ble_eq_true rfl) rfl (fun q26 => ?_)
      refine V_icmp_ge (pc := 29) (tgt := 114) dX12_fondest_29 (by decide +kernel) ?_ ?_
      · refine V_exit r24 ?_
        refine V_iincC (pc := 114) (vs' := [some (.ref (wB w + 171)), some (.int (v1 + (1 : Int32))), some (.int a24_1), none]) dX12_fondest_114 (Nat.le_of_ble_eq_true rfl) rfl ic_1 rfl ?_
        refine V_goto (pc := 117) (tgt := 7) dX12_fondest_117 (by decide +kernel) ?_
        refine V_sub (vs' := [some (.ref (wB w + 171)), some (.int (v1 + (1 : Int32))), none, none]) (show vless _ _ from ⟨rfl, ⟨rfl, trivial⟩⟩) rfl ?_
        exact V_back (b7 ((v1 + (1 : Int32)), a24_2))
      · refine V_iconst (pc := 32) dX12_fondest_32 ic_0 ?_
        refine V_istore_n (pc := 33) (vs' := [some (.ref (wB w + 171)), some (.int v1), some (.int a24_1), some (.int (0 : Int32))]) dX12_fondest_33 rfl (Nat.le_of_ble_eq_true rfl) (Nat.le_of_ble_eq_true rfl) rfl ?_
        exact hL34 a24_1 n ((0 : Int32), a24_2)
    refine V_iload_n (pc := 7) dX12_fondest_7 rfl rfl ?_
    refine V_aload_n (pc := 8) dX12_fondest_8 rfl rfl ?_
    refine V_callVpi (pc := 9) (As := []) (rest := [.int a7_1]) (c_X12_everybody w  a7_2) cw_X12_327 rfl rfl dX12_fondest_9 kc_171 ci_12 ⟨Nat.le_of_ble_eq_true rfl, Nat.le_of_ble_eq_true rfl⟩ rfl rfl (Nat.le_of_ble_eq_true rfl) (Nat.le_of_ble_eq_true rfl) (Nat.le_of_ble_eq_true rfl) rfl (fun q9 => ?_)
    refine V_icmp_gt (pc := 12) (tgt := 120) dX12_fondest_12 (by decide +kernel) ?_ ?_
    · refine V_exit r7 ?_
      refine V_aload_n (pc := 120) dX12_fondest_120 rfl rfl ?_
      refine V_getr (pc := 121) (t := 182) fk_X12_48 rfl dX12_fondest_121 kc_171 rf_12_24_171 ?_
      refine V_aload_n (pc := 124) dX12_fondest_124 rfl rfl ?_
      refine V_callVpi (pc := 125) (As := []) (rest := [.ref (wB w + 182)]) (c_X12_everybody w  a7_2) cw_X12_327 rfl rfl dX12_fondest_125 kc_171 ci_12 ⟨Nat.le_of_ble_eq_true rfl, Nat.le_of_ble_eq_true rfl⟩ rfl rfl (Nat.le_of_ble_eq_true rfl) (Nat.le_of_ble_eq_true rfl) (Nat.le_of_ble_eq_true rfl) rfl (fun q125 => ?_)
      refine V_iald (pc := 128) (n := 256) dX12_fondest_128 kc_182 lc_182 ?_
      exact V_ireti (pc := 129) dX12_fondest_129 rfl (hk := fun h => h)
    · refine V_aload_n (pc := 15) dX12_fondest_15 rfl rfl ?_
      refine V_getr (pc := 16) (t := 182) fk_X12_48 rfl dX12_fondest_16 kc_171 rf_12_24_171 ?_
      refine V_iload_n (pc := 19) dX12_fondest_19 rfl rfl ?_
      refine V_iconst (pc := 20) dX12_fondest_20 ic_0 ?_
      refine V_iast (pc := 21) (n := 256) dX12_fondest_21 kc_182 lc_182 (fun s21 => ?_)
      refine V_iconst (pc := 22) dX12_fondest_22 ic_0 ?_
      refine V_istore_n (pc := 23) (vs' := [some (.ref (wB w + 171)), some (.int a7_1), some (.int (0 : Int32)), none]) dX12_fondest_23 rfl (Nat.le_of_ble_eq_true rfl) (Nat.le_of_ble_eq_true rfl) rfl ?_
      exact hL24 a7_1 n ((0 : Int32), s21)
  refine V_aload_n (pc := 0) dX12_fondest_0 rfl rfl ?_
  refine V_iconst (pc := 1) dX12_fondest_1 ic_0 ?_
  refine V_puti (pc := 2) fp_X12_3 rfl dX12_fondest_2 kc_171 rf_12_0_171 (fun s2 => ?_)
  refine V_iconst (pc := 5) dX12_fondest_5 ic_0 ?_
  refine V_istore_n (pc := 6) (vs' := [some (.ref (wB w + 171)), some (.int (0 : Int32)), none, none]) dX12_fondest_6 rfl (Nat.le_of_ble_eq_true rfl) (Nat.le_of_ble_eq_true rfl) rfl ?_
  exact hL7 n ((0 : Int32), s2)
def J_X12_wash_37 (n : Nat)  (σ : MS) : Option (Int32 × MS) := some ((0 : Int32), σ)
def J_X12_wash_30 (n : Nat) (v1 : Int32) (v2 : Int32) (t0 : Int32) (σ : MS) : Option (Int32 × MS) := ((f_X12_throwsIf t0 (2 : Int32) σ).bind (fun q31 => (if q31.1 = 0 then ((f_X12_remembers n  q31.2).bind (fun q40 => ((f_X12_bondOf v1 v2 q40.2).bind (fun q46 => ((f_X12_binds v1 v2 (0 : Int32) (0 : Int32) q40.2).bind (fun q55 => some (q46, q55.2))))))) else J_X12_wash_37 n  q31.2)))
def f_X12_wash (n : Nat) (p1 : Int32) (p2 : Int32) (σ : MS) : Option (Int32 × MS) := (ltM (mu σ 171 0 (0 : Int32)) (fun s2 => ((f_X12_noBoth p1 p2 s2).bind (fun q9 => ((f_X12_throwsIf q9 (1 : Int32) s2).bind (fun q13 => (if q13.1 = 0 then (if p1 = p2 then J_X12_wash_30 n p1 p2 (1 : Int32) q13.2 else J_X12_wash_30 n p1 p2 (0 : Int32) q13.2) else J_X12_wash_37 n  q13.2)))))))
set_option maxRecDepth 20000 in
set_option maxHeartbeats 2000000 in
theorem c_X12_wash (w : TG) (n : Nat) (p1 : Int32) (p2 : Int32) (σ : MS) : MC m_X12_wash w [.ref (wB w + 171), .int p1, .int p2] σ (f_X12_wash n p1 p2 σ) := by
  refine V_meth (by decide +kernel) (Nat.le_of_ble_eq_true rfl) (by intro v hv; simp only [List.mem_cons, List.not_mem_nil, or_false] at hv; rcases hv with rfl | rfl | rfl <;> rfl) (fun g x => ?_)
  show VV m_X12_wash w g 0 0 (QM m_X12_wash w g x) (fun b : Int32 × MS => b = x) 0 [some (.ref (wB w + 171)), some (.int p1), some (.int p2), none] [] σ (f_X12_wash n p1 p2 σ)
  have hJ37 : ∀ (σ : MS), VV m_X12_wash w g 0 0 (QM m_X12_wash w g x) (fun b : Int32 × MS => b = x) 37 [none, none, none, none] [] σ (J_X12_wash_37 n  σ) := by
    intro σ
    refine V_iconst (pc := 37) dX12_wash_37 ic_0 ?_
    exact V_ireti (pc := 38) dX12_wash_38 rfl (hk := fun h => h)
  have hJ30 : ∀ (t0 : Int32) (σ : MS), VV m_X12_wash w g 0 0 (QM m_X12_wash w g x) (fun b : Int32 × MS => b = x) 30 [some (.ref (wB w + 171)), some (.int p1), some (.int p2), none] [.int t0, .ref (wB w + 171)] σ (J_X12_wash_30 n p1 p2 t0 σ) := by
    intro t0 σ
    refine V_iconst (pc := 30) dX12_wash_30 ic_2 ?_
    refine V_callVi (pc := 31) (As := [.int t0, .int (2 : Int32)]) (rest := []) (c_X12_throwsIf w t0 (2 : Int32) σ) cw_X12_257 rfl rfl dX12_wash_31 kc_171 ci_12 ⟨Nat.le_of_ble_eq_true rfl, Nat.le_of_ble_eq_true rfl⟩ rfl rfl (Nat.le_of_ble_eq_true rfl) (Nat.le_of_ble_eq_true rfl) (Nat.le_of_ble_eq_true rfl) rfl (fun q31 => ?_)
    refine V_if_eq (pc := 34) (tgt := 39) dX12_wash_34 (by decide +kernel) ?_ ?_
    · refine V_aload_n (pc := 39) dX12_wash_39 rfl rfl ?_
      refine V_callVv (pc := 40) (As := []) (rest := []) (c_X12_remembers w n  q31.2) cw_X12_333 rfl rfl dX12_wash_40 kc_171 ci_12 ⟨Nat.le_of_ble_eq_true rfl, Nat.le_of_ble_eq_true rfl⟩ rfl rfl (Nat.le_of_ble_eq_true rfl) (Nat.le_of_ble_eq_true rfl) (Nat.le_of_ble_eq_true rfl) rfl (fun q40 => ?_)
      refine V_aload_n (pc := 43) dX12_wash_43 rfl rfl ?_
      refine V_iload_n (pc := 44) dX12_wash_44 rfl rfl ?_
      refine V_iload_n (pc := 45) dX12_wash_45 rfl rfl ?_
      refine V_callVpi (pc := 46) (As := [.int p1, .int p2]) (rest := []) (c_X12_bondOf w p1 p2 q40.2) cw_X12_315 rfl rfl dX12_wash_46 kc_171 ci_12 ⟨Nat.le_of_ble_eq_true rfl, Nat.le_of_ble_eq_true rfl⟩ rfl rfl (Nat.le_of_ble_eq_true rfl) (Nat.le_of_ble_eq_true rfl) (Nat.le_of_ble_eq_true rfl) rfl (fun q46 => ?_)
      refine V_istore_n (pc := 49) (vs' := [some (.ref (wB w + 171)), some (.int p1), some (.int p2), some (.int q46)]) dX12_wash_49 rfl (Nat.le_of_ble_eq_true rfl) (Nat.le_of_ble_eq_true rfl) rfl ?_
      refine V_aload_n (pc := 50) dX12_wash_50 rfl rfl ?_
      refine V_iload_n (pc := 51) dX12_wash_51 rfl rfl ?_
      refine V_iload_n (pc := 52) dX12_wash_52 rfl rfl ?_
      refine V_iconst (pc := 53) dX12_wash_53 ic_0 ?_
      refine V_iconst (pc := 54) dX12_wash_54 ic_0 ?_
      refine V_callVv (pc := 55) (As := [.int p1, .int p2, .int (0 : Int32), .int (0 : Int32)]) (rest := []) (c_X12_binds w p1 p2 (0 : Int32) (0 : Int32) q40.2) cw_X12_143 rfl rfl dX12_wash_55 kc_171 ci_12 ⟨Nat.le_of_ble_eq_true rfl, Nat.le_of_ble_eq_true rfl⟩ rfl rfl (Nat.le_of_ble_eq_true rfl) (Nat.le_of_ble_eq_true rfl) (Nat.le_of_ble_eq_true rfl) rfl (fun q55 => ?_)
      refine V_iload_n (pc := 58) dX12_wash_58 rfl rfl ?_
      exact V_ireti (pc := 59) dX12_wash_59 rfl (hk := fun h => h)
    · refine V_sub (vs' := [none, none, none, none]) (show vless _ _ from trivial) rfl ?_
      exact hJ37 q31.2
  refine V_aload_n (pc := 0) dX12_wash_0 rfl rfl ?_
  refine V_iconst (pc := 1) dX12_wash_1 ic_0 ?_
  refine V_puti (pc := 2) fp_X12_3 rfl dX12_wash_2 kc_171 rf_12_0_171 (fun s2 => ?_)
  refine V_aload_n (pc := 5) dX12_wash_5 rfl rfl ?_
  refine V_aload_n (pc := 6) dX12_wash_6 rfl rfl ?_
  refine V_iload_n (pc := 7) dX12_wash_7 rfl rfl ?_
  refine V_iload_n (pc := 8) dX12_wash_8 rfl rfl ?_
  refine V_callVpi (pc := 9) (As := [.int p1, .int p2]) (rest := [.ref (wB w + 171)]) (c_X12_noBoth w p1 p2 s2) cw_X12_300 rfl rfl dX12_wash_9 kc_171 ci_12 ⟨Nat.le_of_ble_eq_true rfl, Nat.le_of_ble_eq_true rfl⟩ rfl rfl (Nat.le_of_ble_eq_true rfl) (Nat.le_of_ble_eq_true rfl) (Nat.le_of_ble_eq_true rfl) rfl (fun q9 => ?_)
  refine V_iconst (pc := 12) dX12_wash_12 ic_1 ?_
  refine V_callVi (pc := 13) (As := [.int q9, .int (1 : Int32)]) (rest := []) (c_X12_throwsIf w q9 (1 : Int32) s2) cw_X12_257 rfl rfl dX12_wash_13 kc_171 ci_12 ⟨Nat.le_of_ble_eq_true rfl, Nat.le_of_ble_eq_true rfl⟩ rfl rfl (Nat.le_of_ble_eq_true rfl) (Nat.le_of_ble_eq_true rfl) (Nat.le_of_ble_eq_true rfl) rfl (fun q13 => ?_)
  refine V_if_ne (pc := 16) (tgt := 37) dX12_wash_16 (by decide +kernel) ?_ ?_
  · refine V_sub (vs' := [none, none, none, none]) (show vless _ _ from trivial) rfl ?_
    exact hJ37 q13.2
  · refine V_aload_n (pc := 19) dX12_wash_19 rfl rfl ?_
    refine V_iload_n (pc := 20) dX12_wash_20 rfl rfl ?_
    refine V_iload_n (pc := 21) dX12_wash_21 rfl rfl ?_
    refine V_icmp_ne (pc := 22) (tgt := 29) dX12_wash_22 (by decide +kernel) ?_ ?_
    · refine V_iconst (pc := 29) dX12_wash_29 ic_0 ?_
      exact hJ30 (0 : Int32) q13.2
    · refine V_iconst (pc := 25) dX12_wash_25 ic_1 ?_
      refine V_goto (pc := 26) (tgt := 30) dX12_wash_26 (by decide +kernel) ?_
      exact hJ30 (1 : Int32) q13.2
