def m_X12_readFlour : MD := (yX12_readFlour, cX12_readFlour, 5, (some .boolean), 3, 62, 0, 0)
def m_X12_readBond : MD := (yX12_readBond, cX12_readBond, 5, (some .boolean), 6, 246, 0, 0)
def m_X12_readNumber : MD := (yX12_readNumber, cX12_readNumber, 5, (some .boolean), 3, 65, 0, 0)
def m_X12_readHouseLine : MD := (yX12_readHouseLine, cX12_readHouseLine, 1, (some .boolean), 7, 270, 0, 0)
def m_X12_emits : MD := (yX12_emits, cX12_emits, 3, none, 0, 0, 0, 0)
def m_X12_readPart : MD := (yX12_readPart, cX12_readPart, 2, (some .boolean), 5, 223, 0, 0)
def m_X12_readSum : MD := (yX12_readSum, cX12_readSum, 1, (some .boolean), 6, 244, 0, 0)
def m_X12_readTag : MD := (yX12_readTag, cX12_readTag, 2, (some .boolean), 5, 223, 0, 0)
def m_X12_factOf : MD := (yX12_factOf, cX12_factOf, 3, (some .int), 3, 65, 0, 0)
def m_X12_holdsLine : MD := (yX12_holdsLine, cX12_holdsLine, 9, (some .boolean), 4, 87, 0, 0)
def m_X12_sumOf : MD := (yX12_sumOf, cX12_sumOf, 4, (some .int), 5, 115, 0, 0)
def m_X12_looks : MD := (yX12_looks, cX12_looks, 5, none, 4, 200, 0, 0)
def m_X12_bindsBy : MD := (yX12_bindsBy, cX12_bindsBy, 1, (some .int), 6, 200, 0, 0)
def m_X12_lastsFor : MD := (yX12_lastsFor, cX12_lastsFor, 1, (some .int), 6, 138, 0, 0)
def m_X12_suspectsBy : MD := (yX12_suspectsBy, cX12_suspectsBy, 1, (some .int), 6, 138, 0, 0)
def m_X12_sipBinds : MD := (yX12_sipBinds, cX12_sipBinds, 2, (some .int), 7, 220, 0, 0)
def m_X12_noBoth : MD := (yX12_noBoth, cX12_noBoth, 3, (some .boolean), 2, 43, 0, 0)
def m_X12_told : MD := (yX12_told, cX12_told, 6, (some .int), 7, 224, 0, 0)
def m_X12_sips : MD := (yX12_sips, cX12_sips, 10, (some .boolean), 8, 241, 0, 0)
def m_X12_shares : MD := (yX12_shares, cX12_shares, 6, (some .int), 9, 270, 0, 0)
def m_X12_noCup : MD := (yX12_noCup, cX12_noCup, 3, (some .boolean), 2, 40, 0, 0)
theorem cs_X12_133 : csp RX12 133 m_X12_noRoom 1 := ⟨goodIn_of _ (by decide +kernel), by decide +kernel, by decide +kernel, by decide +kernel⟩
theorem cw_X12_143 : cwp RX12 143 m_X12_binds 4 := ⟨goodIn_of _ (by decide +kernel), by decide +kernel, by decide +kernel, by decide +kernel⟩
theorem cw_X12_139 : cwp RX12 139 m_X12_after 3 := ⟨goodIn_of _ (by decide +kernel), by decide +kernel, by decide +kernel, by decide +kernel⟩
theorem cw_X12_169 : cwp RX12 169 m_X12_readNumber 3 := ⟨goodIn_of _ (by decide +kernel), by decide +kernel, by decide +kernel, by decide +kernel⟩
theorem cw_X12_176 : cwp RX12 176 m_X12_readBond 0 := ⟨goodIn_of _ (by decide +kernel), by decide +kernel, by decide +kernel, by decide +kernel⟩
theorem cw_X12_165 : cwp RX12 165 m_X12_readFlour 0 := ⟨goodIn_of _ (by decide +kernel), by decide +kernel, by decide +kernel, by decide +kernel⟩
theorem cw_X12_160 : cwp RX12 160 m_X12_readWed 0 := ⟨goodIn_of _ (by decide +kernel), by decide +kernel, by decide +kernel, by decide +kernel⟩
theorem cw_X12_155 : cwp RX12 155 m_X12_readLikes 0 := ⟨goodIn_of _ (by decide +kernel), by decide +kernel, by decide +kernel, by decide +kernel⟩
theorem cw_X12_149 : cwp RX12 149 m_X12_readPerson 0 := ⟨goodIn_of _ (by decide +kernel), by decide +kernel, by decide +kernel, by decide +kernel⟩
theorem fk_X12_181 : fk RX12 181 12 16 := ⟨_, _, _, rfl, in_12, by decide, rfl, by decide, gm (by decide +kernel) (by decide +kernel)⟩
theorem fp_X12_181 : fp RX12 181 12 16 .int := ⟨_, _, _, tyX12, rfl, in_12, by decide, rfl, by decide, gm (by decide +kernel) (by decide +kernel), rfl, by decide +kernel, tyX12_ok, nmX12⟩
theorem cw_X12_184 : cwp RX12 184 m_X12_emits 2 := ⟨goodIn_of _ (by decide +kernel), by decide +kernel, by decide +kernel, by decide +kernel⟩
theorem cw_X12_200 : cwp RX12 200 m_X12_sign 1 := ⟨goodIn_of _ (by decide +kernel), by decide +kernel, by decide +kernel, by decide +kernel⟩
theorem cw_X12_197 : cwp RX12 197 m_X12_readPart 0 := ⟨goodIn_of _ (by decide +kernel), by decide +kernel, by decide +kernel, by decide +kernel⟩
theorem fk_X12_260 : fk RX12 260 12 18 := ⟨_, _, _, rfl, in_12, by decide, rfl, by decide, gm (by decide +kernel) (by decide +kernel)⟩
theorem fk_X12_263 : fk RX12 263 12 19 := ⟨_, _, _, rfl, in_12, by decide, rfl, by decide, gm (by decide +kernel) (by decide +kernel)⟩
theorem fk_X12_266 : fk RX12 266 12 20 := ⟨_, _, _, rfl, in_12, by decide, rfl, by decide, gm (by decide +kernel) (by decide +kernel)⟩
theorem fk_X12_269 : fk RX12 269 12 21 := ⟨_, _, _, rfl, in_12, by decide, rfl, by decide, gm (by decide +kernel) (by decide +kernel)⟩
theorem cw_X12_272 : cwp RX12 272 m_X12_likes 2 := ⟨goodIn_of _ (by decide +kernel), by decide +kernel, by decide +kernel, by decide +kernel⟩
theorem cw_X12_274 : cwp RX12 274 m_X12_areWed 2 := ⟨goodIn_of _ (by decide +kernel), by decide +kernel, by decide +kernel, by decide +kernel⟩
theorem fk_X12_39 : fk RX12 39 12 17 := ⟨_, _, _, rfl, in_12, by decide, rfl, by decide, gm (by decide +kernel) (by decide +kernel)⟩
theorem cw_X12_277 : cwp RX12 277 m_X12_factOf 2 := ⟨goodIn_of _ (by decide +kernel), by decide +kernel, by decide +kernel, by decide +kernel⟩
theorem cw_X12_280 : cwp RX12 280 m_X12_holdsLine 1 := ⟨goodIn_of _ (by decide +kernel), by decide +kernel, by decide +kernel, by decide +kernel⟩
theorem mw_X12_283 : Cond.methodLink RX12 283 Lib.Math.min.name ∈ gtb ∧ Cond.static Lib.Math.min.name ∈ gtb ∧ Cond.initialized "java/lang/Math" ∈ gtb ∧ Cond.code Lib.Math.min.name Lib.Math.min.code 2 (some .int) ∈ gtb := ⟨gm (by decide +kernel) (by decide +kernel), math_min⟩
theorem fp_X12_260 : fp RX12 260 12 18 .int := ⟨_, _, _, tyX12, rfl, in_12, by decide, rfl, by decide, gm (by decide +kernel) (by decide +kernel), rfl, by decide +kernel, tyX12_ok, nmX12⟩
theorem mw_X12_288 : Cond.methodLink RX12 288 Lib.Math.max.name ∈ gtb ∧ Cond.static Lib.Math.max.name ∈ gtb ∧ Cond.initialized "java/lang/Math" ∈ gtb ∧ Cond.code Lib.Math.max.name Lib.Math.max.code 2 (some .int) ∈ gtb := ⟨gm (by decide +kernel) (by decide +kernel), math_max⟩
theorem fp_X12_263 : fp RX12 263 12 19 .int := ⟨_, _, _, tyX12, rfl, in_12, by decide, rfl, by decide, gm (by decide +kernel) (by decide +kernel), rfl, by decide +kernel, tyX12_ok, nmX12⟩
theorem fp_X12_266 : fp RX12 266 12 20 .int := ⟨_, _, _, tyX12, rfl, in_12, by decide, rfl, by decide, gm (by decide +kernel) (by decide +kernel), rfl, by decide +kernel, tyX12_ok, nmX12⟩
theorem fp_X12_269 : fp RX12 269 12 21 .int := ⟨_, _, _, tyX12, rfl, in_12, by decide, rfl, by decide, gm (by decide +kernel) (by decide +kernel), rfl, by decide +kernel, tyX12_ok, nmX12⟩
theorem cw_X12_291 : cwp RX12 291 m_X12_sumOf 1 := ⟨goodIn_of _ (by decide +kernel), by decide +kernel, by decide +kernel, by decide +kernel⟩
theorem cw_X12_294 : cwp RX12 294 m_X12_bindsBy 0 := ⟨goodIn_of _ (by decide +kernel), by decide +kernel, by decide +kernel, by decide +kernel⟩
theorem cw_X12_297 : cwp RX12 297 m_X12_noPerson 1 := ⟨goodIn_of _ (by decide +kernel), by decide +kernel, by decide +kernel, by decide +kernel⟩
theorem cw_X12_303 : cwp RX12 303 m_X12_looks 4 := ⟨goodIn_of _ (by decide +kernel), by decide +kernel, by decide +kernel, by decide +kernel⟩
theorem cw_X12_309 : cwp RX12 309 m_X12_suspectsBy 0 := ⟨goodIn_of _ (by decide +kernel), by decide +kernel, by decide +kernel, by decide +kernel⟩
theorem cw_X12_306 : cwp RX12 306 m_X12_lastsFor 0 := ⟨goodIn_of _ (by decide +kernel), by decide +kernel, by decide +kernel, by decide +kernel⟩
theorem cw_X12_257 : cwp RX12 257 m_X12_throwsIf 2 := ⟨goodIn_of _ (by decide +kernel), by decide +kernel, by decide +kernel, by decide +kernel⟩
theorem cw_X12_300 : cwp RX12 300 m_X12_noBoth 2 := ⟨goodIn_of _ (by decide +kernel), by decide +kernel, by decide +kernel, by decide +kernel⟩
theorem cw_X12_312 : cwp RX12 312 m_X12_sipBinds 0 := ⟨goodIn_of _ (by decide +kernel), by decide +kernel, by decide +kernel, by decide +kernel⟩
theorem cw_X12_315 : cwp RX12 315 m_X12_bondOf 2 := ⟨goodIn_of _ (by decide +kernel), by decide +kernel, by decide +kernel, by decide +kernel⟩
theorem cs_X12_318 : csp RX12 318 m_J6_bitCount_0f7a4 1 := ⟨goodIn_of _ (by decide +kernel), by decide +kernel, by decide +kernel, by decide +kernel⟩
theorem cw_X12_323 : cwp RX12 323 m_X12_sips 4 := ⟨goodIn_of _ (by decide +kernel), by decide +kernel, by decide +kernel, by decide +kernel⟩
theorem cw_X12_327 : cwp RX12 327 m_X12_everybody 0 := ⟨goodIn_of _ (by decide +kernel), by decide +kernel, by decide +kernel, by decide +kernel⟩
def J_X12_readFlour_106 (n : Nat) (v2 : Int32) (σ : MS) : Option (Int32 × MS) := (if v2 = 0 ∨ v2 = 1 then some (v2, σ) else none)
def J_X12_readFlour_95 (n : Nat) (v1 : Int32) (v2 : Int32) (σ : MS) : Option (Int32 × MS) := (if v2 = 0 then J_X12_readFlour_106 n v2 σ else (ltM (mu σ 172 4 v1) (fun s105 => J_X12_readFlour_106 n v2 s105)))
def J_X12_readFlour_87 (n : Nat) (v2 : Int32) (v3 : Int32) (t0 : Int32) (t1 : Int32) (σ : MS) : Option ((Int32 × Int32 × Int32) ⊕ (Int32 × MS)) := some (.inl ((t1 ||| t0), v2, (v3 + (1 : Int32))))
def J_X12_readFlour_73 (n : Nat) (v1 : Int32) (v3 : Int32) (v4 : Int32) (t0 : Int32) (σ : MS) : Option ((Int32 × Int32 × Int32) ⊕ (Int32 × MS)) := (if t0 = 0 then J_X12_readFlour_87 n t0 v3 (0 : Int32) v1 σ else J_X12_readFlour_87 n t0 v3 (shlI (1 : Int32) v4) v1 σ)
def J_X12_readFlour_72 (n : Nat) (v1 : Int32) (v3 : Int32) (v4 : Int32) (σ : MS) : Option ((Int32 × Int32 × Int32) ⊕ (Int32 × MS)) := J_X12_readFlour_73 n v1 v3 v4 (0 : Int32) σ
def L_X12_readFlour_28 (n : Nat)  (σ : MS) (a28 : Int32 × Int32 × Int32) : Option ((Int32 × Int32 × Int32) ⊕ (Int32 × MS)) := (if (σ 171 10) ≤ a28.2.2 then (J_X12_readFlour_95 n a28.1 a28.2.1 σ).map Sum.inr else (if a28.2.1 = 0 then (J_X12_readFlour_95 n a28.1 a28.2.1 σ).map Sum.inr else (if inb a28.2.2 400 then ((f_X12_noRoom ((σ 177 (ix a28.2.2)) - (97 : Int32)) σ).bind (fun q53 => (if q53 = 0 then ((f_X12_has a28.1 ((σ 177 (ix a28.2.2)) - (97 : Int32)) σ).bind (fun q62 => (if q62 = 0 then J_X12_readFlour_73 n a28.1 a28.2.2 ((σ 177 (ix a28.2.2)) - (97 : Int32)) (1 : Int32) σ else J_X12_readFlour_72 n a28.1 a28.2.2 ((σ 177 (ix a28.2.2)) - (97 : Int32)) σ))) else J_X12_readFlour_72 n a28.1 a28.2.2 ((σ 177 (ix a28.2.2)) - (97 : Int32)) σ))) else none)))
def J_X12_readFlour_22 (n : Nat) (v1 : Int32) (t0 : Int32) (σ : MS) : Option (Int32 × MS) := itr (L_X12_readFlour_28 n  σ) n (v1, t0, (σ 171 12))
def f_X12_readFlour (n : Nat)  (σ : MS) : Option (Int32 × MS) := ((f_X12_letters n  σ).bind (fun q1 => (if (q1.2 171 10) ≤ (q1.2 171 12) then J_X12_readFlour_22 n (0 : Int32) (0 : Int32) q1.2 else J_X12_readFlour_22 n (0 : Int32) (1 : Int32) q1.2)))
set_option maxRecDepth 20000 in
set_option maxHeartbeats 2000000 in
theorem c_X12_readFlour (w : TG) (n : Nat)  (σ : MS) : MC m_X12_readFlour w [.ref (wB w + 171)] σ (f_X12_readFlour n  σ) := by
  refine V_meth (by decide +kernel) (Nat.le_of_ble_eq_true rfl) (by intro v hv; simp only [List.mem_cons, List.not_mem_nil, or_false] at hv; subst hv; rfl) (fun g x => ?_)
  show VV m_X12_readFlour w g 0 0 (QM m_X12_readFlour w g x) (fun b : Int32 × MS => b = x) 0 [some (.ref (wB w + 171)), none, none, none, none] [] σ (f_X12_readFlour n  σ)
  have hJ106 : ∀ (v2 : Int32) (σ : MS), VV m_X12_readFlour w g 0 0 (QM m_X12_readFlour w g x) (fun b : Int32 × MS => b = x) 106 [none, none, some (.int v2), none, none] [] σ (J_X12_readFlour_106 n v2 σ) := by
    intro v2 σ
    refine V_iload_n (pc := 106) dX12_readFlour_106 rfl rfl ?_
    exact V_iretZ (pc := 107) dX12_readFlour_107 rfl (hk := fun h => h)
  have hJ95 : ∀ (v1 : Int32) (v2 : Int32) (σ : MS), VV m_X12_readFlour w g 0 0 (QM m_X12_readFlour w g x) (fun b : Int32 × MS => b = x) 95 [some (.ref (wB w + 171)), some (.int v1), some (.int v2), none, none] [] σ (J_X12_readFlour_95 n v1 v2 σ) := by
    intro v1 v2 σ
    refine V_iload_n (pc := 95) dX12_readFlour_95 rfl rfl ?_
    refine V_if_eq (pc := 96) (tgt := 106) dX12_readFlour_96 (by decide) ?_ ?_
    · refine V_sub (vs' := [none, none, some (.int v2), none, none]) (show vless _ _ from ⟨rfl, trivial⟩) rfl ?_
      exact hJ106 v2 σ
    · refine V_aload_n (pc := 99) dX12_readFlour_99 rfl rfl ?_
      refine V_getr (pc := 100) (t := 172) fk_X12_13 rfl dX12_readFlour_100 kc_171 rfl ?_
      refine V_iconst (pc := 103) (v := (4 : Int32)) dX12_readFlour_103 rfl ?_
      refine V_iload_n (pc := 104) dX12_readFlour_104 rfl rfl ?_
      refine V_iastC (pc := 105) (n := 2172) dX12_readFlour_105 kc_172 lc_172 (by decide) (fun s105 => ?_)
      refine V_sub (vs' := [none, none, some (.int v2), none, none]) (show vless _ _ from ⟨rfl, trivial⟩) rfl ?_
      exact hJ106 v2 s105
  have hL28 : ∀ (σ : MS) (n0 : Nat) (a : Int32 × Int32 × Int32), VV m_X12_readFlour w g 0 0 (QM m_X12_readFlour w g x) (fun b : Int32 × MS => b = x) 28 [some (.ref (wB w + 171)), some (.int a.1), some (.int a.2.1), some (.int a.2.2), none] [] σ (itr (L_X12_readFlour_28 n  σ) n0 a) := by
    intro σ
    refine V_itr (vf := fun a : Int32 × Int32 × Int32 => [some (.ref (wB w + 171)), some (.int a.1), some (.int a.2.1), some (.int a.2.2), none]) (sf := fun a : Int32 × Int32 × Int32 => σ) (fun κ28 b28 r28 a28 => ?_)
    show VV m_X12_readFlour w g 0 0 (QM m_X12_readFlour w g x) κ28 28 [some (.ref (wB w + 171)), some (.int a28.1), some (.int a28.2.1), some (.int a28.2.2), none] [] σ (L_X12_readFlour_28 n  σ a28)
    have hJ87 : ∀ (v2 : Int32) (v3 : Int32) (t0 : Int32) (t1 : Int32) (σ : MS), VV m_X12_readFlour w g 0 0 (QM m_X12_readFlour w g x) κ28 87 [some (.ref (wB w + 171)), none, some (.int v2), some (.int v3), none] [.int t0, .int t1] σ (J_X12_readFlour_87 n v2 v3 t0 t1 σ) := by
      intro v2 v3 t0 t1 σ
      refine V_ior (pc := 87) dX12_readFlour_87 ?_
      refine V_istore_n (pc := 88) (vs' := [some (.ref (wB w + 171)), some (.int (t1 ||| t0)), some (.int v2), some (.int v3), none]) dX12_readFlour_88 rfl (Nat.le_of_ble_eq_true rfl) (Nat.le_of_ble_eq_true rfl) rfl ?_
      refine V_iinc (pc := 89) (v := (v3 + (1 : Int32))) (vs' := [some (.ref (wB w + 171)), some (.int (t1 ||| t0)), some (.int v2), some (.int (v3 + (1 : Int32))), none]) dX12_readFlour_89 (Nat.le_of_ble_eq_true rfl) rfl rfl rfl ?_
      refine V_goto (pc := 92) (tgt := 28) dX12_readFlour_92 (by decide) ?_
      exact V_back (b28 ((t1 ||| t0), v2, (v3 + (1 : Int32))))
    have hJ73 : ∀ (v1 : Int32) (v3 : Int32) (v4 : Int32) (t0 : Int32) (σ : MS), VV m_X12_readFlour w g 0 0 (QM m_X12_readFlour w g x) κ28 73 [some (.ref (wB w + 171)), some (.int v1), none, some (.int v3), some (.int v4)] [.int t0] σ (J_X12_readFlour_73 n v1 v3 v4 t0 σ) := by
      intro v1 v3 v4 t0 σ
      refine V_istore_n (pc := 73) (vs' := [some (.ref (wB w + 171)), some (.int v1), some (.int t0), some (.int v3), some (.int v4)]) dX12_readFlour_73 rfl (Nat.le_of_ble_eq_true rfl) (Nat.le_of_ble_eq_true rfl) rfl ?_
      refine V_iload_n (pc := 74) dX12_readFlour_74 rfl rfl ?_
      refine V_iload_n (pc := 75) dX12_readFlour_75 rfl rfl ?_
      refine V_if_eq (pc := 76) (tgt := 86) dX12_readFlour_76 (by decide) ?_ ?_
      · refine V_iconst (pc := 86) (v := (0 : Int32)) dX12_readFlour_86 rfl ?_
        refine V_sub (vs' := [some (.ref (wB w + 171)), none, some (.int t0), some (.int v3), none]) (show vless _ _ from ⟨rfl, ⟨rfl, ⟨rfl, trivial⟩⟩⟩) rfl ?_
        exact hJ87 t0 v3 (0 : Int32) v1 σ
      · refine V_iconst (pc := 79) (v := (1 : Int32)) dX12_readFlour_79 rfl ?_
        refine V_iload (pc := 80) dX12_readFlour_80 rfl ?_
        refine V_ishl (pc := 82) dX12_readFlour_82 ?_
        refine V_goto (pc := 83) (tgt := 87) dX12_readFlour_83 (by decide) ?_
        refine V_sub (vs' := [some (.ref (wB w + 171)), none, some (.int t0), some (.int v3), none]) (show vless _ _ from ⟨rfl, ⟨rfl, ⟨rfl, trivial⟩⟩⟩) rfl ?_
        exact hJ87 t0 v3 (shlI (1 : Int32) v4) v1 σ
    have hJ72 : ∀ (v1 : Int32) (v3 : Int32) (v4 : Int32) (σ : MS), VV m_X12_readFlour w g 0 0 (QM m_X12_readFlour w g x) κ28 72 [some (.ref (wB w + 171)), some (.int v1), none, some (.int v3), some (.int v4)] [] σ (J_X12_readFlour_72 n v1 v3 v4 σ) := by
      intro v1 v3 v4 σ
      refine V_iconst (pc := 72) (v := (0 : Int32)) dX12_readFlour_72 rfl ?_
      exact hJ73 v1 v3 v4 (0 : Int32) σ
    refine V_iload_n (pc := 28) dX12_readFlour_28 rfl rfl ?_
    refine V_aload_n (pc := 29) dX12_readFlour_29 rfl rfl ?_
    refine V_geti (pc := 30) fk_X12_87 rfl dX12_readFlour_30 kc_171 rfl ?_
    refine V_icmp_ge (pc := 33) (tgt := 95) dX12_readFlour_33 (by decide) ?_ ?_
    · refine V_exit r28 ?_
      refine V_sub (vs' := [some (.ref (wB w + 171)), some (.int a28.1), some (.int a28.2.1), none, none]) (show vless _ _ from ⟨rfl, ⟨rfl, ⟨rfl, trivial⟩⟩⟩) rfl ?_
      exact hJ95 a28.1 a28.2.1 σ
    · refine V_iload_n (pc := 36) dX12_readFlour_36 rfl rfl ?_
      refine V_if_eq (pc := 37) (tgt := 95) dX12_readFlour_37 (by decide) ?_ ?_
      · refine V_exit r28 ?_
        refine V_sub (vs' := [some (.ref (wB w + 171)), some (.int a28.1), some (.int a28.2.1), none, none]) (show vless _ _ from ⟨rfl, ⟨rfl, ⟨rfl, trivial⟩⟩⟩) rfl ?_
        exact hJ95 a28.1 a28.2.1 σ
      · refine V_aload_n (pc := 40) dX12_readFlour_40 rfl rfl ?_
        refine V_getr (pc := 41) (t := 177) fk_X12_29 rfl dX12_readFlour_41 kc_171 rfl ?_
        refine V_iload_n (pc := 44) dX12_readFlour_44 rfl rfl ?_
        refine V_bald (pc := 45) (n := 400) dX12_readFlour_45 kc_177 lc_177 ?_
        refine V_bipush (pc := 46) (v := (97 : Int32)) dX12_readFlour_46 rfl ?_
        refine V_isub (pc := 48) dX12_readFlour_48 ?_
        refine V_istore (pc := 49) (vs' := [some (.ref (wB w + 171)), some (.int a28.1), some (.int a28.2.1), some (.int a28.2.2), some (.int ((σ 177 (ix a28.2.2)) - (97 : Int32)))]) dX12_readFlour_49 (Nat.le_of_ble_eq_true rfl) (Nat.le_of_ble_eq_true rfl) rfl ?_
        refine V_iload (pc := 51) dX12_readFlour_51 rfl ?_
        refine V_callSpi (pc := 53) (As := [.int ((σ 177 (ix a28.2.2)) - (97 : Int32))]) (rest := []) (c_X12_noRoom w ((σ 177 (ix a28.2.2)) - (97 : Int32)) σ) cs_X12_133 rfl rfl dX12_readFlour_53 ⟨Nat.le_of_ble_eq_true rfl, Nat.le_of_ble_eq_true rfl⟩ rfl rfl (Nat.le_of_ble_eq_true rfl) (Nat.le_of_ble_eq_true rfl) (Nat.le_of_ble_eq_true rfl) rfl (fun q53 => ?_)
        refine V_if_ne (pc := 56) (tgt := 72) dX12_readFlour_56 (by decide) ?_ ?_
        · refine V_sub (vs' := [some (.ref (wB w + 171)), some (.int a28.1), none, some (.int a28.2.2), some (.int ((σ 177 (ix a28.2.2)) - (97 : Int32)))]) (show vless _ _ from ⟨rfl, ⟨rfl, ⟨rfl, ⟨rfl, trivial⟩⟩⟩⟩) rfl ?_
          exact hJ72 a28.1 a28.2.2 ((σ 177 (ix a28.2.2)) - (97 : Int32)) σ
        · refine V_iload_n (pc := 59) dX12_readFlour_59 rfl rfl ?_
          refine V_iload (pc := 60) dX12_readFlour_60 rfl ?_
          refine V_callSpi (pc := 62) (As := [.int a28.1, .int ((σ 177 (ix a28.2.2)) - (97 : Int32))]) (rest := []) (c_X12_has w a28.1 ((σ 177 (ix a28.2.2)) - (97 : Int32)) σ) cs_X12_76 rfl rfl dX12_readFlour_62 ⟨Nat.le_of_ble_eq_true rfl, Nat.le_of_ble_eq_true rfl⟩ rfl rfl (Nat.le_of_ble_eq_true rfl) (Nat.le_of_ble_eq_true rfl) (Nat.le_of_ble_eq_true rfl) rfl (fun q62 => ?_)
          refine V_if_ne (pc := 65) (tgt := 72) dX12_readFlour_65 (by decide) ?_ ?_
          · refine V_sub (vs' := [some (.ref (wB w + 171)), some (.int a28.1), none, some (.int a28.2.2), some (.int ((σ 177 (ix a28.2.2)) - (97 : Int32)))]) (show vless _ _ from ⟨rfl, ⟨rfl, ⟨rfl, ⟨rfl, trivial⟩⟩⟩⟩) rfl ?_
            exact hJ72 a28.1 a28.2.2 ((σ 177 (ix a28.2.2)) - (97 : Int32)) σ
          · refine V_iconst (pc := 68) (v := (1 : Int32)) dX12_readFlour_68 rfl ?_
            refine V_goto (pc := 69) (tgt := 73) dX12_readFlour_69 (by decide) ?_
            refine V_sub (vs' := [some (.ref (wB w + 171)), some (.int a28.1), none, some (.int a28.2.2), some (.int ((σ 177 (ix a28.2.2)) - (97 : Int32)))]) (show vless _ _ from ⟨rfl, ⟨rfl, ⟨rfl, ⟨rfl, trivial⟩⟩⟩⟩) rfl ?_
            exact hJ73 a28.1 a28.2.2 ((σ 177 (ix a28.2.2)) - (97 : Int32)) (1 : Int32) σ
  have hJ22 : ∀ (v1 : Int32) (t0 : Int32) (σ : MS), VV m_X12_readFlour w g 0 0 (QM m_X12_readFlour w g x) (fun b : Int32 × MS => b = x) 22 [some (.ref (wB w + 171)), some (.int v1), none, none, none] [.int t0] σ (J_X12_readFlour_22 n v1 t0 σ) := by
    intro v1 t0 σ
    refine V_istore_n (pc := 22) (vs' := [some (.ref (wB w + 171)), some (.int v1), some (.int t0), none, none]) dX12_readFlour_22 rfl (Nat.le_of_ble_eq_true rfl) (Nat.le_of_ble_eq_true rfl) rfl ?_
    refine V_aload_n (pc := 23) dX12_readFlour_23 rfl rfl ?_
    refine V_geti (pc := 24) fk_X12_96 rfl dX12_readFlour_24 kc_171 rfl ?_
    refine V_istore_n (pc := 27) (vs' := [some (.ref (wB w + 171)), some (.int v1), some (.int t0), some (.int (σ 171 12)), none]) dX12_readFlour_27 rfl (Nat.le_of_ble_eq_true rfl) (Nat.le_of_ble_eq_true rfl) rfl ?_
    exact hL28 σ n (v1, t0, (σ 171 12))
  refine V_aload_n (pc := 0) dX12_readFlour_0 rfl rfl ?_
  refine V_callVv (pc := 1) (As := []) (rest := []) (c_X12_letters w n  σ) cw_X12_111 rfl rfl dX12_readFlour_1 kc_171 rfl ⟨Nat.le_of_ble_eq_true rfl, Nat.le_of_ble_eq_true rfl⟩ rfl rfl (Nat.le_of_ble_eq_true rfl) (Nat.le_of_ble_eq_true rfl) (Nat.le_of_ble_eq_true rfl) rfl (fun q1 => ?_)
  refine V_iconst (pc := 4) (v := (0 : Int32)) dX12_readFlour_4 rfl ?_
  refine V_istore_n (pc := 5) (vs' := [some (.ref (wB w + 171)), some (.int (0 : Int32)), none, none, none]) dX12_readFlour_5 rfl (Nat.le_of_ble_eq_true rfl) (Nat.le_of_ble_eq_true rfl) rfl ?_
  refine V_aload_n (pc := 6) dX12_readFlour_6 rfl rfl ?_
  refine V_geti (pc := 7) fk_X12_87 rfl dX12_readFlour_7 kc_171 rfl ?_
  refine V_aload_n (pc := 10) dX12_readFlour_10 rfl rfl ?_
  refine V_geti (pc := 11) fk_X12_96 rfl dX12_readFlour_11 kc_171 rfl ?_
  refine V_icmp_le (pc := 14) (tgt := 21) dX12_readFlour_14 (by decide) ?_ ?_
  · refine V_iconst (pc := 21) (v := (0 : Int32)) dX12_readFlour_21 rfl ?_
    exact hJ22 (0 : Int32) (0 : Int32) q1.2
  · refine V_iconst (pc := 17) (v := (1 : Int32)) dX12_readFlour_17 rfl ?_
    refine V_goto (pc := 18) (tgt := 22) dX12_readFlour_18 (by decide) ?_
    exact hJ22 (0 : Int32) (1 : Int32) q1.2
def J_X12_readBond_45 (n : Nat) (v1 : Int32) (v2 : Int32) (v3 : Int32) (t0 : Int32) (σ : MS) : Option (Int32 × MS) := (if 0 ≤ t0 then ((f_X12_binds v1 v2 v3 t0 σ).bind (fun q60 => some ((1 : Int32), q60.2))) else some ((0 : Int32), σ))
def J_X12_readBond_26 (n : Nat) (v1 : Int32) (v2 : Int32) (t0 : Int32) (σ : MS) : Option (Int32 × MS) := (if 0 ≤ t0 then ((f_X12_after n 1 (1 : Int32) (999 : Int32) σ).bind (fun q42 => J_X12_readBond_45 n v1 v2 t0 q42.1 q42.2)) else J_X12_readBond_45 n v1 v2 t0 (-1 : Int32) σ)
def f_X12_readBond (n : Nat)  (σ : MS) : Option (Int32 × MS) := ((f_X12_personTold n  σ).bind (fun q1 => ((f_X12_otherTold n q1.1 q1.2).bind (fun q7 => (if 0 ≤ q7.1 then ((f_X12_number n (1 : Int32) (9 : Int32) q7.2).bind (fun q23 => J_X12_readBond_26 n q1.1 q7.1 q23.1 q23.2)) else J_X12_readBond_26 n q1.1 q7.1 (-1 : Int32) q7.2)))))
set_option maxRecDepth 20000 in
set_option maxHeartbeats 2000000 in
theorem c_X12_readBond (w : TG) (n : Nat)  (σ : MS) : MC m_X12_readBond w [.ref (wB w + 171)] σ (f_X12_readBond n  σ) := by
  refine V_meth (by decide +kernel) (Nat.le_of_ble_eq_true rfl) (by intro v hv; simp only [List.mem_cons, List.not_mem_nil, or_false] at hv; subst hv; rfl) (fun g x => ?_)
  show VV m_X12_readBond w g 0 0 (QM m_X12_readBond w g x) (fun b : Int32 × MS => b = x) 0 [some (.ref (wB w + 171)), none, none, none, none] [] σ (f_X12_readBond n  σ)
  have hJ45 : ∀ (v1 : Int32) (v2 : Int32) (v3 : Int32) (t0 : Int32) (σ : MS), VV m_X12_readBond w g 0 0 (QM m_X12_readBond w g x) (fun b : Int32 × MS => b = x) 45 [some (.ref (wB w + 171)), some (.int v1), some (.int v2), some (.int v3), none] [.int t0] σ (J_X12_readBond_45 n v1 v2 v3 t0 σ) := by
    intro v1 v2 v3 t0 σ
    refine V_istore (pc := 45) (vs' := [some (.ref (wB w + 171)), some (.int v1), some (.int v2), some (.int v3), some (.int t0)]) dX12_readBond_45 (Nat.le_of_ble_eq_true rfl) (Nat.le_of_ble_eq_true rfl) rfl ?_
    refine V_iload (pc := 47) dX12_readBond_47 rfl ?_
    refine V_if_ge (pc := 49) (tgt := 54) dX12_readBond_49 (by decide) ?_ ?_
    · refine V_aload_n (pc := 54) dX12_readBond_54 rfl rfl ?_
      refine V_iload_n (pc := 55) dX12_readBond_55 rfl rfl ?_
      refine V_iload_n (pc := 56) dX12_readBond_56 rfl rfl ?_
      refine V_iload_n (pc := 57) dX12_readBond_57 rfl rfl ?_
      refine V_iload (pc := 58) dX12_readBond_58 rfl ?_
      refine V_callVv (pc := 60) (As := [.int v1, .int v2, .int v3, .int t0]) (rest := []) (c_X12_binds w v1 v2 v3 t0 σ) cw_X12_143 rfl rfl dX12_readBond_60 kc_171 rfl ⟨Nat.le_of_ble_eq_true rfl, Nat.le_of_ble_eq_true rfl⟩ rfl rfl (Nat.le_of_ble_eq_true rfl) (Nat.le_of_ble_eq_true rfl) (Nat.le_of_ble_eq_true rfl) rfl (fun q60 => ?_)
      refine V_iconst (pc := 63) (v := (1 : Int32)) dX12_readBond_63 rfl ?_
      exact V_iretz (pc := 64) dX12_readBond_64 rfl rfl (hk := fun h => h)
    · refine V_iconst (pc := 52) (v := (0 : Int32)) dX12_readBond_52 rfl ?_
      exact V_iretz (pc := 53) dX12_readBond_53 rfl rfl (hk := fun h => h)
  have hJ26 : ∀ (v1 : Int32) (v2 : Int32) (t0 : Int32) (σ : MS), VV m_X12_readBond w g 0 0 (QM m_X12_readBond w g x) (fun b : Int32 × MS => b = x) 26 [some (.ref (wB w + 171)), some (.int v1), some (.int v2), none, none] [.int t0] σ (J_X12_readBond_26 n v1 v2 t0 σ) := by
    intro v1 v2 t0 σ
    refine V_istore_n (pc := 26) (vs' := [some (.ref (wB w + 171)), some (.int v1), some (.int v2), some (.int t0), none]) dX12_readBond_26 rfl (Nat.le_of_ble_eq_true rfl) (Nat.le_of_ble_eq_true rfl) rfl ?_
    refine V_iload_n (pc := 27) dX12_readBond_27 rfl rfl ?_
    refine V_if_ge (pc := 28) (tgt := 35) dX12_readBond_28 (by decide) ?_ ?_
    · refine V_aload_n (pc := 35) dX12_readBond_35 rfl rfl ?_
      refine V_ldcS (pc := 36) (i := 1) (tx := "till") dX12_readBond_36 rfl (by decide +kernel) ?_
      refine V_iconst (pc := 38) (v := (1 : Int32)) dX12_readBond_38 rfl ?_
      refine V_sipush (pc := 39) (v := (999 : Int32)) dX12_readBond_39 rfl ?_
      refine V_callVi (pc := 42) (As := [.ref (wS w 1), .int (1 : Int32), .int (999 : Int32)]) (rest := []) (c_X12_after w n 1 (1 : Int32) (999 : Int32) (by decide) σ) cw_X12_139 rfl rfl dX12_readBond_42 kc_171 rfl ⟨Nat.le_of_ble_eq_true rfl, Nat.le_of_ble_eq_true rfl⟩ rfl rfl (Nat.le_of_ble_eq_true rfl) (Nat.le_of_ble_eq_true rfl) (Nat.le_of_ble_eq_true rfl) rfl (fun q42 => ?_)
      exact hJ45 v1 v2 t0 q42.1 q42.2
    · refine V_iconst (pc := 31) (v := (-1 : Int32)) dX12_readBond_31 rfl ?_
      refine V_goto (pc := 32) (tgt := 45) dX12_readBond_32 (by decide) ?_
      exact hJ45 v1 v2 t0 (-1 : Int32) σ
  refine V_aload_n (pc := 0) dX12_readBond_0 rfl rfl ?_
  refine V_callVi (pc := 1) (As := []) (rest := []) (c_X12_personTold w n  σ) cw_X12_121 rfl rfl dX12_readBond_1 kc_171 rfl ⟨Nat.le_of_ble_eq_true rfl, Nat.le_of_ble_eq_true rfl⟩ rfl rfl (Nat.le_of_ble_eq_true rfl) (Nat.le_of_ble_eq_true rfl) (Nat.le_of_ble_eq_true rfl) rfl (fun q1 => ?_)
  refine V_istore_n (pc := 4) (vs' := [some (.ref (wB w + 171)), some (.int q1.1), none, none, none]) dX12_readBond_4 rfl (Nat.le_of_ble_eq_true rfl) (Nat.le_of_ble_eq_true rfl) rfl ?_
  refine V_aload_n (pc := 5) dX12_readBond_5 rfl rfl ?_
  refine V_iload_n (pc := 6) dX12_readBond_6 rfl rfl ?_
  refine V_callVi (pc := 7) (As := [.int q1.1]) (rest := []) (c_X12_otherTold w n q1.1 q1.2) cw_X12_125 rfl rfl dX12_readBond_7 kc_171 rfl ⟨Nat.le_of_ble_eq_true rfl, Nat.le_of_ble_eq_true rfl⟩ rfl rfl (Nat.le_of_ble_eq_true rfl) (Nat.le_of_ble_eq_true rfl) (Nat.le_of_ble_eq_true rfl) rfl (fun q7 => ?_)
  refine V_istore_n (pc := 10) (vs' := [some (.ref (wB w + 171)), some (.int q1.1), some (.int q7.1), none, none]) dX12_readBond_10 rfl (Nat.le_of_ble_eq_true rfl) (Nat.le_of_ble_eq_true rfl) rfl ?_
  refine V_iload_n (pc := 11) dX12_readBond_11 rfl rfl ?_
  refine V_if_ge (pc := 12) (tgt := 19) dX12_readBond_12 (by decide) ?_ ?_
  · refine V_aload_n (pc := 19) dX12_readBond_19 rfl rfl ?_
    refine V_iconst (pc := 20) (v := (1 : Int32)) dX12_readBond_20 rfl ?_
    refine V_bipush (pc := 21) (v := (9 : Int32)) dX12_readBond_21 rfl ?_
    refine V_callVi (pc := 23) (As := [.int (1 : Int32), .int (9 : Int32)]) (rest := []) (c_X12_number w n (1 : Int32) (9 : Int32) q7.2) cw_X12_118 rfl rfl dX12_readBond_23 kc_171 rfl ⟨Nat.le_of_ble_eq_true rfl, Nat.le_of_ble_eq_true rfl⟩ rfl rfl (Nat.le_of_ble_eq_true rfl) (Nat.le_of_ble_eq_true rfl) (Nat.le_of_ble_eq_true rfl) rfl (fun q23 => ?_)
    exact hJ26 q1.1 q7.1 q23.1 q23.2
  · refine V_iconst (pc := 15) (v := (-1 : Int32)) dX12_readBond_15 rfl ?_
    refine V_goto (pc := 16) (tgt := 26) dX12_readBond_16 (by decide) ?_
    exact hJ26 q1.1 q7.1 (-1 : Int32) q7.2
def J_X12_readNumber_40 (n : Nat) (t0 : Int32) (σ : MS) : Option (Int32 × MS) := (if t0 = 0 ∨ t0 = 1 then some (t0, σ) else none)
def J_X12_readNumber_29 (n : Nat) (v4 : Int32) (t0 : Int32) (t1 : Int32) (σ : MS) : Option (Int32 × MS) := (if inb t1 2172 then ltM (mu σ 172 (ix t1) t0) (fun s29 => (if v4 < 0 then J_X12_readNumber_40 n (0 : Int32) s29 else J_X12_readNumber_40 n (1 : Int32) s29)) else none)
def f_X12_readNumber (n : Nat) (p1 : Int32) (p2 : Int32) (p3 : Int32) (σ : MS) : Option (Int32 × MS) := ((f_X12_number n p2 p3 σ).bind (fun q3 => (if 0 ≤ q3.1 then J_X12_readNumber_29 n q3.1 q3.1 p1 q3.2 else (if inb p1 2172 then J_X12_readNumber_29 n q3.1 (q3.2 172 (ix p1)) p1 q3.2 else none))))
set_option maxRecDepth 20000 in
set_option maxHeartbeats 2000000 in
theorem c_X12_readNumber (w : TG) (n : Nat) (p1 : Int32) (p2 : Int32) (p3 : Int32) (σ : MS) : MC m_X12_readNumber w [.ref (wB w + 171), .int p1, .int p2, .int p3] σ (f_X12_readNumber n p1 p2 p3 σ) := by
  refine V_meth (by decide +kernel) (Nat.le_of_ble_eq_true rfl) (by intro v hv; simp only [List.mem_cons, List.not_mem_nil, or_false] at hv; rcases hv with rfl | rfl | rfl | rfl <;> rfl) (fun g x => ?_)
  show VV m_X12_readNumber w g 0 0 (QM m_X12_readNumber w g x) (fun b : Int32 × MS => b = x) 0 [some (.ref (wB w + 171)), some (.int p1), some (.int p2), some (.int p3), none] [] σ (f_X12_readNumber n p1 p2 p3 σ)
  have hJ40 : ∀ (t0 : Int32) (σ : MS), VV m_X12_readNumber w g 0 0 (QM m_X12_readNumber w g x) (fun b : Int32 × MS => b = x) 40 [none, none, none, none, none] [.int t0] σ (J_X12_readNumber_40 n t0 σ) := by
    intro t0 σ
    exact V_iretZ (pc := 40) dX12_readNumber_40 rfl (hk := fun h => h)
  have hJ29 : ∀ (v4 : Int32) (t0 : Int32) (t1 : Int32) (σ : MS), VV m_X12_readNumber w g 0 0 (QM m_X12_readNumber w g x) (fun b : Int32 × MS => b = x) 29 [none, none, none, none, some (.int v4)] [.int t0, .int t1, .ref (wB w + 172)] σ (J_X12_readNumber_29 n v4 t0 t1 σ) := by
    intro v4 t0 t1 σ
    refine V_iast (pc := 29) (n := 2172) dX12_readNumber_29 kc_172 lc_172 (fun s29 => ?_)
    refine V_iload (pc := 30) dX12_readNumber_30 rfl ?_
    refine V_if_lt (pc := 32) (tgt := 39) dX12_readNumber_32 (by decide) ?_ ?_
    · refine V_iconst (pc := 39) (v := (0 : Int32)) dX12_readNumber_39 rfl ?_
      refine V_sub (vs' := [none, none, none, none, none]) (show vless _ _ from trivial) rfl ?_
      exact hJ40 (0 : Int32) s29
    · refine V_iconst (pc := 35) (v := (1 : Int32)) dX12_readNumber_35 rfl ?_
      refine V_goto (pc := 36) (tgt := 40) dX12_readNumber_36 (by decide) ?_
      refine V_sub (vs' := [none, none, none, none, none]) (show vless _ _ from trivial) rfl ?_
      exact hJ40 (1 : Int32) s29
  refine V_aload_n (pc := 0) dX12_readNumber_0 rfl rfl ?_
  refine V_iload_n (pc := 1) dX12_readNumber_1 rfl rfl ?_
  refine V_iload_n (pc := 2) dX12_readNumber_2 rfl rfl ?_
  refine V_callVi (pc := 3) (As := [.int p2, .int p3]) (rest := []) (c_X12_number w n p2 p3 σ) cw_X12_118 rfl rfl dX12_readNumber_3 kc_171 rfl ⟨Nat.le_of_ble_eq_true rfl, Nat.le_of_ble_eq_true rfl⟩ rfl rfl (Nat.le_of_ble_eq_true rfl) (Nat.le_of_ble_eq_true rfl) (Nat.le_of_ble_eq_true rfl) rfl (fun q3 => ?_)
  refine V_istore (pc := 6) (vs' := [some (.ref (wB w + 171)), some (.int p1), some (.int p2), some (.int p3), some (.int q3.1)]) dX12_readNumber_6 (Nat.le_of_ble_eq_true rfl) (Nat.le_of_ble_eq_true rfl) rfl ?_
  refine V_aload_n (pc := 8) dX12_readNumber_8 rfl rfl ?_
  refine V_getr (pc := 9) (t := 172) fk_X12_13 rfl dX12_readNumber_9 kc_171 rfl ?_
  refine V_iload_n (pc := 12) dX12_readNumber_12 rfl rfl ?_
  refine V_iload (pc := 13) dX12_readNumber_13 rfl ?_
  refine V_if_ge (pc := 15) (tgt := 27) dX12_readNumber_15 (by decide) ?_ ?_
  · refine V_iload (pc := 27) dX12_readNumber_27 rfl ?_
    refine V_sub (vs' := [none, none, none, none, some (.int q3.1)]) (show vless _ _ from ⟨rfl, trivial⟩) rfl ?_
    exact hJ29 q3.1 q3.1 p1 q3.2
  · refine V_aload_n (pc := 18) dX12_readNumber_18 rfl rfl ?_
    refine V_getr (pc := 19) (t := 172) fk_X12_13 rfl dX12_readNumber_19 kc_171 rfl ?_
    refine V_iload_n (pc := 22) dX12_readNumber_22 rfl rfl ?_
    refine V_iald (pc := 23) (n := 2172) dX12_readNumber_23 kc_172 lc_172 ?_
    refine V_goto (pc := 24) (tgt := 29) dX12_readNumber_24 (by decide) ?_
    refine V_sub (vs' := [none, none, none, none, some (.int q3.1)]) (show vless _ _ from ⟨rfl, trivial⟩) rfl ?_
    exact hJ29 q3.1 (q3.2 172 (ix p1)) p1 q3.2
def J_X12_readHouseLine_134 (n : Nat) (t0 : Int32) (σ : MS) : Option (Int32 × MS) := (if t0 = 0 ∨ t0 = 1 then some (t0, σ) else none)
def J_X12_readHouseLine_133 (n : Nat)  (σ : MS) : Option (Int32 × MS) := J_X12_readHouseLine_134 n (0 : Int32) σ
def f_X12_readHouseLine (n : Nat)  (σ : MS) : Option (Int32 × MS) := ((f_X12_isWord n 2 σ).bind (fun q3 => (if q3 = 0 then ((f_X12_isWord n 3 σ).bind (fun q17 => (if q17 = 0 then ((f_X12_isWord n 4 σ).bind (fun q31 => (if q31 = 0 then ((f_X12_isWord n 5 σ).bind (fun q45 => (if q45 = 0 then ((f_X12_isWord n 6 σ).bind (fun q59 => (if q59 = 0 then ((f_X12_isWord n 7 σ).bind (fun q77 => (if q77 = 0 then ((f_X12_isWord n 8 σ).bind (fun q97 => (if q97 = 0 then ((f_X12_isWord n 9 σ).bind (fun q111 => (if q111 = 0 then J_X12_readHouseLine_133 n  σ else ((f_X12_readNumber n (3 : Int32) (0 : Int32) (999 : Int32) σ).bind (fun q123 => (if q123.1 = 0 then J_X12_readHouseLine_133 n  q123.2 else J_X12_readHouseLine_134 n (1 : Int32) q123.2)))))) else ((f_X12_readBond n  σ).bind (fun q104 => (if q104.1 = 0 ∨ q104.1 = 1 then some (q104.1, q104.2) else none)))))) else ((f_X12_readNumber n (6 : Int32) (1 : Int32) (400 : Int32) σ).bind (fun q90 => (if q90.1 = 0 ∨ q90.1 = 1 then some (q90.1, q90.2) else none)))))) else ((f_X12_readNumber n (5 : Int32) (1 : Int32) (9 : Int32) σ).bind (fun q70 => (if q70.1 = 0 ∨ q70.1 = 1 then some (q70.1, q70.2) else none)))))) else ((f_X12_readFlour n  σ).bind (fun q52 => (if q52.1 = 0 ∨ q52.1 = 1 then some (q52.1, q52.2) else none)))))) else ((f_X12_readWed n  σ).bind (fun q38 => (if q38.1 = 0 ∨ q38.1 = 1 then some (q38.1, q38.2) else none)))))) else ((f_X12_readLikes n  σ).bind (fun q24 => (if q24.1 = 0 ∨ q24.1 = 1 then some (q24.1, q24.2) else none)))))) else ((f_X12_readPerson n  σ).bind (fun q10 => (if q10.1 = 0 ∨ q10.1 = 1 then some (q10.1, q10.2) else none))))))
set_option maxRecDepth 20000 in
set_option maxHeartbeats 2000000 in
theorem c_X12_readHouseLine (w : TG) (n : Nat)  (σ : MS) : MC m_X12_readHouseLine w [.ref (wB w + 171)] σ (f_X12_readHouseLine n  σ) := by
  refine V_meth (by decide +kernel) (Nat.le_of_ble_eq_true rfl) (by intro v hv; simp only [List.mem_cons, List.not_mem_nil, or_false] at hv; subst hv; rfl) (fun g x => ?_)
  show VV m_X12_readHouseLine w g 0 0 (QM m_X12_readHouseLine w g x) (fun b : Int32 × MS => b = x) 0 [some (.ref (wB w + 171))] [] σ (f_X12_readHouseLine n  σ)
  have hJ134 : ∀ (t0 : Int32) (σ : MS), VV m_X12_readHouseLine w g 0 0 (QM m_X12_readHouseLine w g x) (fun b : Int32 × MS => b = x) 134 [none] [.int t0] σ (J_X12_readHouseLine_134 n t0 σ) := by
    intro t0 σ
    exact V_iretZ (pc := 134) dX12_readHouseLine_134 rfl (hk := fun h => h)
  have hJ133 : ∀ (σ : MS), VV m_X12_readHouseLine w g 0 0 (QM m_X12_readHouseLine w g x) (fun b : Int32 × MS => b = x) 133 [none] [] σ (J_X12_readHouseLine_133 n  σ) := by
    intro σ
    refine V_iconst (pc := 133) (v := (0 : Int32)) dX12_readHouseLine_133 rfl ?_
    exact hJ134 (0 : Int32) σ
  refine V_aload_n (pc := 0) dX12_readHouseLine_0 rfl rfl ?_
  refine V_ldcS (pc := 1) (i := 2) (tx := "person") dX12_readHouseLine_1 rfl (by decide +kernel) ?_
  refine V_callVpi (pc := 3) (As := [.ref (wS w 2)]) (rest := []) (c_X12_isWord w n 2 (by decide) σ) cw_X12_114 rfl rfl dX12_readHouseLine_3 kc_171 rfl ⟨Nat.le_of_ble_eq_true rfl, Nat.le_of_ble_eq_true rfl⟩ rfl rfl (Nat.le_of_ble_eq_true rfl) (Nat.le_of_ble_eq_true rfl) (Nat.le_of_ble_eq_true rfl) rfl (fun q3 => ?_)
  refine V_if_eq (pc := 6) (tgt := 14) dX12_readHouseLine_6 (by decide) ?_ ?_
  · refine V_aload_n (pc := 14) dX12_readHouseLine_14 rfl rfl ?_
    refine V_ldcS (pc := 15) (i := 3) (tx := "likes") dX12_readHouseLine_15 rfl (by decide +kernel) ?_
    refine V_callVpi (pc := 17) (As := [.ref (wS w 3)]) (rest := []) (c_X12_isWord w n 3 (by decide) σ) cw_X12_114 rfl rfl dX12_readHouseLine_17 kc_171 rfl ⟨Nat.le_of_ble_eq_true rfl, Nat.le_of_ble_eq_true rfl⟩ rfl rfl (Nat.le_of_ble_eq_true rfl) (Nat.le_of_ble_eq_true rfl) (Nat.le_of_ble_eq_true rfl) rfl (fun q17 => ?_)
    refine V_if_eq (pc := 20) (tgt := 28) dX12_readHouseLine_20 (by decide) ?_ ?_
    · refine V_aload_n (pc := 28) dX12_readHouseLine_28 rfl rfl ?_
      refine V_ldcS (pc := 29) (i := 4) (tx := "wed") dX12_readHouseLine_29 rfl (by decide +kernel) ?_
      refine V_callVpi (pc := 31) (As := [.ref (wS w 4)]) (rest := []) (c_X12_isWord w n 4 (by decide) σ) cw_X12_114 rfl rfl dX12_readHouseLine_31 kc_171 rfl ⟨Nat.le_of_ble_eq_true rfl, Nat.le_of_ble_eq_true rfl⟩ rfl rfl (Nat.le_of_ble_eq_true rfl) (Nat.le_of_ble_eq_true rfl) (Nat.le_of_ble_eq_true rfl) rfl (fun q31 => ?_)
      refine V_if_eq (pc := 34) (tgt := 42) dX12_readHouseLine_34 (by decide) ?_ ?_
      · refine V_aload_n (pc := 42) dX12_readHouseLine_42 rfl rfl ?_
        refine V_ldcS (pc := 43) (i := 5) (tx := "flour") dX12_readHouseLine_43 rfl (by decide +kernel) ?_
        refine V_callVpi (pc := 45) (As := [.ref (wS w 5)]) (rest := []) (c_X12_isWord w n 5 (by decide) σ) cw_X12_114 rfl rfl dX12_readHouseLine_45 kc_171 rfl ⟨Nat.le_of_ble_eq_true rfl, Nat.le_of_ble_eq_true rfl⟩ rfl rfl (Nat.le_of_ble_eq_true rfl) (Nat.le_of_ble_eq_true rfl) (Nat.le_of_ble_eq_true rfl) rfl (fun q45 => ?_)
        refine V_if_eq (pc := 48) (tgt := 56) dX12_readHouseLine_48 (by decide) ?_ ?_
        · refine V_aload_n (pc := 56) dX12_readHouseLine_56 rfl rfl ?_
          refine V_ldcS (pc := 57) (i := 6) (tx := "binds") dX12_readHouseLine_57 rfl (by decide +kernel) ?_
          refine V_callVpi (pc := 59) (As := [.ref (wS w 6)]) (rest := []) (c_X12_isWord w n 6 (by decide) σ) cw_X12_114 rfl rfl dX12_readHouseLine_59 kc_171 rfl ⟨Nat.le_of_ble_eq_true rfl, Nat.le_of_ble_eq_true rfl⟩ rfl rfl (Nat.le_of_ble_eq_true rfl) (Nat.le_of_ble_eq_true rfl) (Nat.le_of_ble_eq_true rfl) rfl (fun q59 => ?_)
          refine V_if_eq (pc := 62) (tgt := 74) dX12_readHouseLine_62 (by decide) ?_ ?_
          · refine V_aload_n (pc := 74) dX12_readHouseLine_74 rfl rfl ?_
            refine V_ldcS (pc := 75) (i := 7) (tx := "lasts") dX12_readHouseLine_75 rfl (by decide +kernel) ?_
            refine V_callVpi (pc := 77) (As := [.ref (wS w 7)]) (rest := []) (c_X12_isWord w n 7 (by decide) σ) cw_X12_114 rfl rfl dX12_readHouseLine_77 kc_171 rfl ⟨Nat.le_of_ble_eq_true rfl, Nat.le_of_ble_eq_true rfl⟩ rfl rfl (Nat.le_of_ble_eq_true rfl) (Nat.le_of_ble_eq_true rfl) (Nat.le_of_ble_eq_true rfl) rfl (fun q77 => ?_)
            refine V_if_eq (pc := 80) (tgt := 94) dX12_readHouseLine_80 (by decide) ?_ ?_
            · refine V_aload_n (pc := 94) dX12_readHouseLine_94 rfl rfl ?_
              refine V_ldcS (pc := 95) (i := 8) (tx := "bond") dX12_readHouseLine_95 rfl (by decide +kernel) ?_
              refine V_callVpi (pc := 97) (As := [.ref (wS w 8)]) (rest := []) (c_X12_isWord w n 8 (by decide) σ) cw_X12_114 rfl rfl dX12_readHouseLine_97 kc_171 rfl ⟨Nat.le_of_ble_eq_true rfl, Nat.le_of_ble_eq_true rfl⟩ rfl rfl (Nat.le_of_ble_eq_true rfl) (Nat.le_of_ble_eq_true rfl) (Nat.le_of_ble_eq_true rfl) rfl (fun q97 => ?_)
              refine V_if_eq (pc := 100) (tgt := 108) dX12_readHouseLine_100 (by decide) ?_ ?_
              · refine V_aload_n (pc := 108) dX12_readHouseLine_108 rfl rfl ?_
                refine V_ldcS (pc := 109) (i := 9) (tx := "day") dX12_readHouseLine_109 rfl (by decide +kernel) ?_
                refine V_callVpi (pc := 111) (As := [.ref (wS w 9)]) (rest := []) (c_X12_isWord w n 9 (by decide) σ) cw_X12_114 rfl rfl dX12_readHouseLine_111 kc_171 rfl ⟨Nat.le_of_ble_eq_true rfl, Nat.le_of_ble_eq_true rfl⟩ rfl rfl (Nat.le_of_ble_eq_true rfl) (Nat.le_of_ble_eq_true rfl) (Nat.le_of_ble_eq_true rfl) rfl (fun q111 => ?_)
                refine V_if_eq (pc := 114) (tgt := 133) dX12_readHouseLine_114 (by decide) ?_ ?_
                · refine V_sub (vs' := [none]) (show vless _ _ from trivial) rfl ?_
                  exact hJ133 σ
                · refine V_aload_n (pc := 117) dX12_readHouseLine_117 rfl rfl ?_
                  refine V_iconst (pc := 118) (v := (3 : Int32)) dX12_readHouseLine_118 rfl ?_
                  refine V_iconst (pc := 119) (v := (0 : Int32)) dX12_readHouseLine_119 rfl ?_
                  refine V_sipush (pc := 120) (v := (999 : Int32)) dX12_readHouseLine_120 rfl ?_
                  refine V_callVi (pc := 123) (As := [.int (3 : Int32), .int (0 : Int32), .int (999 : Int32)]) (rest := []) (c_X12_readNumber w n (3 : Int32) (0 : Int32) (999 : Int32) σ) cw_X12_169 rfl rfl dX12_readHouseLine_123 kc_171 rfl ⟨Nat.le_of_ble_eq_true rfl, Nat.le_of_ble_eq_true rfl⟩ rfl rfl (Nat.le_of_ble_eq_true rfl) (Nat.le_of_ble_eq_true rfl) (Nat.le_of_ble_eq_true rfl) rfl (fun q123 => ?_)
                  refine V_if_eq (pc := 126) (tgt := 133) dX12_readHouseLine_126 (by decide) ?_ ?_
                  · refine V_sub (vs' := [none]) (show vless _ _ from trivial) rfl ?_
                    exact hJ133 q123.2
                  · refine V_iconst (pc := 129) (v := (1 : Int32)) dX12_readHouseLine_129 rfl ?_
                    refine V_goto (pc := 130) (tgt := 134) dX12_readHouseLine_130 (by decide) ?_
                    refine V_sub (vs' := [none]) (show vless _ _ from trivial) rfl ?_
                    exact hJ134 (1 : Int32) q123.2
              · refine V_aload_n (pc := 103) dX12_readHouseLine_103 rfl rfl ?_
                refine V_callVi (pc := 104) (As := []) (rest := []) (c_X12_readBond w n  σ) cw_X12_176 rfl rfl dX12_readHouseLine_104 kc_171 rfl ⟨Nat.le_of_ble_eq_true rfl, Nat.le_of_ble_eq_true rfl⟩ rfl rfl (Nat.le_of_ble_eq_true rfl) (Nat.le_of_ble_eq_true rfl) (Nat.le_of_ble_eq_true rfl) rfl (fun q104 => ?_)
                exact V_iretZ (pc := 107) dX12_readHouseLine_107 rfl (hk := fun h => h)
            · refine V_aload_n (pc := 83) dX12_readHouseLine_83 rfl rfl ?_
              refine V_bipush (pc := 84) (v := (6 : Int32)) dX12_readHouseLine_84 rfl ?_
              refine V_iconst (pc := 86) (v := (1 : Int32)) dX12_readHouseLine_86 rfl ?_
              refine V_sipush (pc := 87) (v := (400 : Int32)) dX12_readHouseLine_87 rfl ?_
              refine V_callVi (pc := 90) (As := [.int (6 : Int32), .int (1 : Int32), .int (400 : Int32)]) (rest := []) (c_X12_readNumber w n (6 : Int32) (1 : Int32) (400 : Int32) σ) cw_X12_169 rfl rfl dX12_readHouseLine_90 kc_171 rfl ⟨Nat.le_of_ble_eq_true rfl, Nat.le_of_ble_eq_true rfl⟩ rfl rfl (Nat.le_of_ble_eq_true rfl) (Nat.le_of_ble_eq_true rfl) (Nat.le_of_ble_eq_true rfl) rfl (fun q90 => ?_)
              exact V_iretZ (pc := 93) dX12_readHouseLine_93 rfl (hk := fun h => h)
          · refine V_aload_n (pc := 65) dX12_readHouseLine_65 rfl rfl ?_
            refine V_iconst (pc := 66) (v := (5 : Int32)) dX12_readHouseLine_66 rfl ?_
            refine V_iconst (pc := 67) (v := (1 : Int32)) dX12_readHouseLine_67 rfl ?_
            refine V_bipush (pc := 68) (v := (9 : Int32)) dX12_readHouseLine_68 rfl ?_
            refine V_callVi (pc := 70) (As := [.int (5 : Int32), .int (1 : Int32), .int (9 : Int32)]) (rest := []) (c_X12_readNumber w n (5 : Int32) (1 : Int32) (9 : Int32) σ) cw_X12_169 rfl rfl dX12_readHouseLine_70 kc_171 rfl ⟨Nat.le_of_ble_eq_true rfl, Nat.le_of_ble_eq_true rfl⟩ rfl rfl (Nat.le_of_ble_eq_true rfl) (Nat.le_of_ble_eq_true rfl) (Nat.le_of_ble_eq_true rfl) rfl (fun q70 => ?_)
            exact V_iretZ (pc := 73) dX12_readHouseLine_73 rfl (hk := fun h => h)
        · refine V_aload_n (pc := 51) dX12_readHouseLine_51 rfl rfl ?_
          refine V_callVi (pc := 52) (As := []) (rest := []) (c_X12_readFlour w n  σ) cw_X12_165 rfl rfl dX12_readHouseLine_52 kc_171 rfl ⟨Nat.le_of_ble_eq_true rfl, Nat.le_of_ble_eq_true rfl⟩ rfl rfl (Nat.le_of_ble_eq_true rfl) (Nat.le_of_ble_eq_true rfl) (Nat.le_of_ble_eq_true rfl) rfl (fun q52 => ?_)
          exact V_iretZ (pc := 55) dX12_readHouseLine_55 rfl (hk := fun h => h)
      · refine V_aload_n (pc := 37) dX12_readHouseLine_37 rfl rfl ?_
        refine V_callVi (pc := 38) (As := []) (rest := []) (c_X12_readWed w n  σ) cw_X12_160 rfl rfl dX12_readHouseLine_38 kc_171 rfl ⟨Nat.le_of_ble_eq_true rfl, Nat.le_of_ble_eq_true rfl⟩ rfl rfl (Nat.le_of_ble_eq_true rfl) (Nat.le_of_ble_eq_true rfl) (Nat.le_of_ble_eq_true rfl) rfl (fun q38 => ?_)
        exact V_iretZ (pc := 41) dX12_readHouseLine_41 rfl (hk := fun h => h)
    · refine V_aload_n (pc := 23) dX12_readHouseLine_23 rfl rfl ?_
      refine V_callVi (pc := 24) (As := []) (rest := []) (c_X12_readLikes w n  σ) cw_X12_155 rfl rfl dX12_readHouseLine_24 kc_171 rfl ⟨Nat.le_of_ble_eq_true rfl, Nat.le_of_ble_eq_true rfl⟩ rfl rfl (Nat.le_of_ble_eq_true rfl) (Nat.le_of_ble_eq_true rfl) (Nat.le_of_ble_eq_true rfl) rfl (fun q24 => ?_)
      exact V_iretZ (pc := 27) dX12_readHouseLine_27 rfl (hk := fun h => h)
  · refine V_aload_n (pc := 9) dX12_readHouseLine_9 rfl rfl ?_
    refine V_callVi (pc := 10) (As := []) (rest := []) (c_X12_readPerson w n  σ) cw_X12_149 rfl rfl dX12_readHouseLine_10 kc_171 rfl ⟨Nat.le_of_ble_eq_true rfl, Nat.le_of_ble_eq_true rfl⟩ rfl rfl (Nat.le_of_ble_eq_true rfl) (Nat.le_of_ble_eq_true rfl) (Nat.le_of_ble_eq_true rfl) rfl (fun q10 => ?_)
    exact V_iretZ (pc := 13) dX12_readHouseLine_13 rfl (hk := fun h => h)
def f_X12_emits (p1 : Int32) (p2 : Int32) (σ : MS) : Option (Int32 × MS) := (if inb ((1372 : Int32) + ((2 : Int32) * (σ 171 16))) 2172 then ltM (mu σ 172 (ix ((1372 : Int32) + ((2 : Int32) * (σ 171 16)))) p1) (fun s15 => (if inb (((1372 : Int32) + ((2 : Int32) * (s15 171 16))) + (1 : Int32)) 2172 then ltM (mu s15 172 (ix (((1372 : Int32) + ((2 : Int32) * (s15 171 16))) + (1 : Int32))) p2) (fun s33 => (ltM (mu s33 171 16 ((s33 171 16) + (1 : Int32))) (fun s41 => some (0, s41)))) else none)) else none)
set_option maxRecDepth 20000 in
set_option maxHeartbeats 2000000 in
theorem c_X12_emits (w : TG) (p1 : Int32) (p2 : Int32) (σ : MS) : MC m_X12_emits w [.ref (wB w + 171), .int p1, .int p2] σ (f_X12_emits p1 p2 σ) := by
  refine V_meth (by decide +kernel) (Nat.le_of_ble_eq_true rfl) (by intro v hv; simp only [List.mem_cons, List.not_mem_nil, or_false] at hv; rcases hv with rfl | rfl | rfl <;> rfl) (fun g x => ?_)
  show VV m_X12_emits w g 0 0 (QM m_X12_emits w g x) (fun b : Int32 × MS => b = x) 0 [some (.ref (wB w + 171)), some (.int p1), some (.int p2)] [] σ (f_X12_emits p1 p2 σ)
  refine V_aload_n (pc := 0) dX12_emits_0 rfl rfl ?_
  refine V_getr (pc := 1) (t := 172) fk_X12_13 rfl dX12_emits_1 kc_171 rfl ?_
  refine V_sipush (pc := 4) (v := (1372 : Int32)) dX12_emits_4 rfl ?_
  refine V_iconst (pc := 7) (v := (2 : Int32)) dX12_emits_7 rfl ?_
  refine V_aload_n (pc := 8) dX12_emits_8 rfl rfl ?_
  refine V_geti (pc := 9) fk_X12_181 rfl dX12_emits_9 kc_171 rfl ?_
  refine V_imul (pc := 12) dX12_emits_12 ?_
  refine V_iadd (pc := 13) dX12_emits_13 ?_
  refine V_iload_n (pc := 14) dX12_emits_14 rfl rfl ?_
  refine V_iast (pc := 15) (n := 2172) dX12_emits_15 kc_172 lc_172 (fun s15 => ?_)
  refine V_aload_n (pc := 16) dX12_emits_16 rfl rfl ?_
  refine V_getr (pc := 17) (t := 172) fk_X12_13 rfl dX12_emits_17 kc_171 rfl ?_
  refine V_sipush (pc := 20) (v := (1372 : Int32)) dX12_emits_20 rfl ?_
  refine V_iconst (pc := 23) (v := (2 : Int32)) dX12_emits_23 rfl ?_
  refine V_aload_n (pc := 24) dX12_emits_24 rfl rfl ?_
  refine V_geti (pc := 25) fk_X12_181 rfl dX12_emits_25 kc_171 rfl ?_
  refine V_imul (pc := 28) dX12_emits_28 ?_
  refine V_iadd (pc := 29) dX12_emits_29 ?_
  refine V_iconst (pc := 30) (v := (1 : Int32)) dX12_emits_30 rfl ?_
  refine V_iadd (pc := 31) dX12_emits_31 ?_
  refine V_iload_n (pc := 32) dX12_emits_32 rfl rfl ?_
  refine V_iast (pc := 33) (n := 2172) dX12_emits_33 kc_172 lc_172 (fun s33 => ?_)
  refine V_aload_n (pc := 34) dX12_emits_34 rfl rfl ?_
  refine V_dup (pc := 35) dX12_emits_35 rfl ?_
  refine V_geti (pc := 36) fk_X12_181 rfl dX12_emits_36 kc_171 rfl ?_
  refine V_iconst (pc := 39) (v := (1 : Int32)) dX12_emits_39 rfl ?_
  refine V_iadd (pc := 40) dX12_emits_40 ?_
  refine V_puti (pc := 41) fp_X12_181 rfl dX12_emits_41 kc_171 rfl (fun s41 => ?_)
  exact V_ret (pc := 44) dX12_emits_44 rfl (hk := fun h => h)
def J_X12_readPart_129 (n : Nat) (t0 : Int32) (σ : MS) : Option (Int32 × MS) := (if t0 = 0 ∨ t0 = 1 then some (t0, σ) else none)
def J_X12_readPart_120 (n : Nat) (v1 : Int32) (σ : MS) : Option (Int32 × MS) := (if v1 < 0 then J_X12_readPart_129 n (0 : Int32) σ else J_X12_readPart_129 n (1 : Int32) σ)
def J_X12_readPart_113 (n : Nat) (t0 : Int32) (σ : MS) : Option (Int32 × MS) := ((f_X12_emits t0 (0 : Int32) σ).bind (fun q117 => J_X12_readPart_120 n t0 q117.2))
def f_X12_readPart (n : Nat)  (σ : MS) : Option (Int32 × MS) := ((f_X12_letters n  σ).bind (fun q1 => (if (q1.2 171 10) = (q1.2 171 12) then ((f_X12_number n (0 : Int32) (999 : Int32) q1.2).bind (fun q20 => ((f_X12_emits (8 : Int32) q20.1 q20.2).bind (fun q28 => J_X12_readPart_120 n q20.1 q28.2)))) else ((f_X12_isWord n 10 q1.2).bind (fun q37 => (if q37 = 0 then ((f_X12_isWord n 11 q1.2).bind (fun q50 => (if q50 = 0 then ((f_X12_isWord n 12 q1.2).bind (fun q63 => (if q63 = 0 then ((f_X12_isWord n 13 q1.2).bind (fun q76 => (if q76 = 0 then ((f_X12_isWord n 14 q1.2).bind (fun q89 => (if q89 = 0 then ((f_X12_isWord n 9 q1.2).bind (fun q102 => (if q102 = 0 then J_X12_readPart_113 n (-1 : Int32) q1.2 else J_X12_readPart_113 n (5 : Int32) q1.2))) else J_X12_readPart_113 n (4 : Int32) q1.2))) else J_X12_readPart_113 n (3 : Int32) q1.2))) else J_X12_readPart_113 n (2 : Int32) q1.2))) else J_X12_readPart_113 n (1 : Int32) q1.2))) else J_X12_readPart_113 n (0 : Int32) q1.2))))))
set_option maxRecDepth 20000 in
set_option maxHeartbeats 2000000 in
theorem c_X12_readPart (w : TG) (n : Nat)  (σ : MS) : MC m_X12_readPart w [.ref (wB w + 171)] σ (f_X12_readPart n  σ) := by
  refine V_meth (by decide +kernel) (Nat.le_of_ble_eq_true rfl) (by intro v hv; simp only [List.mem_cons, List.not_mem_nil, or_false] at hv; subst hv; rfl) (fun g x => ?_)
  show VV m_X12_readPart w g 0 0 (QM m_X12_readPart w g x) (fun b : Int32 × MS => b = x) 0 [some (.ref (wB w + 171)), none] [] σ (f_X12_readPart n  σ)
  have hJ129 : ∀ (t0 : Int32) (σ : MS), VV m_X12_readPart w g 0 0 (QM m_X12_readPart w g x) (fun b : Int32 × MS => b = x) 129 [none, none] [.int t0] σ (J_X12_readPart_129 n t0 σ) := by
    intro t0 σ
    exact V_iretZ (pc := 129) dX12_readPart_129 rfl (hk := fun h => h)
  have hJ120 : ∀ (v1 : Int32) (σ : MS), VV m_X12_readPart w g 0 0 (QM m_X12_readPart w g x) (fun b : Int32 × MS => b = x) 120 [none, some (.int v1)] [] σ (J_X12_readPart_120 n v1 σ) := by
    intro v1 σ
    refine V_iload_n (pc := 120) dX12_readPart_120 rfl rfl ?_
    refine V_if_lt (pc := 121) (tgt := 128) dX12_readPart_121 (by decide) ?_ ?_
    · refine V_iconst (pc := 128) (v := (0 : Int32)) dX12_readPart_128 rfl ?_
      refine V_sub (vs' := [none, none]) (show vless _ _ from trivial) rfl ?_
      exact hJ129 (0 : Int32) σ
    · refine V_iconst (pc := 124) (v := (1 : Int32)) dX12_readPart_124 rfl ?_
      refine V_goto (pc := 125) (tgt := 129) dX12_readPart_125 (by decide) ?_
      refine V_sub (vs' := [none, none]) (show vless _ _ from trivial) rfl ?_
      exact hJ129 (1 : Int32) σ
  have hJ113 : ∀ (t0 : Int32) (σ : MS), VV m_X12_readPart w g 0 0 (QM m_X12_readPart w g x) (fun b : Int32 × MS => b = x) 113 [some (.ref (wB w + 171)), none] [.int t0] σ (J_X12_readPart_113 n t0 σ) := by
    intro t0 σ
    refine V_istore_n (pc := 113) (vs' := [some (.ref (wB w + 171)), some (.int t0)]) dX12_readPart_113 rfl (Nat.le_of_ble_eq_true rfl) (Nat.le_of_ble_eq_true rfl) rfl ?_
    refine V_aload_n (pc := 114) dX12_readPart_114 rfl rfl ?_
    refine V_iload_n (pc := 115) dX12_readPart_115 rfl rfl ?_
    refine V_iconst (pc := 116) (v := (0 : Int32)) dX12_readPart_116 rfl ?_
    refine V_callVv (pc := 117) (As := [.int t0, .int (0 : Int32)]) (rest := []) (c_X12_emits w t0 (0 : Int32) σ) cw_X12_184 rfl rfl dX12_readPart_117 kc_171 rfl ⟨Nat.le_of_ble_eq_true rfl, Nat.le_of_ble_eq_true rfl⟩ rfl rfl (Nat.le_of_ble_eq_true rfl) (Nat.le_of_ble_eq_true rfl) (Nat.le_of_ble_eq_true rfl) rfl (fun q117 => ?_)
    refine V_sub (vs' := [none, some (.int t0)]) (show vless _ _ from ⟨rfl, trivial⟩) rfl ?_
    exact hJ120 t0 q117.2
  refine V_aload_n (pc := 0) dX12_readPart_0 rfl rfl ?_
  refine V_callVv (pc := 1) (As := []) (rest := []) (c_X12_letters w n  σ) cw_X12_111 rfl rfl dX12_readPart_1 kc_171 rfl ⟨Nat.le_of_ble_eq_true rfl, Nat.le_of_ble_eq_true rfl⟩ rfl rfl (Nat.le_of_ble_eq_true rfl) (Nat.le_of_ble_eq_true rfl) (Nat.le_of_ble_eq_true rfl) rfl (fun q1 => ?_)
  refine V_aload_n (pc := 4) dX12_readPart_4 rfl rfl ?_
  refine V_geti (pc := 5) fk_X12_87 rfl dX12_readPart_5 kc_171 rfl ?_
  refine V_aload_n (pc := 8) dX12_readPart_8 rfl rfl ?_
  refine V_geti (pc := 9) fk_X12_96 rfl dX12_readPart_9 kc_171 rfl ?_
  refine V_icmp_ne (pc := 12) (tgt := 34) dX12_readPart_12 (by decide) ?_ ?_
  · refine V_aload_n (pc := 34) dX12_readPart_34 rfl rfl ?_
    refine V_ldcS (pc := 35) (i := 10) (tx := "one") dX12_readPart_35 rfl (by decide +kernel) ?_
    refine V_callVpi (pc := 37) (As := [.ref (wS w 10)]) (rest := []) (c_X12_isWord w n 10 (by decide) q1.2) cw_X12_114 rfl rfl dX12_readPart_37 kc_171 rfl ⟨Nat.le_of_ble_eq_true rfl, Nat.le_of_ble_eq_true rfl⟩ rfl rfl (Nat.le_of_ble_eq_true rfl) (Nat.le_of_ble_eq_true rfl) (Nat.le_of_ble_eq_true rfl) rfl (fun q37 => ?_)
    refine V_if_eq (pc := 40) (tgt := 47) dX12_readPart_40 (by decide) ?_ ?_
    · refine V_aload_n (pc := 47) dX12_readPart_47 rfl rfl ?_
      refine V_ldcS (pc := 48) (i := 11) (tx := "other") dX12_readPart_48 rfl (by decide +kernel) ?_
      refine V_callVpi (pc := 50) (As := [.ref (wS w 11)]) (rest := []) (c_X12_isWord w n 11 (by decide) q1.2) cw_X12_114 rfl rfl dX12_readPart_50 kc_171 rfl ⟨Nat.le_of_ble_eq_true rfl, Nat.le_of_ble_eq_true rfl⟩ rfl rfl (Nat.le_of_ble_eq_true rfl) (Nat.le_of_ble_eq_true rfl) (Nat.le_of_ble_eq_true rfl) rfl (fun q50 => ?_)
      refine V_if_eq (pc := 53) (tgt := 60) dX12_readPart_53 (by decide) ?_ ?_
      · refine V_aload_n (pc := 60) dX12_readPart_60 rfl rfl ?_
        refine V_ldcS (pc := 61) (i := 12) (tx := "sip") dX12_readPart_61 rfl (by decide +kernel) ?_
        refine V_callVpi (pc := 63) (As := [.ref (wS w 12)]) (rest := []) (c_X12_isWord w n 12 (by decide) q1.2) cw_X12_114 rfl rfl dX12_readPart_63 kc_171 rfl ⟨Nat.le_of_ble_eq_true rfl, Nat.le_of_ble_eq_true rfl⟩ rfl rfl (Nat.le_of_ble_eq_true rfl) (Nat.le_of_ble_eq_true rfl) (Nat.le_of_ble_eq_true rfl) rfl (fun q63 => ?_)
        refine V_if_eq (pc := 66) (tgt := 73) dX12_readPart_66 (by decide) ?_ ?_
        · refine V_aload_n (pc := 73) dX12_readPart_73 rfl rfl ?_
          refine V_ldcS (pc := 74) (i := 13) (tx := "many") dX12_readPart_74 rfl (by decide +kernel) ?_
          refine V_callVpi (pc := 76) (As := [.ref (wS w 13)]) (rest := []) (c_X12_isWord w n 13 (by decide) q1.2) cw_X12_114 rfl rfl dX12_readPart_76 kc_171 rfl ⟨Nat.le_of_ble_eq_true rfl, Nat.le_of_ble_eq_true rfl⟩ rfl rfl (Nat.le_of_ble_eq_true rfl) (Nat.le_of_ble_eq_true rfl) (Nat.le_of_ble_eq_true rfl) rfl (fun q76 => ?_)
          refine V_if_eq (pc := 79) (tgt := 86) dX12_readPart_79 (by decide) ?_ ?_
          · refine V_aload_n (pc := 86) dX12_readPart_86 rfl rfl ?_
            refine V_ldcS (pc := 87) (i := 14) (tx := "liking") dX12_readPart_87 rfl (by decide +kernel) ?_
            refine V_callVpi (pc := 89) (As := [.ref (wS w 14)]) (rest := []) (c_X12_isWord w n 14 (by decide) q1.2) cw_X12_114 rfl rfl dX12_readPart_89 kc_171 rfl ⟨Nat.le_of_ble_eq_true rfl, Nat.le_of_ble_eq_true rfl⟩ rfl rfl (Nat.le_of_ble_eq_true rfl) (Nat.le_of_ble_eq_true rfl) (Nat.le_of_ble_eq_true rfl) rfl (fun q89 => ?_)
            refine V_if_eq (pc := 92) (tgt := 99) dX12_readPart_92 (by decide) ?_ ?_
            · refine V_aload_n (pc := 99) dX12_readPart_99 rfl rfl ?_
              refine V_ldcS (pc := 100) (i := 9) (tx := "day") dX12_readPart_100 rfl (by decide +kernel) ?_
              refine V_callVpi (pc := 102) (As := [.ref (wS w 9)]) (rest := []) (c_X12_isWord w n 9 (by decide) q1.2) cw_X12_114 rfl rfl dX12_readPart_102 kc_171 rfl ⟨Nat.le_of_ble_eq_true rfl, Nat.le_of_ble_eq_true rfl⟩ rfl rfl (Nat.le_of_ble_eq_true rfl) (Nat.le_of_ble_eq_true rfl) (Nat.le_of_ble_eq_true rfl) rfl (fun q102 => ?_)
              refine V_if_eq (pc := 105) (tgt := 112) dX12_readPart_105 (by decide) ?_ ?_
              · refine V_iconst (pc := 112) (v := (-1 : Int32)) dX12_readPart_112 rfl ?_
                exact hJ113 (-1 : Int32) q1.2
              · refine V_iconst (pc := 108) (v := (5 : Int32)) dX12_readPart_108 rfl ?_
                refine V_goto (pc := 109) (tgt := 113) dX12_readPart_109 (by decide) ?_
                exact hJ113 (5 : Int32) q1.2
            · refine V_iconst (pc := 95) (v := (4 : Int32)) dX12_readPart_95 rfl ?_
              refine V_goto (pc := 96) (tgt := 113) dX12_readPart_96 (by decide) ?_
              exact hJ113 (4 : Int32) q1.2
          · refine V_iconst (pc := 82) (v := (3 : Int32)) dX12_readPart_82 rfl ?_
            refine V_goto (pc := 83) (tgt := 113) dX12_readPart_83 (by decide) ?_
            exact hJ113 (3 : Int32) q1.2
        · refine V_iconst (pc := 69) (v := (2 : Int32)) dX12_readPart_69 rfl ?_
          refine V_goto (pc := 70) (tgt := 113) dX12_readPart_70 (by decide) ?_
          exact hJ113 (2 : Int32) q1.2
      · refine V_iconst (pc := 56) (v := (1 : Int32)) dX12_readPart_56 rfl ?_
        refine V_goto (pc := 57) (tgt := 113) dX12_readPart_57 (by decide) ?_
        exact hJ113 (1 : Int32) q1.2
    · refine V_iconst (pc := 43) (v := (0 : Int32)) dX12_readPart_43 rfl ?_
      refine V_goto (pc := 44) (tgt := 113) dX12_readPart_44 (by decide) ?_
      exact hJ113 (0 : Int32) q1.2
  · refine V_aload_n (pc := 15) dX12_readPart_15 rfl rfl ?_
    refine V_iconst (pc := 16) (v := (0 : Int32)) dX12_readPart_16 rfl ?_
    refine V_sipush (pc := 17) (v := (999 : Int32)) dX12_readPart_17 rfl ?_
    refine V_callVi (pc := 20) (As := [.int (0 : Int32), .int (999 : Int32)]) (rest := []) (c_X12_number w n (0 : Int32) (999 : Int32) q1.2) cw_X12_118 rfl rfl dX12_readPart_20 kc_171 rfl ⟨Nat.le_of_ble_eq_true rfl, Nat.le_of_ble_eq_true rfl⟩ rfl rfl (Nat.le_of_ble_eq_true rfl) (Nat.le_of_ble_eq_true rfl) (Nat.le_of_ble_eq_true rfl) rfl (fun q20 => ?_)
    refine V_istore_n (pc := 23) (vs' := [some (.ref (wB w + 171)), some (.int q20.1)]) dX12_readPart_23 rfl (Nat.le_of_ble_eq_true rfl) (Nat.le_of_ble_eq_true rfl) rfl ?_
    refine V_aload_n (pc := 24) dX12_readPart_24 rfl rfl ?_
    refine V_bipush (pc := 25) (v := (8 : Int32)) dX12_readPart_25 rfl ?_
    refine V_iload_n (pc := 27) dX12_readPart_27 rfl rfl ?_
    refine V_callVv (pc := 28) (As := [.int (8 : Int32), .int q20.1]) (rest := []) (c_X12_emits w (8 : Int32) q20.1 q20.2) cw_X12_184 rfl rfl dX12_readPart_28 kc_171 rfl ⟨Nat.le_of_ble_eq_true rfl, Nat.le_of_ble_eq_true rfl⟩ rfl rfl (Nat.le_of_ble_eq_true rfl) (Nat.le_of_ble_eq_true rfl) (Nat.le_of_ble_eq_true rfl) rfl (fun q28 => ?_)
    refine V_goto (pc := 31) (tgt := 120) dX12_readPart_31 (by decide) ?_
    refine V_sub (vs' := [none, some (.int q20.1)]) (show vless _ _ from ⟨rfl, trivial⟩) rfl ?_
    exact hJ120 q20.1 q28.2
def L_X12_readSum_9 (n : Nat)  (σ : MS) (a9 : MS) : Option ((MS) ⊕ (Int32 × MS)) := ((f_X12_sign n (43 : Int32) a9).bind (fun q12 => (if q12.1 = 0 then (some ((1 : Int32), q12.2)).map Sum.inr else ((f_X12_readPart n  q12.2).bind (fun q19 => (if q19.1 = 0 then (some ((0 : Int32), q19.2)).map Sum.inr else ((f_X12_emits (9 : Int32) (0 : Int32) q19.2).bind (fun q31 => some (.inl (q31.2))))))))))
def f_X12_readSum (n : Nat)  (σ : MS) : Option (Int32 × MS) := ((f_X12_readPart n  σ).bind (fun q1 => (if q1.1 = 0 then some ((0 : Int32), q1.2) else itr (L_X12_readSum_9 n  σ) n (q1.2))))
set_option maxRecDepth 20000 in
set_option maxHeartbeats 2000000 in
theorem c_X12_readSum (w : TG) (n : Nat)  (σ : MS) : MC m_X12_readSum w [.ref (wB w + 171)] σ (f_X12_readSum n  σ) := by
  refine V_meth (by decide +kernel) (Nat.le_of_ble_eq_true rfl) (by intro v hv; simp only [List.mem_cons, List.not_mem_nil, or_false] at hv; subst hv; rfl) (fun g x => ?_)
  show VV m_X12_readSum w g 0 0 (QM m_X12_readSum w g x) (fun b : Int32 × MS => b = x) 0 [some (.ref (wB w + 171))] [] σ (f_X12_readSum n  σ)
  have hL9 : ∀  (n0 : Nat) (a : MS), VV m_X12_readSum w g 0 0 (QM m_X12_readSum w g x) (fun b : Int32 × MS => b = x) 9 [some (.ref (wB w + 171))] [] a (itr (L_X12_readSum_9 n  σ) n0 a) := by
    refine V_itr (vf := fun a : MS => [some (.ref (wB w + 171))]) (sf := fun a : MS => a) (fun κ9 b9 r9 a9 => ?_)
    show VV m_X12_readSum w g 0 0 (QM m_X12_readSum w g x) κ9 9 [some (.ref (wB w + 171))] [] a9 (L_X12_readSum_9 n  σ a9)
    refine V_aload_n (pc := 9) dX12_readSum_9 rfl rfl ?_
    refine V_bipush (pc := 10) (v := (43 : Int32)) dX12_readSum_10 rfl ?_
    refine V_callVi (pc := 12) (As := [.int (43 : Int32)]) (rest := []) (c_X12_sign w n (43 : Int32) a9) cw_X12_200 rfl rfl dX12_readSum_12 kc_171 rfl ⟨Nat.le_of_ble_eq_true rfl, Nat.le_of_ble_eq_true rfl⟩ rfl rfl (Nat.le_of_ble_eq_true rfl) (Nat.le_of_ble_eq_true rfl) (Nat.le_of_ble_eq_true rfl) rfl (fun q12 => ?_)
    refine V_if_eq (pc := 15) (tgt := 37) dX12_readSum_15 (by decide) ?_ ?_
    · refine V_exit r9 ?_
      refine V_iconst (pc := 37) (v := (1 : Int32)) dX12_readSum_37 rfl ?_
      exact V_iretz (pc := 38) dX12_readSum_38 rfl rfl (hk := fun h => h)
    · refine V_aload_n (pc := 18) dX12_readSum_18 rfl rfl ?_
      refine V_callVi (pc := 19) (As := []) (rest := []) (c_X12_readPart w n  q12.2) cw_X12_197 rfl rfl dX12_readSum_19 kc_171 rfl ⟨Nat.le_of_ble_eq_true rfl, Nat.le_of_ble_eq_true rfl⟩ rfl rfl (Nat.le_of_ble_eq_true rfl) (Nat.le_of_ble_eq_true rfl) (Nat.le_of_ble_eq_true rfl) rfl (fun q19 => ?_)
      refine V_if_ne (pc := 22) (tgt := 27) dX12_readSum_22 (by decide) ?_ ?_
      · refine V_aload_n (pc := 27) dX12_readSum_27 rfl rfl ?_
        refine V_bipush (pc := 28) (v := (9 : Int32)) dX12_readSum_28 rfl ?_
        refine V_iconst (pc := 30) (v := (0 : Int32)) dX12_readSum_30 rfl ?_
        refine V_callVv (pc := 31) (As := [.int (9 : Int32), .int (0 : Int32)]) (rest := []) (c_X12_emits w (9 : Int32) (0 : Int32) q19.2) cw_X12_184 rfl rfl dX12_readSum_31 kc_171 rfl ⟨Nat.le_of_ble_eq_true rfl, Nat.le_of_ble_eq_true rfl⟩ rfl rfl (Nat.le_of_ble_eq_true rfl) (Nat.le_of_ble_eq_true rfl) (Nat.le_of_ble_eq_true rfl) rfl (fun q31 => ?_)
        refine V_goto (pc := 34) (tgt := 9) dX12_readSum_34 (by decide) ?_
        exact V_back (b9 (q31.2))
      · refine V_exit r9 ?_
        refine V_iconst (pc := 25) (v := (0 : Int32)) dX12_readSum_25 rfl ?_
        exact V_iretz (pc := 26) dX12_readSum_26 rfl rfl (hk := fun h => h)
  refine V_aload_n (pc := 0) dX12_readSum_0 rfl rfl ?_
  refine V_callVi (pc := 1) (As := []) (rest := []) (c_X12_readPart w n  σ) cw_X12_197 rfl rfl dX12_readSum_1 kc_171 rfl ⟨Nat.le_of_ble_eq_true rfl, Nat.le_of_ble_eq_true rfl⟩ rfl rfl (Nat.le_of_ble_eq_true rfl) (Nat.le_of_ble_eq_true rfl) (Nat.le_of_ble_eq_true rfl) rfl (fun q1 => ?_)
  refine V_if_ne (pc := 4) (tgt := 9) dX12_readSum_4 (by decide) ?_ ?_
  · exact hL9 n (q1.2)
  · refine V_iconst (pc := 7) (v := (0 : Int32)) dX12_readSum_7 rfl ?_
    exact V_iretz (pc := 8) dX12_readSum_8 rfl rfl (hk := fun h => h)
def J_X12_readTag_64 (n : Nat) (t0 : Int32) (σ : MS) : Option (Int32 × MS) := (if t0 = 0 ∨ t0 = 1 then some (t0, σ) else none)
def J_X12_readTag_55 (n : Nat) (v1 : Int32) (σ : MS) : Option (Int32 × MS) := (if v1 < 0 then J_X12_readTag_64 n (0 : Int32) σ else J_X12_readTag_64 n (1 : Int32) σ)
def J_X12_readTag_33 (n : Nat) (t0 : Int32) (σ : MS) : Option (Int32 × MS) := (if t0 < 0 then (ltM (mu σ 171 10 (σ 171 12)) (fun s52 => J_X12_readTag_55 n t0 s52)) else ((f_X12_emits t0 (0 : Int32) σ).bind (fun q41 => J_X12_readTag_55 n t0 q41.2)))
def f_X12_readTag (n : Nat)  (σ : MS) : Option (Int32 × MS) := ((f_X12_letters n  σ).bind (fun q1 => ((f_X12_isWord n 4 q1.2).bind (fun q7 => (if q7 = 0 then ((f_X12_isWord n 15 q1.2).bind (fun q21 => (if q21 = 0 then J_X12_readTag_33 n (-1 : Int32) q1.2 else J_X12_readTag_33 n (7 : Int32) q1.2))) else J_X12_readTag_33 n (6 : Int32) q1.2)))))
set_option maxRecDepth 20000 in
set_option maxHeartbeats 2000000 in
theorem c_X12_readTag (w : TG) (n : Nat)  (σ : MS) : MC m_X12_readTag w [.ref (wB w + 171)] σ (f_X12_readTag n  σ) := by
  refine V_meth (by decide +kernel) (Nat.le_of_ble_eq_true rfl) (by intro v hv; simp only [List.mem_cons, List.not_mem_nil, or_false] at hv; subst hv; rfl) (fun g x => ?_)
  show VV m_X12_readTag w g 0 0 (QM m_X12_readTag w g x) (fun b : Int32 × MS => b = x) 0 [some (.ref (wB w + 171)), none] [] σ (f_X12_readTag n  σ)
  have hJ64 : ∀ (t0 : Int32) (σ : MS), VV m_X12_readTag w g 0 0 (QM m_X12_readTag w g x) (fun b : Int32 × MS => b = x) 64 [none, none] [.int t0] σ (J_X12_readTag_64 n t0 σ) := by
    intro t0 σ
    exact V_iretZ (pc := 64) dX12_readTag_64 rfl (hk := fun h => h)
  have hJ55 : ∀ (v1 : Int32) (σ : MS), VV m_X12_readTag w g 0 0 (QM m_X12_readTag w g x) (fun b : Int32 × MS => b = x) 55 [none, some (.int v1)] [] σ (J_X12_readTag_55 n v1 σ) := by
    intro v1 σ
    refine V_iload_n (pc := 55) dX12_readTag_55 rfl rfl ?_
    refine V_if_lt (pc := 56) (tgt := 63) dX12_readTag_56 (by decide) ?_ ?_
    · refine V_iconst (pc := 63) (v := (0 : Int32)) dX12_readTag_63 rfl ?_
      refine V_sub (vs' := [none, none]) (show vless _ _ from trivial) rfl ?_
      exact hJ64 (0 : Int32) σ
    · refine V_iconst (pc := 59) (v := (1 : Int32)) dX12_readTag_59 rfl ?_
      refine V_goto (pc := 60) (tgt := 64) dX12_readTag_60 (by decide) ?_
      refine V_sub (vs' := [none, none]) (show vless _ _ from trivial) rfl ?_
      exact hJ64 (1 : Int32) σ
  have hJ33 : ∀ (t0 : Int32) (σ : MS), VV m_X12_readTag w g 0 0 (QM m_X12_readTag w g x) (fun b : Int32 × MS => b = x) 33 [some (.ref (wB w + 171)), none] [.int t0] σ (J_X12_readTag_33 n t0 σ) := by
    intro t0 σ
    refine V_istore_n (pc := 33) (vs' := [some (.ref (wB w + 171)), some (.int t0)]) dX12_readTag_33 rfl (Nat.le_of_ble_eq_true rfl) (Nat.le_of_ble_eq_true rfl) rfl ?_
    refine V_iload_n (pc := 34) dX12_readTag_34 rfl rfl ?_
    refine V_if_lt (pc := 35) (tgt := 47) dX12_readTag_35 (by decide) ?_ ?_
    · refine V_aload_n (pc := 47) dX12_readTag_47 rfl rfl ?_
      refine V_aload_n (pc := 48) dX12_readTag_48 rfl rfl ?_
      refine V_geti (pc := 49) fk_X12_96 rfl dX12_readTag_49 kc_171 rfl ?_
      refine V_puti (pc := 52) fp_X12_87 rfl dX12_readTag_52 kc_171 rfl (fun s52 => ?_)
      refine V_sub (vs' := [none, some (.int t0)]) (show vless _ _ from ⟨rfl, trivial⟩) rfl ?_
      exact hJ55 t0 s52
    · refine V_aload_n (pc := 38) dX12_readTag_38 rfl rfl ?_
      refine V_iload_n (pc := 39) dX12_readTag_39 rfl rfl ?_
      refine V_iconst (pc := 40) (v := (0 : Int32)) dX12_readTag_40 rfl ?_
      refine V_callVv (pc := 41) (As := [.int t0, .int (0 : Int32)]) (rest := []) (c_X12_emits w t0 (0 : Int32) σ) cw_X12_184 rfl rfl dX12_readTag_41 kc_171 rfl ⟨Nat.le_of_ble_eq_true rfl, Nat.le_of_ble_eq_true rfl⟩ rfl rfl (Nat.le_of_ble_eq_true rfl) (Nat.le_of_ble_eq_true rfl) (Nat.le_of_ble_eq_true rfl) rfl (fun q41 => ?_)
      refine V_goto (pc := 44) (tgt := 55) dX12_readTag_44 (by decide) ?_
      refine V_sub (vs' := [none, some (.int t0)]) (show vless _ _ from ⟨rfl, trivial⟩) rfl ?_
      exact hJ55 t0 q41.2
  refine V_aload_n (pc := 0) dX12_readTag_0 rfl rfl ?_
  refine V_callVv (pc := 1) (As := []) (rest := []) (c_X12_letters w n  σ) cw_X12_111 rfl rfl dX12_readTag_1 kc_171 rfl ⟨Nat.le_of_ble_eq_true rfl, Nat.le_of_ble_eq_true rfl⟩ rfl rfl (Nat.le_of_ble_eq_true rfl) (Nat.le_of_ble_eq_true rfl) (Nat.le_of_ble_eq_true rfl) rfl (fun q1 => ?_)
  refine V_aload_n (pc := 4) dX12_readTag_4 rfl rfl ?_
  refine V_ldcS (pc := 5) (i := 4) (tx := "wed") dX12_readTag_5 rfl (by decide +kernel) ?_
  refine V_callVpi (pc := 7) (As := [.ref (wS w 4)]) (rest := []) (c_X12_isWord w n 4 (by decide) q1.2) cw_X12_114 rfl rfl dX12_readTag_7 kc_171 rfl ⟨Nat.le_of_ble_eq_true rfl, Nat.le_of_ble_eq_true rfl⟩ rfl rfl (Nat.le_of_ble_eq_true rfl) (Nat.le_of_ble_eq_true rfl) (Nat.le_of_ble_eq_true rfl) rfl (fun q7 => ?_)
  refine V_if_eq (pc := 10) (tgt := 18) dX12_readTag_10 (by decide) ?_ ?_
  · refine V_aload_n (pc := 18) dX12_readTag_18 rfl rfl ?_
    refine V_ldcS (pc := 19) (i := 15) (tx := "bound") dX12_readTag_19 rfl (by decide +kernel) ?_
    refine V_callVpi (pc := 21) (As := [.ref (wS w 15)]) (rest := []) (c_X12_isWord w n 15 (by decide) q1.2) cw_X12_114 rfl rfl dX12_readTag_21 kc_171 rfl ⟨Nat.le_of_ble_eq_true rfl, Nat.le_of_ble_eq_true rfl⟩ rfl rfl (Nat.le_of_ble_eq_true rfl) (Nat.le_of_ble_eq_true rfl) (Nat.le_of_ble_eq_true rfl) rfl (fun q21 => ?_)
    refine V_if_eq (pc := 24) (tgt := 32) dX12_readTag_24 (by decide) ?_ ?_
    · refine V_iconst (pc := 32) (v := (-1 : Int32)) dX12_readTag_32 rfl ?_
      exact hJ33 (-1 : Int32) q1.2
    · refine V_bipush (pc := 27) (v := (7 : Int32)) dX12_readTag_27 rfl ?_
      refine V_goto (pc := 29) (tgt := 33) dX12_readTag_29 (by decide) ?_
      exact hJ33 (7 : Int32) q1.2
  · refine V_bipush (pc := 13) (v := (6 : Int32)) dX12_readTag_13 rfl ?_
    refine V_goto (pc := 15) (tgt := 33) dX12_readTag_15 (by decide) ?_
    exact hJ33 (6 : Int32) q1.2
def J_X12_factOf_142 (t0 : Int32) (σ : MS) : Option (Int32) := some t0
def J_X12_factOf_121 (t0 : Int32) (σ : MS) : Option (Int32) := some t0
def f_X12_factOf (p1 : Int32) (p2 : Int32) (σ : MS) : Option (Int32) := (if p1 = (0 : Int32) then some (σ 171 18) else (if p1 = (1 : Int32) then some (σ 171 19) else (if p1 = (2 : Int32) then some (σ 171 20) else (if p1 = (3 : Int32) then some (σ 171 21) else (if p1 = (4 : Int32) then ((f_X12_likes (σ 171 18) (σ 171 19) σ).bind (fun q77 => ((f_X12_likes (σ 171 19) (σ 171 18) σ).bind (fun q89 => some (q77 + q89))))) else (if p1 = (5 : Int32) then some (σ 172 3) else (if p1 = (6 : Int32) then ((f_X12_areWed (σ 171 18) (σ 171 19) σ).bind (fun q110 => (if q110 = 0 then J_X12_factOf_121 (0 : Int32) σ else J_X12_factOf_121 (1 : Int32) σ))) else (if p1 = (7 : Int32) then ((f_X12_holds (σ 171 18) (σ 171 19) σ).bind (fun q131 => (if q131 = 0 then J_X12_factOf_142 (0 : Int32) σ else J_X12_factOf_142 (1 : Int32) σ))) else some p2))))))))
set_option maxRecDepth 20000 in
set_option maxHeartbeats 2000000 in
theorem c_X12_factOf (w : TG) (p1 : Int32) (p2 : Int32) (σ : MS) : MC m_X12_factOf w [.ref (wB w + 171), .int p1, .int p2] σ ((f_X12_factOf p1 p2 σ).map (fun r => (r, σ))) := by
  refine V_methp (by decide +kernel) (Nat.le_of_ble_eq_true rfl) (by intro v hv; simp only [List.mem_cons, List.not_mem_nil, or_false] at hv; rcases hv with rfl | rfl | rfl <;> rfl) (fun g x => ?_)
  show VV m_X12_factOf w g 0 0 (QM m_X12_factOf w g x) (fun b : Int32 => (b, σ) = x) 0 [some (.ref (wB w + 171)), some (.int p1), some (.int p2)] [] σ (f_X12_factOf p1 p2 σ)
  have hJ142 : ∀ (t0 : Int32), VV m_X12_factOf w g 0 0 (QM m_X12_factOf w g x) (fun b : Int32 => (b, σ) = x) 142 [none, none, none] [.int t0] σ (J_X12_factOf_142 t0 σ) := by
    intro t0
    exact V_ireti (pc := 142) dX12_factOf_142 rfl (hk := fun h => h)
  have hJ121 : ∀ (t0 : Int32), VV m_X12_factOf w g 0 0 (QM m_X12_factOf w g x) (fun b : Int32 => (b, σ) = x) 121 [none, none, none] [.int t0] σ (J_X12_factOf_121 t0 σ) := by
    intro t0
    exact V_ireti (pc := 121) dX12_factOf_121 rfl (hk := fun h => h)
  refine V_iload_n (pc := 0) dX12_factOf_0 rfl rfl ?_
  refine V_ite (c := p1 = (0 : Int32)) (fun hx => ?_) (fun hx0 => ?_)
  · refine V_tabIn (pc := 1) (x := p1) (tgt := 48) dX12_factOf_1 (by rw [hx]; decide) (by rw [hx]; decide) (by rw [hx]; rfl) (by decide) ?_
    refine V_aload_n (pc := 48) dX12_factOf_48 rfl rfl ?_
    refine V_geti (pc := 49) fk_X12_260 rfl dX12_factOf_49 kc_171 rfl ?_
    exact V_ireti (pc := 52) dX12_factOf_52 rfl (hk := fun h => h)
  refine V_ite (c := p1 = (1 : Int32)) (fun hx => ?_) (fun hx1 => ?_)
  · refine V_tabIn (pc := 1) (x := p1) (tgt := 53) dX12_factOf_1 (by rw [hx]; decide) (by rw [hx]; decide) (by rw [hx]; rfl) (by decide) ?_
    refine V_aload_n (pc := 53) dX12_factOf_53 rfl rfl ?_
    refine V_geti (pc := 54) fk_X12_263 rfl dX12_factOf_54 kc_171 rfl ?_
    exact V_ireti (pc := 57) dX12_factOf_57 rfl (hk := fun h => h)
  refine V_ite (c := p1 = (2 : Int32)) (fun hx => ?_) (fun hx2 => ?_)
  · refine V_tabIn (pc := 1) (x := p1) (tgt := 58) dX12_factOf_1 (by rw [hx]; decide) (by rw [hx]; decide) (by rw [hx]; rfl) (by decide) ?_
    refine V_aload_n (pc := 58) dX12_factOf_58 rfl rfl ?_
    refine V_geti (pc := 59) fk_X12_266 rfl dX12_factOf_59 kc_171 rfl ?_
    exact V_ireti (pc := 62) dX12_factOf_62 rfl (hk := fun h => h)
  refine V_ite (c := p1 = (3 : Int32)) (fun hx => ?_) (fun hx3 => ?_)
  · refine V_tabIn (pc := 1) (x := p1) (tgt := 63) dX12_factOf_1 (by rw [hx]; decide) (by rw [hx]; decide) (by rw [hx]; rfl) (by decide) ?_
    refine V_aload_n (pc := 63) dX12_factOf_63 rfl rfl ?_
    refine V_geti (pc := 64) fk_X12_269 rfl dX12_factOf_64 kc_171 rfl ?_
    exact V_ireti (pc := 67) dX12_factOf_67 rfl (hk := fun h => h)
  refine V_ite (c := p1 = (4 : Int32)) (fun hx => ?_) (fun hx4 => ?_)
  · refine V_tabIn (pc := 1) (x := p1) (tgt := 68) dX12_factOf_1 (by rw [hx]; decide) (by rw [hx]; decide) (by rw [hx]; rfl) (by decide) ?_
    refine V_aload_n (pc := 68) dX12_factOf_68 rfl rfl ?_
    refine V_aload_n (pc := 69) dX12_factOf_69 rfl rfl ?_
    refine V_geti (pc := 70) fk_X12_260 rfl dX12_factOf_70 kc_171 rfl ?_
    refine V_aload_n (pc := 73) dX12_factOf_73 rfl rfl ?_
    refine V_geti (pc := 74) fk_X12_263 rfl dX12_factOf_74 kc_171 rfl ?_
    refine V_callVpi (pc := 77) (As := [.int (σ 171 18), .int (σ 171 19)]) (rest := []) (c_X12_likes w (σ 171 18) (σ 171 19) σ) cw_X12_272 rfl rfl dX12_factOf_77 kc_171 rfl ⟨Nat.le_of_ble_eq_true rfl, Nat.le_of_ble_eq_true rfl⟩ rfl rfl (Nat.le_of_ble_eq_true rfl) (Nat.le_of_ble_eq_true rfl) (Nat.le_of_ble_eq_true rfl) rfl (fun q77 => ?_)
    refine V_aload_n (pc := 80) dX12_factOf_80 rfl rfl ?_
    refine V_aload_n (pc := 81) dX12_factOf_81 rfl rfl ?_
    refine V_geti (pc := 82) fk_X12_263 rfl dX12_factOf_82 kc_171 rfl ?_
    refine V_aload_n (pc := 85) dX12_factOf_85 rfl rfl ?_
    refine V_geti (pc := 86) fk_X12_260 rfl dX12_factOf_86 kc_171 rfl ?_
    refine V_callVpi (pc := 89) (As := [.int (σ 171 19), .int (σ 171 18)]) (rest := [.int q77]) (c_X12_likes w (σ 171 19) (σ 171 18) σ) cw_X12_272 rfl rfl dX12_factOf_89 kc_171 rfl ⟨Nat.le_of_ble_eq_true rfl, Nat.le_of_ble_eq_true rfl⟩ rfl rfl (Nat.le_of_ble_eq_true rfl) (Nat.le_of_ble_eq_true rfl) (Nat.le_of_ble_eq_true rfl) rfl (fun q89 => ?_)
    refine V_iadd (pc := 92) dX12_factOf_92 ?_
    exact V_ireti (pc := 93) dX12_factOf_93 rfl (hk := fun h => h)
  refine V_ite (c := p1 = (5 : Int32)) (fun hx => ?_) (fun hx5 => ?_)
  · refine V_tabIn (pc := 1) (x := p1) (tgt := 94) dX12_factOf_1 (by rw [hx]; decide) (by rw [hx]; decide) (by rw [hx]; rfl) (by decide) ?_
    refine V_aload_n (pc := 94) dX12_factOf_94 rfl rfl ?_
    refine V_getr (pc := 95) (t := 172) fk_X12_13 rfl dX12_factOf_95 kc_171 rfl ?_
    refine V_iconst (pc := 98) (v := (3 : Int32)) dX12_factOf_98 rfl ?_
    refine V_ialdC (pc := 99) (n := 2172) dX12_factOf_99 kc_172 lc_172 (by decide) ?_
    exact V_ireti (pc := 100) dX12_factOf_100 rfl (hk := fun h => h)
  refine V_ite (c := p1 = (6 : Int32)) (fun hx => ?_) (fun hx6 => ?_)
  · refine V_tabIn (pc := 1) (x := p1) (tgt := 101) dX12_factOf_1 (by rw [hx]; decide) (by rw [hx]; decide) (by rw [hx]; rfl) (by decide) ?_
    refine V_aload_n (pc := 101) dX12_factOf_101 rfl rfl ?_
    refine V_aload_n (pc := 102) dX12_factOf_102 rfl rfl ?_
    refine V_geti (pc := 103) fk_X12_260 rfl dX12_factOf_103 kc_171 rfl ?_
    refine V_aload_n (pc := 106) dX12_factOf_106 rfl rfl ?_
    refine V_geti (pc := 107) fk_X12_263 rfl dX12_factOf_107 kc_171 rfl ?_
    refine V_callVpi (pc := 110) (As := [.int (σ 171 18), .int (σ 171 19)]) (rest := []) (c_X12_areWed w (σ 171 18) (σ 171 19) σ) cw_X12_274 rfl rfl dX12_factOf_110 kc_171 rfl ⟨Nat.le_of_ble_eq_true rfl, Nat.le_of_ble_eq_true rfl⟩ rfl rfl (Nat.le_of_ble_eq_true rfl) (Nat.le_of_ble_eq_true rfl) (Nat.le_of_ble_eq_true rfl) rfl (fun q110 => ?_)
    refine V_if_eq (pc := 113) (tgt := 120) dX12_factOf_113 (by decide) ?_ ?_
    · refine V_iconst (pc := 120) (v := (0 : Int32)) dX12_factOf_120 rfl ?_
      refine V_sub (vs' := [none, none, none]) (show vless _ _ from trivial) rfl ?_
      exact hJ121 (0 : Int32)
    · refine V_iconst (pc := 116) (v := (1 : Int32)) dX12_factOf_116 rfl ?_
      refine V_goto (pc := 117) (tgt := 121) dX12_factOf_117 (by decide) ?_
      refine V_sub (vs' := [none, none, none]) (show vless _ _ from trivial) rfl ?_
      exact hJ121 (1 : Int32)
  refine V_ite (c := p1 = (7 : Int32)) (fun hx => ?_) (fun hx7 => ?_)
  · refine V_tabIn (pc := 1) (x := p1) (tgt := 122) dX12_factOf_1 (by rw [hx]; decide) (by rw [hx]; decide) (by rw [hx]; rfl) (by decide) ?_
    refine V_aload_n (pc := 122) dX12_factOf_122 rfl rfl ?_
    refine V_aload_n (pc := 123) dX12_factOf_123 rfl rfl ?_
    refine V_geti (pc := 124) fk_X12_260 rfl dX12_factOf_124 kc_171 rfl ?_
    refine V_aload_n (pc := 127) dX12_factOf_127 rfl rfl ?_
    refine V_geti (pc := 128) fk_X12_263 rfl dX12_factOf_128 kc_171 rfl ?_
    refine V_callVpi (pc := 131) (As := [.int (σ 171 18), .int (σ 171 19)]) (rest := []) (c_X12_holds w (σ 171 18) (σ 171 19) σ) cw_X12_69 rfl rfl dX12_factOf_131 kc_171 rfl ⟨Nat.le_of_ble_eq_true rfl, Nat.le_of_ble_eq_true rfl⟩ rfl rfl (Nat.le_of_ble_eq_true rfl) (Nat.le_of_ble_eq_true rfl) (Nat.le_of_ble_eq_true rfl) rfl (fun q131 => ?_)
    refine V_if_eq (pc := 134) (tgt := 141) dX12_factOf_134 (by decide) ?_ ?_
    · refine V_iconst (pc := 141) (v := (0 : Int32)) dX12_factOf_141 rfl ?_
      refine V_sub (vs' := [none, none, none]) (show vless _ _ from trivial) rfl ?_
      exact hJ142 (0 : Int32)
    · refine V_iconst (pc := 137) (v := (1 : Int32)) dX12_factOf_137 rfl ?_
      refine V_goto (pc := 138) (tgt := 142) dX12_factOf_138 (by decide) ?_
      refine V_sub (vs' := [none, none, none]) (show vless _ _ from trivial) rfl ?_
      exact hJ142 (1 : Int32)
  refine V_tabOut (pc := 1) (tgt := 143) dX12_factOf_1 (tabout p1 0 7 (by decide) (by decide) (fun k h1 h2 => ?_)) (by decide) ?_
  · rcases (show k = 0 ∨ k = 1 ∨ k = 2 ∨ k = 3 ∨ k = 4 ∨ k = 5 ∨ k = 6 ∨ k = 7 by omega) with rfl | rfl | rfl | rfl | rfl | rfl | rfl | rfl
    · exact hx0
    · exact hx1
    · exact hx2
    · exact hx3
    · exact hx4
    · exact hx5
    · exact hx6
    · exact hx7
  · refine V_iload_n (pc := 143) dX12_factOf_143 rfl rfl ?_
    exact V_ireti (pc := 144) dX12_factOf_144 rfl (hk := fun h => h)
def J_X12_holdsLine_278 (n : Nat) (t0 : Int32) (σ : MS) : Option (Int32 × MS) := (if t0 = 0 ∨ t0 = 1 then some (t0, σ) else none)
def J_X12_holdsLine_273 (n : Nat)  (σ : MS) : Option (Int32 × MS) := J_X12_holdsLine_278 n (1 : Int32) σ
def J_X12_holdsLine_253 (n : Nat) (v3 : Int32) (v2 : Int32) (v4 : Int32) (σ : MS) : Option ((Int32 × Int32 × MS) ⊕ (Int32 × MS)) := some (.inl (v2, (v4 + (1 : Int32)), σ))
def J_X12_holdsLine_252 (n : Nat) (v3 : Int32) (v2 : Int32) (v4 : Int32) (t0 : Int32) (t1 : Int32) (σ : MS) : Option ((Int32 × Int32 × MS) ⊕ (Int32 × MS)) := (if inb t1 400 then ltM (mu σ 179 (ix t1) t0) (fun s252 => J_X12_holdsLine_253 n v3 v2 v4 s252) else none)
def J_X12_holdsLine_218 (n : Nat) (v3 : Int32) (v2 : Int32) (v4 : Int32) (v5 : Int32) (v6 : Int32) (v7 : Int32) (t0 : Int32) (σ : MS) : Option ((Int32 × Int32 × MS) ⊕ (Int32 × MS)) := (if v5 = (9 : Int32) then J_X12_holdsLine_252 n v3 v2 v4 (v6 + v7) (v2 - (1 : Int32)) σ else (if t0 = 0 then J_X12_holdsLine_252 n v3 v2 v4 (0 : Int32) (v2 - (1 : Int32)) σ else J_X12_holdsLine_252 n v3 v2 v4 (1 : Int32) (v2 - (1 : Int32)) σ))
def L_X12_holdsLine_20 (n : Nat) (v3 : Int32) (σ : MS) (a20 : Int32 × Int32 × MS) : Option ((Int32 × Int32 × MS) ⊕ (Int32 × MS)) := (if inb (v3 + (3 : Int32)) 2172 then (if (a20.2.2 172 (ix (v3 + (3 : Int32)))) ≤ a20.2.1 then ((if a20.1 = 0 then J_X12_holdsLine_273 n  a20.2.2 else (if (a20.2.2 179 0) = (1 : Int32) then J_X12_holdsLine_273 n  a20.2.2 else J_X12_holdsLine_278 n (0 : Int32) a20.2.2))).map Sum.inr else (if inb ((523 : Int32) + ((2 : Int32) * a20.2.1)) 2172 then (if (8 : Int32) < (a20.2.2 172 (ix ((523 : Int32) + ((2 : Int32) * a20.2.1)))) then (if (a20.2.2 172 (ix ((523 : Int32) + ((2 : Int32) * a20.2.1)))) = (12 : Int32) then (if inb (a20.1 - (1 : Int32)) 400 then (if inb (a20.1 - (1 : Int32)) 400 then ltM (mu a20.2.2 179 (ix (a20.1 - (1 : Int32))) ((1 : Int32) - (a20.2.2 179 (ix (a20.1 - (1 : Int32)))))) (fun s112 => J_X12_holdsLine_253 n v3 a20.1 a20.2.1 s112) else none) else none) else (if inb ((a20.1 + (-1 : Int32)) - (1 : Int32)) 400 then (if inb (a20.1 + (-1 : Int32)) 400 then (if (a20.2.2 172 (ix ((523 : Int32) + ((2 : Int32) * a20.2.1)))) = (10 : Int32) then (if (a20.2.2 179 (ix (a20.1 + (-1 : Int32)))) ≤ (a20.2.2 179 (ix ((a20.1 + (-1 : Int32)) - (1 : Int32)))) then J_X12_holdsLine_218 n v3 (a20.1 + (-1 : Int32)) a20.2.1 (a20.2.2 172 (ix ((523 : Int32) + ((2 : Int32) * a20.2.1)))) (a20.2.2 179 (ix ((a20.1 + (-1 : Int32)) - (1 : Int32)))) (a20.2.2 179 (ix (a20.1 + (-1 : Int32)))) (0 : Int32) a20.2.2 else J_X12_holdsLine_218 n v3 (a20.1 + (-1 : Int32)) a20.2.1 (a20.2.2 172 (ix ((523 : Int32) + ((2 : Int32) * a20.2.1)))) (a20.2.2 179 (ix ((a20.1 + (-1 : Int32)) - (1 : Int32)))) (a20.2.2 179 (ix (a20.1 + (-1 : Int32)))) (1 : Int32) a20.2.2) else (if (a20.2.2 172 (ix ((523 : Int32) + ((2 : Int32) * a20.2.1)))) = (11 : Int32) then (if (a20.2.2 179 (ix ((a20.1 + (-1 : Int32)) - (1 : Int32)))) ≤ (a20.2.2 179 (ix (a20.1 + (-1 : Int32)))) then J_X12_holdsLine_218 n v3 (a20.1 + (-1 : Int32)) a20.2.1 (a20.2.2 172 (ix ((523 : Int32) + ((2 : Int32) * a20.2.1)))) (a20.2.2 179 (ix ((a20.1 + (-1 : Int32)) - (1 : Int32)))) (a20.2.2 179 (ix (a20.1 + (-1 : Int32)))) (0 : Int32) a20.2.2 else J_X12_holdsLine_218 n v3 (a20.1 + (-1 : Int32)) a20.2.1 (a20.2.2 172 (ix ((523 : Int32) + ((2 : Int32) * a20.2.1)))) (a20.2.2 179 (ix ((a20.1 + (-1 : Int32)) - (1 : Int32)))) (a20.2.2 179 (ix (a20.1 + (-1 : Int32)))) (1 : Int32) a20.2.2) else (if (a20.2.2 172 (ix ((523 : Int32) + ((2 : Int32) * a20.2.1)))) = (13 : Int32) then (if ((a20.2.2 179 (ix ((a20.1 + (-1 : Int32)) - (1 : Int32)))) + (a20.2.2 179 (ix (a20.1 + (-1 : Int32))))) = (2 : Int32) then J_X12_holdsLine_218 n v3 (a20.1 + (-1 : Int32)) a20.2.1 (a20.2.2 172 (ix ((523 : Int32) + ((2 : Int32) * a20.2.1)))) (a20.2.2 179 (ix ((a20.1 + (-1 : Int32)) - (1 : Int32)))) (a20.2.2 179 (ix (a20.1 + (-1 : Int32)))) (1 : Int32) a20.2.2 else J_X12_holdsLine_218 n v3 (a20.1 + (-1 : Int32)) a20.2.1 (a20.2.2 172 (ix ((523 : Int32) + ((2 : Int32) * a20.2.1)))) (a20.2.2 179 (ix ((a20.1 + (-1 : Int32)) - (1 : Int32)))) (a20.2.2 179 (ix (a20.1 + (-1 : Int32)))) (0 : Int32) a20.2.2) else (if ((a20.2.2 179 (ix ((a20.1 + (-1 : Int32)) - (1 : Int32)))) + (a20.2.2 179 (ix (a20.1 + (-1 : Int32))))) ≤ 0 then J_X12_holdsLine_218 n v3 (a20.1 + (-1 : Int32)) a20.2.1 (a20.2.2 172 (ix ((523 : Int32) + ((2 : Int32) * a20.2.1)))) (a20.2.2 179 (ix ((a20.1 + (-1 : Int32)) - (1 : Int32)))) (a20.2.2 179 (ix (a20.1 + (-1 : Int32)))) (0 : Int32) a20.2.2 else J_X12_holdsLine_218 n v3 (a20.1 + (-1 : Int32)) a20.2.1 (a20.2.2 172 (ix ((523 : Int32) + ((2 : Int32) * a20.2.1)))) (a20.2.2 179 (ix ((a20.1 + (-1 : Int32)) - (1 : Int32)))) (a20.2.2 179 (ix (a20.1 + (-1 : Int32)))) (1 : Int32) a20.2.2)))) else none) else none)) else (if inb (((523 : Int32) + ((2 : Int32) * a20.2.1)) + (1 : Int32)) 2172 then ((f_X12_factOf (a20.2.2 172 (ix ((523 : Int32) + ((2 : Int32) * a20.2.1)))) (a20.2.2 172 (ix (((523 : Int32) + ((2 : Int32) * a20.2.1)) + (1 : Int32)))) a20.2.2).bind (fun q78 => (if inb a20.1 400 then ltM (mu a20.2.2 179 (ix a20.1) q78) (fun s81 => J_X12_holdsLine_253 n v3 (a20.1 + (1 : Int32)) a20.2.1 s81) else none))) else none)) else none)) else none)
def f_X12_holdsLine (n : Nat) (p1 : Int32) (σ : MS) : Option (Int32 × MS) := (if inb (((475 : Int32) + ((4 : Int32) * p1)) + (2 : Int32)) 2172 then itr (L_X12_holdsLine_20 n ((475 : Int32) + ((4 : Int32) * p1)) σ) n ((0 : Int32), (σ 172 (ix (((475 : Int32) + ((4 : Int32) * p1)) + (2 : Int32)))), σ) else none)
set_option maxRecDepth 20000 in
set_option maxHeartbeats 2000000 in
theorem c_X12_holdsLine (w : TG) (n : Nat) (p1 : Int32) (σ : MS) : MC m_X12_holdsLine w [.ref (wB w + 171), .int p1] σ (f_X12_holdsLine n p1 σ) := by
  refine V_meth (by decide +kernel) (Nat.le_of_ble_eq_true rfl) (by intro v hv; simp only [List.mem_cons, List.not_mem_nil, or_false] at hv; rcases hv with rfl | rfl <;> rfl) (fun g x => ?_)
  show VV m_X12_holdsLine w g 0 0 (QM m_X12_holdsLine w g x) (fun b : Int32 × MS => b = x) 0 [some (.ref (wB w + 171)), some (.int p1), none, none, none, none, none, none, none] [] σ (f_X12_holdsLine n p1 σ)
  have hJ278 : ∀ (t0 : Int32) (σ : MS), VV m_X12_holdsLine w g 0 0 (QM m_X12_holdsLine w g x) (fun b : Int32 × MS => b = x) 278 [none, none, none, none, none, none, none, none, none] [.int t0] σ (J_X12_holdsLine_278 n t0 σ) := by
    intro t0 σ
    exact V_iretZ (pc := 278) dX12_holdsLine_278 rfl (hk := fun h => h)
  have hJ273 : ∀ (σ : MS), VV m_X12_holdsLine w g 0 0 (QM m_X12_holdsLine w g x) (fun b : Int32 × MS => b = x) 273 [none, none, none, none, none, none, none, none, none] [] σ (J_X12_holdsLine_273 n  σ) := by
    intro σ
    refine V_iconst (pc := 273) (v := (1 : Int32)) dX12_holdsLine_273 rfl ?_
    refine V_goto (pc := 274) (tgt := 278) dX12_holdsLine_274 (by decide) ?_
    exact hJ278 (1 : Int32) σ
  have hL20 : ∀ (v3 : Int32) (n0 : Nat) (a : Int32 × Int32 × MS), VV m_X12_holdsLine w g 0 0 (QM m_X12_holdsLine w g x) (fun b : Int32 × MS => b = x) 20 [some (.ref (wB w + 171)), none, some (.int a.1), some (.int v3), some (.int a.2.1), none, none, none, none] [] a.2.2 (itr (L_X12_holdsLine_20 n v3 σ) n0 a) := by
    intro v3
    refine V_itr (vf := fun a : Int32 × Int32 × MS => [some (.ref (wB w + 171)), none, some (.int a.1), some (.int v3), some (.int a.2.1), none, none, none, none]) (sf := fun a : Int32 × Int32 × MS => a.2.2) (fun κ20 b20 r20 a20 => ?_)
    show VV m_X12_holdsLine w g 0 0 (QM m_X12_holdsLine w g x) κ20 20 [some (.ref (wB w + 171)), none, some (.int a20.1), some (.int v3), some (.int a20.2.1), none, none, none, none] [] a20.2.2 (L_X12_holdsLine_20 n v3 σ a20)
    have hJ253 : ∀ (v2 : Int32) (v4 : Int32) (σ : MS), VV m_X12_holdsLine w g 0 0 (QM m_X12_holdsLine w g x) κ20 253 [some (.ref (wB w + 171)), none, some (.int v2), some (.int v3), some (.int v4), none, none, none, none] [] σ (J_X12_holdsLine_253 n v3 v2 v4 σ) := by
      intro v2 v4 σ
      refine V_iinc (pc := 253) (v := (v4 + (1 : Int32))) (vs' := [some (.ref (wB w + 171)), none, some (.int v2), some (.int v3), some (.int (v4 + (1 : Int32))), none, none, none, none]) dX12_holdsLine_253 (Nat.le_of_ble_eq_true rfl) rfl rfl rfl ?_
      refine V_goto (pc := 256) (tgt := 20) dX12_holdsLine_256 (by decide) ?_
      exact V_back (b20 (v2, (v4 + (1 : Int32)), σ))
    have hJ252 : ∀ (v2 : Int32) (v4 : Int32) (t0 : Int32) (t1 : Int32) (σ : MS), VV m_X12_holdsLine w g 0 0 (QM m_X12_holdsLine w g x) κ20 252 [some (.ref (wB w + 171)), none, some (.int v2), some (.int v3), some (.int v4), none, none, none, none] [.int t0, .int t1, .ref (wB w + 179)] σ (J_X12_holdsLine_252 n v3 v2 v4 t0 t1 σ) := by
      intro v2 v4 t0 t1 σ
      refine V_iast (pc := 252) (n := 400) dX12_holdsLine_252 kc_179 lc_179 (fun s252 => ?_)
      exact hJ253 v2 v4 s252
    have hJ218 : ∀ (v2 : Int32) (v4 : Int32) (v5 : Int32) (v6 : Int32) (v7 : Int32) (t0 : Int32) (σ : MS), VV m_X12_holdsLine w g 0 0 (QM m_X12_holdsLine w g x) κ20 218 [some (.ref (wB w + 171)), none, some (.int v2), some (.int v3), some (.int v4), some (.int v5), some (.int v6), some (.int v7), none] [.int t0] σ (J_X12_holdsLine_218 n v3 v2 v4 v5 v6 v7 t0 σ) := by
      intro v2 v4 v5 v6 v7 t0 σ
      refine V_istore (pc := 218) (vs' := [some (.ref (wB w + 171)), none, some (.int v2), some (.int v3), some (.int v4), some (.int v5), some (.int v6), some (.int v7), some (.int t0)]) dX12_holdsLine_218 (Nat.le_of_ble_eq_true rfl) (Nat.le_of_ble_eq_true rfl) rfl ?_
      refine V_aload_n (pc := 220) dX12_holdsLine_220 rfl rfl ?_
      refine V_getr (pc := 221) (t := 179) fk_X12_39 rfl dX12_holdsLine_221 kc_171 rfl ?_
      refine V_iload_n (pc := 224) dX12_holdsLine_224 rfl rfl ?_
      refine V_iconst (pc := 225) (v := (1 : Int32)) dX12_holdsLine_225 rfl ?_
      refine V_isub (pc := 226) dX12_holdsLine_226 ?_
      refine V_iload (pc := 227) dX12_holdsLine_227 rfl ?_
      refine V_bipush (pc := 229) (v := (9 : Int32)) dX12_holdsLine_229 rfl ?_
      refine V_icmp_ne (pc := 231) (tgt := 242) dX12_holdsLine_231 (by decide) ?_ ?_
      · refine V_iload (pc := 242) dX12_holdsLine_242 rfl ?_
        refine V_if_eq (pc := 244) (tgt := 251) dX12_holdsLine_244 (by decide) ?_ ?_
        · refine V_iconst (pc := 251) (v := (0 : Int32)) dX12_holdsLine_251 rfl ?_
          refine V_sub (vs' := [some (.ref (wB w + 171)), none, some (.int v2), some (.int v3), some (.int v4), none, none, none, none]) (show vless _ _ from ⟨rfl, ⟨rfl, ⟨rfl, ⟨rfl, trivial⟩⟩⟩⟩) rfl ?_
          exact hJ252 v2 v4 (0 : Int32) (v2 - (1 : Int32)) σ
        · refine V_iconst (pc := 247) (v := (1 : Int32)) dX12_holdsLine_247 rfl ?_
          refine V_goto (pc := 248) (tgt := 252) dX12_holdsLine_248 (by decide) ?_
          refine V_sub (vs' := [some (.ref (wB w + 171)), none, some (.int v2), some (.int v3), some (.int v4), none, none, none, none]) (show vless _ _ from ⟨rfl, ⟨rfl, ⟨rfl, ⟨rfl, trivial⟩⟩⟩⟩) rfl ?_
          exact hJ252 v2 v4 (1 : Int32) (v2 - (1 : Int32)) σ
      · refine V_iload (pc := 234) dX12_holdsLine_234 rfl ?_
        refine V_iload (pc := 236) dX12_holdsLine_236 rfl ?_
        refine V_iadd (pc := 238) dX12_holdsLine_238 ?_
        refine V_goto (pc := 239) (tgt := 252) dX12_holdsLine_239 (by decide) ?_
        refine V_sub (vs' := [some (.ref (wB w + 171)), none, some (.int v2), some (.int v3), some (.int v4), none, none, none, none]) (show vless _ _ from ⟨rfl, ⟨rfl, ⟨rfl, ⟨rfl, trivial⟩⟩⟩⟩) rfl ?_
        exact hJ252 v2 v4 (v6 + v7) (v2 - (1 : Int32)) σ
    refine V_iload (pc := 20) dX12_holdsLine_20 rfl ?_
    refine V_aload_n (pc := 22) dX12_holdsLine_22 rfl rfl ?_
    refine V_getr (pc := 23) (t := 172) fk_X12_13 rfl dX12_holdsLine_23 kc_171 rfl ?_
    refine V_iload_n (pc := 26) dX12_holdsLine_26 rfl rfl ?_
    refine V_iconst (pc := 27) (v := (3 : Int32)) dX12_holdsLine_27 rfl ?_
    refine V_iadd (pc := 28) dX12_holdsLine_28 ?_
    refine V_iald (pc := 29) (n := 2172) dX12_holdsLine_29 kc_172 lc_172 ?_
    refine V_icmp_ge (pc := 30) (tgt := 259) dX12_holdsLine_30 (by decide) ?_ ?_
    · refine V_exit r20 ?_
      refine V_iload_n (pc := 259) dX12_holdsLine_259 rfl rfl ?_
      refine V_if_eq (pc := 260) (tgt := 273) dX12_holdsLine_260 (by decide) ?_ ?_
      · refine V_sub (vs' := [none, none, none, none, none, none, none, none, none]) (show vless _ _ from trivial) rfl ?_
        exact hJ273 a20.2.2
      · refine V_aload_n (pc := 263) dX12_holdsLine_263 rfl rfl ?_
        refine V_getr (pc := 264) (t := 179) fk_X12_39 rfl dX12_holdsLine_264 kc_171 rfl ?_
        refine V_iconst (pc := 267) (v := (0 : Int32)) dX12_holdsLine_267 rfl ?_
        refine V_ialdC (pc := 268) (n := 400) dX12_holdsLine_268 kc_179 lc_179 (by decide) ?_
        refine V_iconst (pc := 269) (v := (1 : Int32)) dX12_holdsLine_269 rfl ?_
        refine V_icmp_ne (pc := 270) (tgt := 277) dX12_holdsLine_270 (by decide) ?_ ?_
        · refine V_iconst (pc := 277) (v := (0 : Int32)) dX12_holdsLine_277 rfl ?_
          refine V_sub (vs' := [none, none, none, none, none, none, none, none, none]) (show vless _ _ from trivial) rfl ?_
          exact hJ278 (0 : Int32) a20.2.2
        · refine V_sub (vs' := [none, none, none, none, none, none, none, none, none]) (show vless _ _ from trivial) rfl ?_
          exact hJ273 a20.2.2
    · refine V_aload_n (pc := 33) dX12_holdsLine_33 rfl rfl ?_
      refine V_getr (pc := 34) (t := 172) fk_X12_13 rfl dX12_holdsLine_34 kc_171 rfl ?_
      refine V_sipush (pc := 37) (v := (523 : Int32)) dX12_holdsLine_37 rfl ?_
      refine V_iconst (pc := 40) (v := (2 : Int32)) dX12_holdsLine_40 rfl ?_
      refine V_iload (pc := 41) dX12_holdsLine_41 rfl ?_
      refine V_imul (pc := 43) dX12_holdsLine_43 ?_
      refine V_iadd (pc := 44) dX12_holdsLine_44 ?_
      refine V_iald (pc := 45) (n := 2172) dX12_holdsLine_45 kc_172 lc_172 ?_
      refine V_istore (pc := 46) (vs' := [some (.ref (wB w + 171)), none, some (.int a20.1), some (.int v3), some (.int a20.2.1), some (.int (a20.2.2 172 (ix ((523 : Int32) + ((2 : Int32) * a20.2.1))))), none, none, none]) dX12_holdsLine_46 (Nat.le_of_ble_eq_true rfl) (Nat.le_of_ble_eq_true rfl) rfl ?_
      refine V_iload (pc := 48) dX12_holdsLine_48 rfl ?_
      refine V_bipush (pc := 50) (v := (8 : Int32)) dX12_holdsLine_50 rfl ?_
      refine V_icmp_gt (pc := 52) (tgt := 88) dX12_holdsLine_52 (by decide) ?_ ?_
      · refine V_iload (pc := 88) dX12_holdsLine_88 rfl ?_
        refine V_bipush (pc := 90) (v := (12 : Int32)) dX12_holdsLine_90 rfl ?_
        refine V_icmp_ne (pc := 92) (tgt := 116) dX12_holdsLine_92 (by decide) ?_ ?_
        · refine V_iinc (pc := 116) (v := (a20.1 + (-1 : Int32))) (vs' := [some (.ref (wB w + 171)), none, some (.int (a20.1 + (-1 : Int32))), some (.int v3), some (.int a20.2.1), some (.int (a20.2.2 172 (ix ((523 : Int32) + ((2 : Int32) * a20.2.1))))), none, none, none]) dX12_holdsLine_116 (Nat.le_of_ble_eq_true rfl) rfl rfl rfl ?_
          refine V_aload_n (pc := 119) dX12_holdsLine_119 rfl rfl ?_
          refine V_getr (pc := 120) (t := 179) fk_X12_39 rfl dX12_holdsLine_120 kc_171 rfl ?_
          refine V_iload_n (pc := 123) dX12_holdsLine_123 rfl rfl ?_
          refine V_iconst (pc := 124) (v := (1 : Int32)) dX12_holdsLine_124 rfl ?_
          refine V_isub (pc := 125) dX12_holdsLine_125 ?_
          refine V_iald (pc := 126) (n := 400) dX12_holdsLine_126 kc_179 lc_179 ?_
          refine V_istore (pc := 127) (vs' := [some (.ref (wB w + 171)), none, some (.int (a20.1 + (-1 : Int32))), some (.int v3), some (.int a20.2.1), some (.int (a20.2.2 172 (ix ((523 : Int32) + ((2 : Int32) * a20.2.1))))), some (.int (a20.2.2 179 (ix ((a20.1 + (-1 : Int32)) - (1 : Int32))))), none, none]) dX12_holdsLine_127 (Nat.le_of_ble_eq_true rfl) (Nat.le_of_ble_eq_true rfl) rfl ?_
          refine V_aload_n (pc := 129) dX12_holdsLine_129 rfl rfl ?_
          refine V_getr (pc := 130) (t := 179) fk_X12_39 rfl dX12_holdsLine_130 kc_171 rfl ?_
          refine V_iload_n (pc := 133) dX12_holdsLine_133 rfl rfl ?_
          refine V_iald (pc := 134) (n := 400) dX12_holdsLine_134 kc_179 lc_179 ?_
          refine V_istore (pc := 135) (vs' := [some (.ref (wB w + 171)), none, some (.int (a20.1 + (-1 : Int32))), some (.int v3), some (.int a20.2.1), some (.int (a20.2.2 172 (ix ((523 : Int32) + ((2 : Int32) * a20.2.1))))), some (.int (a20.2.2 179 (ix ((a20.1 + (-1 : Int32)) - (1 : Int32))))), some (.int (a20.2.2 179 (ix (a20.1 + (-1 : Int32))))), none]) dX12_holdsLine_135 (Nat.le_of_ble_eq_true rfl) (Nat.le_of_ble_eq_true rfl) rfl ?_
          refine V_iload (pc := 137) dX12_holdsLine_137 rfl ?_
          refine V_bipush (pc := 139) (v := (10 : Int32)) dX12_holdsLine_139 rfl ?_
          refine V_icmp_ne (pc := 141) (tgt := 159) dX12_holdsLine_141 (by decide) ?_ ?_
          · refine V_iload (pc := 159) dX12_holdsLine_159 rfl ?_
            refine V_bipush (pc := 161) (v := (11 : Int32)) dX12_holdsLine_161 rfl ?_
            refine V_icmp_ne (pc := 163) (tgt := 181) dX12_holdsLine_163 (by decide) ?_ ?_
            · refine V_iload (pc := 181) dX12_holdsLine_181 rfl ?_
              refine V_bipush (pc := 183) (v := (13 : Int32)) dX12_holdsLine_183 rfl ?_
              refine V_icmp_ne (pc := 185) (tgt := 205) dX12_holdsLine_185 (by decide) ?_ ?_
              · refine V_iload (pc := 205) dX12_holdsLine_205 rfl ?_
                refine V_iload (pc := 207) dX12_holdsLine_207 rfl ?_
                refine V_iadd (pc := 209) dX12_holdsLine_209 ?_
                refine V_if_le (pc := 210) (tgt := 217) dX12_holdsLine_210 (by decide) ?_ ?_
                · refine V_iconst (pc := 217) (v := (0 : Int32)) dX12_holdsLine_217 rfl ?_
                  exact hJ218 (a20.1 + (-1 : Int32)) a20.2.1 (a20.2.2 172 (ix ((523 : Int32) + ((2 : Int32) * a20.2.1)))) (a20.2.2 179 (ix ((a20.1 + (-1 : Int32)) - (1 : Int32)))) (a20.2.2 179 (ix (a20.1 + (-1 : Int32)))) (0 : Int32) a20.2.2
                · refine V_iconst (pc := 213) (v := (1 : Int32)) dX12_holdsLine_213 rfl ?_
                  refine V_goto (pc := 214) (tgt := 218) dX12_holdsLine_214 (by decide) ?_
                  exact hJ218 (a20.1 + (-1 : Int32)) a20.2.1 (a20.2.2 172 (ix ((523 : Int32) + ((2 : Int32) * a20.2.1)))) (a20.2.2 179 (ix ((a20.1 + (-1 : Int32)) - (1 : Int32)))) (a20.2.2 179 (ix (a20.1 + (-1 : Int32)))) (1 : Int32) a20.2.2
              · refine V_iload (pc := 188) dX12_holdsLine_188 rfl ?_
                refine V_iload (pc := 190) dX12_holdsLine_190 rfl ?_
                refine V_iadd (pc := 192) dX12_holdsLine_192 ?_
                refine V_iconst (pc := 193) (v := (2 : Int32)) dX12_holdsLine_193 rfl ?_
                refine V_icmp_ne (pc := 194) (tgt := 201) dX12_holdsLine_194 (by decide) ?_ ?_
                · refine V_iconst (pc := 201) (v := (0 : Int32)) dX12_holdsLine_201 rfl ?_
                  refine V_goto (pc := 202) (tgt := 218) dX12_holdsLine_202 (by decide) ?_
                  exact hJ218 (a20.1 + (-1 : Int32)) a20.2.1 (a20.2.2 172 (ix ((523 : Int32) + ((2 : Int32) * a20.2.1)))) (a20.2.2 179 (ix ((a20.1 + (-1 : Int32)) - (1 : Int32)))) (a20.2.2 179 (ix (a20.1 + (-1 : Int32)))) (0 : Int32) a20.2.2
                · refine V_iconst (pc := 197) (v := (1 : Int32)) dX12_holdsLine_197 rfl ?_
                  refine V_goto (pc := 198) (tgt := 218) dX12_holdsLine_198 (by decide) ?_
                  exact hJ218 (a20.1 + (-1 : Int32)) a20.2.1 (a20.2.2 172 (ix ((523 : Int32) + ((2 : Int32) * a20.2.1)))) (a20.2.2 179 (ix ((a20.1 + (-1 : Int32)) - (1 : Int32)))) (a20.2.2 179 (ix (a20.1 + (-1 : Int32)))) (1 : Int32) a20.2.2
            · refine V_iload (pc := 166) dX12_holdsLine_166 rfl ?_
              refine V_iload (pc := 168) dX12_holdsLine_168 rfl ?_
              refine V_icmp_le (pc := 170) (tgt := 177) dX12_holdsLine_170 (by decide) ?_ ?_
              · refine V_iconst (pc := 177) (v := (0 : Int32)) dX12_holdsLine_177 rfl ?_
                refine V_goto (pc := 178) (tgt := 218) dX12_holdsLine_178 (by decide) ?_
                exact hJ218 (a20.1 + (-1 : Int32)) a20.2.1 (a20.2.2 172 (ix ((523 : Int32) + ((2 : Int32) * a20.2.1)))) (a20.2.2 179 (ix ((a20.1 + (-1 : Int32)) - (1 : Int32)))) (a20.2.2 179 (ix (a20.1 + (-1 : Int32)))) (0 : Int32) a20.2.2
              · refine V_iconst (pc := 173) (v := (1 : Int32)) dX12_holdsLine_173 rfl ?_
                refine V_goto (pc := 174) (tgt := 218) dX12_holdsLine_174 (by decide) ?_
                exact hJ218 (a20.1 + (-1 : Int32)) a20.2.1 (a20.2.2 172 (ix ((523 : Int32) + ((2 : Int32) * a20.2.1)))) (a20.2.2 179 (ix ((a20.1 + (-1 : Int32)) - (1 : Int32)))) (a20.2.2 179 (ix (a20.1 + (-1 : Int32)))) (1 : Int32) a20.2.2
          · refine V_iload (pc := 144) dX12_holdsLine_144 rfl ?_
            refine V_iload (pc := 146) dX12_holdsLine_146 rfl ?_
            refine V_icmp_ge (pc := 148) (tgt := 155) dX12_holdsLine_148 (by decide) ?_ ?_
            · refine V_iconst (pc := 155) (v := (0 : Int32)) dX12_holdsLine_155 rfl ?_
              refine V_goto (pc := 156) (tgt := 218) dX12_holdsLine_156 (by decide) ?_
              exact hJ218 (a20.1 + (-1 : Int32)) a20.2.1 (a20.2.2 172 (ix ((523 : Int32) + ((2 : Int32) * a20.2.1)))) (a20.2.2 179 (ix ((a20.1 + (-1 : Int32)) - (1 : Int32)))) (a20.2.2 179 (ix (a20.1 + (-1 : Int32)))) (0 : Int32) a20.2.2
            · refine V_iconst (pc := 151) (v := (1 : Int32)) dX12_holdsLine_151 rfl ?_
              refine V_goto (pc := 152) (tgt := 218) dX12_holdsLine_152 (by decide) ?_
              exact hJ218 (a20.1 + (-1 : Int32)) a20.2.1 (a20.2.2 172 (ix ((523 : Int32) + ((2 : Int32) * a20.2.1)))) (a20.2.2 179 (ix ((a20.1 + (-1 : Int32)) - (1 : Int32)))) (a20.2.2 179 (ix (a20.1 + (-1 : Int32)))) (1 : Int32) a20.2.2
        · refine V_aload_n (pc := 95) dX12_holdsLine_95 rfl rfl ?_
          refine V_getr (pc := 96) (t := 179) fk_X12_39 rfl dX12_holdsLine_96 kc_171 rfl ?_
          refine V_iload_n (pc := 99) dX12_holdsLine_99 rfl rfl ?_
          refine V_iconst (pc := 100) (v := (1 : Int32)) dX12_holdsLine_100 rfl ?_
          refine V_isub (pc := 101) dX12_holdsLine_101 ?_
          refine V_iconst (pc := 102) (v := (1 : Int32)) dX12_holdsLine_102 rfl ?_
          refine V_aload_n (pc := 103) dX12_holdsLine_103 rfl rfl ?_
          refine V_getr (pc := 104) (t := 179) fk_X12_39 rfl dX12_holdsLine_104 kc_171 rfl ?_
          refine V_iload_n (pc := 107) dX12_holdsLine_107 rfl rfl ?_
          refine V_iconst (pc := 108) (v := (1 : Int32)) dX12_holdsLine_108 rfl ?_
          refine V_isub (pc := 109) dX12_holdsLine_109 ?_
          refine V_iald (pc := 110) (n := 400) dX12_holdsLine_110 kc_179 lc_179 ?_
          refine V_isub (pc := 111) dX12_holdsLine_111 ?_
          refine V_iast (pc := 112) (n := 400) dX12_holdsLine_112 kc_179 lc_179 (fun s112 => ?_)
          refine V_goto (pc := 113) (tgt := 253) dX12_holdsLine_113 (by decide) ?_
          refine V_sub (vs' := [some (.ref (wB w + 171)), none, some (.int a20.1), some (.int v3), some (.int a20.2.1), none, none, none, none]) (show vless _ _ from ⟨rfl, ⟨rfl, ⟨rfl, ⟨rfl, trivial⟩⟩⟩⟩) rfl ?_
          exact hJ253 a20.1 a20.2.1 s112
      · refine V_aload_n (pc := 55) dX12_holdsLine_55 rfl rfl ?_
        refine V_getr (pc := 56) (t := 179) fk_X12_39 rfl dX12_holdsLine_56 kc_171 rfl ?_
        refine V_iload_n (pc := 59) dX12_holdsLine_59 rfl rfl ?_
        refine V_aload_n (pc := 60) dX12_holdsLine_60 rfl rfl ?_
        refine V_iload (pc := 61) dX12_holdsLine_61 rfl ?_
        refine V_aload_n (pc := 63) dX12_holdsLine_63 rfl rfl ?_
        refine V_getr (pc := 64) (t := 172) fk_X12_13 rfl dX12_holdsLine_64 kc_171 rfl ?_
        refine V_sipush (pc := 67) (v := (523 : Int32)) dX12_holdsLine_67 rfl ?_
        refine V_iconst (pc := 70) (v := (2 : Int32)) dX12_holdsLine_70 rfl ?_
        refine V_iload (pc := 71) dX12_holdsLine_71 rfl ?_
        refine V_imul (pc := 73) dX12_holdsLine_73 ?_
        refine V_iadd (pc := 74) dX12_holdsLine_74 ?_
        refine V_iconst (pc := 75) (v := (1 : Int32)) dX12_holdsLine_75 rfl ?_
        refine V_iadd (pc := 76) dX12_holdsLine_76 ?_
        refine V_iald (pc := 77) (n := 2172) dX12_holdsLine_77 kc_172 lc_172 ?_
        refine V_callVpi (pc := 78) (As := [.int (a20.2.2 172 (ix ((523 : Int32) + ((2 : Int32) * a20.2.1)))), .int (a20.2.2 172 (ix (((523 : Int32) + ((2 : Int32) * a20.2.1)) + (1 : Int32))))]) (rest := [.int a20.1, .ref (wB w + 179)]) (c_X12_factOf w (a20.2.2 172 (ix ((523 : Int32) + ((2 : Int32) * a20.2.1)))) (a20.2.2 172 (ix (((523 : Int32) + ((2 : Int32) * a20.2.1)) + (1 : Int32)))) a20.2.2) cw_X12_277 rfl rfl dX12_holdsLine_78 kc_171 rfl ⟨Nat.le_of_ble_eq_true rfl, Nat.le_of_ble_eq_true rfl⟩ rfl rfl (Nat.le_of_ble_eq_true rfl) (Nat.le_of_ble_eq_true rfl) (Nat.le_of_ble_eq_true rfl) rfl (fun q78 => ?_)
        refine V_iast (pc := 81) (n := 400) dX12_holdsLine_81 kc_179 lc_179 (fun s81 => ?_)
        refine V_iinc (pc := 82) (v := (a20.1 + (1 : Int32))) (vs' := [some (.ref (wB w + 171)), none, some (.int (a20.1 + (1 : Int32))), some (.int v3), some (.int a20.2.1), some (.int (a20.2.2 172 (ix ((523 : Int32) + ((2 : Int32) * a20.2.1))))), none, none, none]) dX12_holdsLine_82 (Nat.le_of_ble_eq_true rfl) rfl rfl rfl ?_
        refine V_goto (pc := 85) (tgt := 253) dX12_holdsLine_85 (by decide) ?_
        refine V_sub (vs' := [some (.ref (wB w + 171)), none, some (.int (a20.1 + (1 : Int32))), some (.int v3), some (.int a20.2.1), none, none, none, none]) (show vless _ _ from ⟨rfl, ⟨rfl, ⟨rfl, ⟨rfl, trivial⟩⟩⟩⟩) rfl ?_
        exact hJ253 (a20.1 + (1 : Int32)) a20.2.1 s81
  refine V_iconst (pc := 0) (v := (0 : Int32)) dX12_holdsLine_0 rfl ?_
  refine V_istore_n (pc := 1) (vs' := [some (.ref (wB w + 171)), some (.int p1), some (.int (0 : Int32)), none, none, none, none, none, none]) dX12_holdsLine_1 rfl (Nat.le_of_ble_eq_true rfl) (Nat.le_of_ble_eq_true rfl) rfl ?_
  refine V_sipush (pc := 2) (v := (475 : Int32)) dX12_holdsLine_2 rfl ?_
  refine V_iconst (pc := 5) (v := (4 : Int32)) dX12_holdsLine_5 rfl ?_
  refine V_iload_n (pc := 6) dX12_holdsLine_6 rfl rfl ?_
  refine V_imul (pc := 7) dX12_holdsLine_7 ?_
  refine V_iadd (pc := 8) dX12_holdsLine_8 ?_
  refine V_istore_n (pc := 9) (vs' := [some (.ref (wB w + 171)), some (.int p1), some (.int (0 : Int32)), some (.int ((475 : Int32) + ((4 : Int32) * p1))), none, none, none, none, none]) dX12_holdsLine_9 rfl (Nat.le_of_ble_eq_true rfl) (Nat.le_of_ble_eq_true rfl) rfl ?_
  refine V_aload_n (pc := 10) dX12_holdsLine_10 rfl rfl ?_
  refine V_getr (pc := 11) (t := 172) fk_X12_13 rfl dX12_holdsLine_11 kc_171 rfl ?_
  refine V_iload_n (pc := 14) dX12_holdsLine_14 rfl rfl ?_
  refine V_iconst (pc := 15) (v := (2 : Int32)) dX12_holdsLine_15 rfl ?_
  refine V_iadd (pc := 16) dX12_holdsLine_16 ?_
  refine V_iald (pc := 17) (n := 2172) dX12_holdsLine_17 kc_172 lc_172 ?_
  refine V_istore (pc := 18) (vs' := [some (.ref (wB w + 171)), some (.int p1), some (.int (0 : Int32)), some (.int ((475 : Int32) + ((4 : Int32) * p1))), some (.int (σ 172 (ix (((475 : Int32) + ((4 : Int32) * p1)) + (2 : Int32))))), none, none, none, none]) dX12_holdsLine_18 (Nat.le_of_ble_eq_true rfl) (Nat.le_of_ble_eq_true rfl) rfl ?_
  refine V_sub (vs' := [some (.ref (wB w + 171)), none, some (.int (0 : Int32)), some (.int ((475 : Int32) + ((4 : Int32) * p1))), some (.int (σ 172 (ix (((475 : Int32) + ((4 : Int32) * p1)) + (2 : Int32))))), none, none, none, none]) (show vless _ _ from ⟨rfl, ⟨rfl, ⟨rfl, ⟨rfl, trivial⟩⟩⟩⟩) rfl ?_
  exact hL20 ((475 : Int32) + ((4 : Int32) * p1)) n ((0 : Int32), (σ 172 (ix (((475 : Int32) + ((4 : Int32) * p1)) + (2 : Int32)))), σ)
def J_X12_sumOf_73 (n : Nat) (v2 : Int32) (σ : MS) : Option (Int32 × MS) := some (v2, σ)
def J_X12_sumOf_67 (n : Nat) (v1 : Int32) (v2 : Int32) (v3 : Int32) (σ : MS) : Option ((Int32 × Int32 × MS) ⊕ (Int32 × MS)) := some (.inl (v2, (v3 + (1 : Int32)), σ))
def L_X12_sumOf_4 (n : Nat) (v1 : Int32) (σ : MS) (a4 : Int32 × Int32 × MS) : Option ((Int32 × Int32 × MS) ⊕ (Int32 × MS)) := (if (a4.2.2 172 2) = (1 : Int32) then (if (a4.2.2 172 474) ≤ a4.2.1 then (J_X12_sumOf_73 n a4.1 a4.2.2).map Sum.inr else (if inb ((475 : Int32) + ((4 : Int32) * a4.2.1)) 2172 then (if (a4.2.2 172 (ix ((475 : Int32) + ((4 : Int32) * a4.2.1)))) = v1 then ((f_X12_holdsLine n a4.2.1 a4.2.2).bind (fun q44 => (if q44.1 = 0 then J_X12_sumOf_67 n v1 a4.1 a4.2.1 q44.2 else (if inb (((475 : Int32) + ((4 : Int32) * a4.2.1)) + (1 : Int32)) 2172 then J_X12_sumOf_67 n v1 (a4.1 + (q44.2 172 (ix (((475 : Int32) + ((4 : Int32) * a4.2.1)) + (1 : Int32))))) a4.2.1 q44.2 else none)))) else J_X12_sumOf_67 n v1 a4.1 a4.2.1 a4.2.2) else none)) else (J_X12_sumOf_73 n a4.1 a4.2.2).map Sum.inr)
def f_X12_sumOf (n : Nat) (p1 : Int32) (σ : MS) : Option (Int32 × MS) := itr (L_X12_sumOf_4 n p1 σ) n ((0 : Int32), (0 : Int32), σ)
set_option maxRecDepth 20000 in
set_option maxHeartbeats 2000000 in
theorem c_X12_sumOf (w : TG) (n : Nat) (p1 : Int32) (σ : MS) : MC m_X12_sumOf w [.ref (wB w + 171), .int p1] σ (f_X12_sumOf n p1 σ) := by
  refine V_meth (by decide +kernel) (Nat.le_of_ble_eq_true rfl) (by intro v hv; simp only [List.mem_cons, List.not_mem_nil, or_false] at hv; rcases hv with rfl | rfl <;> rfl) (fun g x => ?_)
  show VV m_X12_sumOf w g 0 0 (QM m_X12_sumOf w g x) (fun b : Int32 × MS => b = x) 0 [some (.ref (wB w + 171)), some (.int p1), none, none] [] σ (f_X12_sumOf n p1 σ)
  have hJ73 : ∀ (v2 : Int32) (σ : MS), VV m_X12_sumOf w g 0 0 (QM m_X12_sumOf w g x) (fun b : Int32 × MS => b = x) 73 [none, none, some (.int v2), none] [] σ (J_X12_sumOf_73 n v2 σ) := by
    intro v2 σ
    refine V_iload_n (pc := 73) dX12_sumOf_73 rfl rfl ?_
    exact V_ireti (pc := 74) dX12_sumOf_74 rfl (hk := fun h => h)
  have hL4 : ∀  (n0 : Nat) (a : Int32 × Int32 × MS), VV m_X12_sumOf w g 0 0 (QM m_X12_sumOf w g x) (fun b : Int32 × MS => b = x) 4 [some (.ref (wB w + 171)), some (.int p1), some (.int a.1), some (.int a.2.1)] [] a.2.2 (itr (L_X12_sumOf_4 n p1 σ) n0 a) := by
    refine V_itr (vf := fun a : Int32 × Int32 × MS => [some (.ref (wB w + 171)), some (.int p1), some (.int a.1), some (.int a.2.1)]) (sf := fun a : Int32 × Int32 × MS => a.2.2) (fun κ4 b4 r4 a4 => ?_)
    show VV m_X12_sumOf w g 0 0 (QM m_X12_sumOf w g x) κ4 4 [some (.ref (wB w + 171)), some (.int p1), some (.int a4.1), some (.int a4.2.1)] [] a4.2.2 (L_X12_sumOf_4 n p1 σ a4)
    have hJ67 : ∀ (v2 : Int32) (v3 : Int32) (σ : MS), VV m_X12_sumOf w g 0 0 (QM m_X12_sumOf w g x) κ4 67 [some (.ref (wB w + 171)), some (.int p1), some (.int v2), some (.int v3)] [] σ (J_X12_sumOf_67 n p1 v2 v3 σ) := by
      intro v2 v3 σ
      refine V_iinc (pc := 67) (v := (v3 + (1 : Int32))) (vs' := [some (.ref (wB w + 171)), some (.int p1), some (.int v2), some (.int (v3 + (1 : Int32)))]) dX12_sumOf_67 (Nat.le_of_ble_eq_true rfl) rfl rfl rfl ?_
      refine V_goto (pc := 70) (tgt := 4) dX12_sumOf_70 (by decide) ?_
      exact V_back (b4 (v2, (v3 + (1 : Int32)), σ))
    refine V_aload_n (pc := 4) dX12_sumOf_4 rfl rfl ?_
    refine V_getr (pc := 5) (t := 172) fk_X12_13 rfl dX12_sumOf_5 kc_171 rfl ?_
    refine V_iconst (pc := 8) (v := (2 : Int32)) dX12_sumOf_8 rfl ?_
    refine V_ialdC (pc := 9) (n := 2172) dX12_sumOf_9 kc_172 lc_172 (by decide) ?_
    refine V_iconst (pc := 10) (v := (1 : Int32)) dX12_sumOf_10 rfl ?_
    refine V_icmp_ne (pc := 11) (tgt := 73) dX12_sumOf_11 (by decide) ?_ ?_
    · refine V_exit r4 ?_
      refine V_sub (vs' := [none, none, some (.int a4.1), none]) (show vless _ _ from ⟨rfl, trivial⟩) rfl ?_
      exact hJ73 a4.1 a4.2.2
    · refine V_iload_n (pc := 14) dX12_sumOf_14 rfl rfl ?_
      refine V_aload_n (pc := 15) dX12_sumOf_15 rfl rfl ?_
      refine V_getr (pc := 16) (t := 172) fk_X12_13 rfl dX12_sumOf_16 kc_171 rfl ?_
      refine V_sipush (pc := 19) (v := (474 : Int32)) dX12_sumOf_19 rfl ?_
      refine V_ialdC (pc := 22) (n := 2172) dX12_sumOf_22 kc_172 lc_172 (by decide) ?_
      refine V_icmp_ge (pc := 23) (tgt := 73) dX12_sumOf_23 (by decide) ?_ ?_
      · refine V_exit r4 ?_
        refine V_sub (vs' := [none, none, some (.int a4.1), none]) (show vless _ _ from ⟨rfl, trivial⟩) rfl ?_
        exact hJ73 a4.1 a4.2.2
      · refine V_aload_n (pc := 26) dX12_sumOf_26 rfl rfl ?_
        refine V_getr (pc := 27) (t := 172) fk_X12_13 rfl dX12_sumOf_27 kc_171 rfl ?_
        refine V_sipush (pc := 30) (v := (475 : Int32)) dX12_sumOf_30 rfl ?_
        refine V_iconst (pc := 33) (v := (4 : Int32)) dX12_sumOf_33 rfl ?_
        refine V_iload_n (pc := 34) dX12_sumOf_34 rfl rfl ?_
        refine V_imul (pc := 35) dX12_sumOf_35 ?_
        refine V_iadd (pc := 36) dX12_sumOf_36 ?_
        refine V_iald (pc := 37) (n := 2172) dX12_sumOf_37 kc_172 lc_172 ?_
        refine V_iload_n (pc := 38) dX12_sumOf_38 rfl rfl ?_
        refine V_icmp_ne (pc := 39) (tgt := 67) dX12_sumOf_39 (by decide) ?_ ?_
        · exact hJ67 a4.1 a4.2.1 a4.2.2
        · refine V_aload_n (pc := 42) dX12_sumOf_42 rfl rfl ?_
          refine V_iload_n (pc := 43) dX12_sumOf_43 rfl rfl ?_
          refine V_callVi (pc := 44) (As := [.int a4.2.1]) (rest := []) (c_X12_holdsLine w n a4.2.1 a4.2.2) cw_X12_280 rfl rfl dX12_sumOf_44 kc_171 rfl ⟨Nat.le_of_ble_eq_true rfl, Nat.le_of_ble_eq_true rfl⟩ rfl rfl (Nat.le_of_ble_eq_true rfl) (Nat.le_of_ble_eq_true rfl) (Nat.le_of_ble_eq_true rfl) rfl (fun q44 => ?_)
          refine V_if_eq (pc := 47) (tgt := 67) dX12_sumOf_47 (by decide) ?_ ?_
          · exact hJ67 a4.1 a4.2.1 q44.2
          · refine V_iload_n (pc := 50) dX12_sumOf_50 rfl rfl ?_
            refine V_aload_n (pc := 51) dX12_sumOf_51 rfl rfl ?_
            refine V_getr (pc := 52) (t := 172) fk_X12_13 rfl dX12_sumOf_52 kc_171 rfl ?_
            refine V_sipush (pc := 55) (v := (475 : Int32)) dX12_sumOf_55 rfl ?_
            refine V_iconst (pc := 58) (v := (4 : Int32)) dX12_sumOf_58 rfl ?_
            refine V_iload_n (pc := 59) dX12_sumOf_59 rfl rfl ?_
            refine V_imul (pc := 60) dX12_sumOf_60 ?_
            refine V_iadd (pc := 61) dX12_sumOf_61 ?_
            refine V_iconst (pc := 62) (v := (1 : Int32)) dX12_sumOf_62 rfl ?_
            refine V_iadd (pc := 63) dX12_sumOf_63 ?_
            refine V_iald (pc := 64) (n := 2172) dX12_sumOf_64 kc_172 lc_172 ?_
            refine V_iadd (pc := 65) dX12_sumOf_65 ?_
            refine V_istore_n (pc := 66) (vs' := [some (.ref (wB w + 171)), some (.int p1), some (.int (a4.1 + (q44.2 172 (ix (((475 : Int32) + ((4 : Int32) * a4.2.1)) + (1 : Int32)))))), some (.int a4.2.1)]) dX12_sumOf_66 rfl (Nat.le_of_ble_eq_true rfl) (Nat.le_of_ble_eq_true rfl) rfl ?_
            exact hJ67 (a4.1 + (q44.2 172 (ix (((475 : Int32) + ((4 : Int32) * a4.2.1)) + (1 : Int32))))) a4.2.1 q44.2
  refine V_iconst (pc := 0) (v := (0 : Int32)) dX12_sumOf_0 rfl ?_
  refine V_istore_n (pc := 1) (vs' := [some (.ref (wB w + 171)), some (.int p1), some (.int (0 : Int32)), none]) dX12_sumOf_1 rfl (Nat.le_of_ble_eq_true rfl) (Nat.le_of_ble_eq_true rfl) rfl ?_
  refine V_iconst (pc := 2) (v := (0 : Int32)) dX12_sumOf_2 rfl ?_
  refine V_istore_n (pc := 3) (vs' := [some (.ref (wB w + 171)), some (.int p1), some (.int (0 : Int32)), some (.int (0 : Int32))]) dX12_sumOf_3 rfl (Nat.le_of_ble_eq_true rfl) (Nat.le_of_ble_eq_true rfl) rfl ?_
  exact hL4 n ((0 : Int32), (0 : Int32), σ)
def f_X12_looks (p1 : Int32) (p2 : Int32) (p3 : Int32) (p4 : Int32) (σ : MS) : Option (Int32 × MS) := (ltM (mu σ 171 18 (mnI p1 p2)) (fun s6 => (ltM (mu s6 171 19 (mxI p1 p2)) (fun s15 => (ltM (mu s15 171 20 p3) (fun s20 => (ltM (mu s20 171 21 p4) (fun s26 => some (0, s26)))))))))
set_option maxRecDepth 20000 in
set_option maxHeartbeats 2000000 in
theorem c_X12_looks (w : TG) (p1 : Int32) (p2 : Int32) (p3 : Int32) (p4 : Int32) (σ : MS) : MC m_X12_looks w [.ref (wB w + 171), .int p1, .int p2, .int p3, .int p4] σ (f_X12_looks p1 p2 p3 p4 σ) := by
  refine V_meth (by decide +kernel) (Nat.le_of_ble_eq_true rfl) (by intro v hv; simp only [List.mem_cons, List.not_mem_nil, or_false] at hv; rcases hv with rfl | rfl | rfl | rfl | rfl <;> rfl) (fun g x => ?_)
  show VV m_X12_looks w g 0 0 (QM m_X12_looks w g x) (fun b : Int32 × MS => b = x) 0 [some (.ref (wB w + 171)), some (.int p1), some (.int p2), some (.int p3), some (.int p4)] [] σ (f_X12_looks p1 p2 p3 p4 σ)
  refine V_aload_n (pc := 0) dX12_looks_0 rfl rfl ?_
  refine V_iload_n (pc := 1) dX12_looks_1 rfl rfl ?_
  refine V_iload_n (pc := 2) dX12_looks_2 rfl rfl ?_
  refine V_mmin (pc := 3) dX12_looks_3 rfl mw_X12_283 (Nat.le_of_ble_eq_true rfl) (Nat.le_of_ble_eq_true rfl) (Nat.le_of_ble_eq_true rfl) (Nat.le_of_ble_eq_true rfl) ?_
  refine V_puti (pc := 6) fp_X12_260 rfl dX12_looks_6 kc_171 rfl (fun s6 => ?_)
  refine V_aload_n (pc := 9) dX12_looks_9 rfl rfl ?_
  refine V_iload_n (pc := 10) dX12_looks_10 rfl rfl ?_
  refine V_iload_n (pc := 11) dX12_looks_11 rfl rfl ?_
  refine V_mmax (pc := 12) dX12_looks_12 rfl mw_X12_288 (Nat.le_of_ble_eq_true rfl) (Nat.le_of_ble_eq_true rfl) (Nat.le_of_ble_eq_true rfl) (Nat.le_of_ble_eq_true rfl) ?_
  refine V_puti (pc := 15) fp_X12_263 rfl dX12_looks_15 kc_171 rfl (fun s15 => ?_)
  refine V_aload_n (pc := 18) dX12_looks_18 rfl rfl ?_
  refine V_iload_n (pc := 19) dX12_looks_19 rfl rfl ?_
  refine V_puti (pc := 20) fp_X12_266 rfl dX12_looks_20 kc_171 rfl (fun s20 => ?_)
  refine V_aload_n (pc := 23) dX12_looks_23 rfl rfl ?_
  refine V_iload (pc := 24) dX12_looks_24 rfl ?_
  refine V_puti (pc := 26) fp_X12_269 rfl dX12_looks_26 kc_171 rfl (fun s26 => ?_)
  exact V_ret (pc := 29) dX12_looks_29 rfl (hk := fun h => h)
def f_X12_bindsBy (n : Nat)  (σ : MS) : Option (Int32 × MS) := ((f_X12_sumOf n (0 : Int32) σ).bind (fun q10 => some ((mnI (9 : Int32) ((σ 172 5) + q10.1)), q10.2)))
set_option maxRecDepth 20000 in
set_option maxHeartbeats 2000000 in
theorem c_X12_bindsBy (w : TG) (n : Nat)  (σ : MS) : MC m_X12_bindsBy w [.ref (wB w + 171)] σ (f_X12_bindsBy n  σ) := by
  refine V_meth (by decide +kernel) (Nat.le_of_ble_eq_true rfl) (by intro v hv; simp only [List.mem_cons, List.not_mem_nil, or_false] at hv; subst hv; rfl) (fun g x => ?_)
  show VV m_X12_bindsBy w g 0 0 (QM m_X12_bindsBy w g x) (fun b : Int32 × MS => b = x) 0 [some (.ref (wB w + 171))] [] σ (f_X12_bindsBy n  σ)
  refine V_bipush (pc := 0) (v := (9 : Int32)) dX12_bindsBy_0 rfl ?_
  refine V_aload_n (pc := 2) dX12_bindsBy_2 rfl rfl ?_
  refine V_getr (pc := 3) (t := 172) fk_X12_13 rfl dX12_bindsBy_3 kc_171 rfl ?_
  refine V_iconst (pc := 6) (v := (5 : Int32)) dX12_bindsBy_6 rfl ?_
  refine V_ialdC (pc := 7) (n := 2172) dX12_bindsBy_7 kc_172 lc_172 (by decide) ?_
  refine V_aload_n (pc := 8) dX12_bindsBy_8 rfl rfl ?_
  refine V_iconst (pc := 9) (v := (0 : Int32)) dX12_bindsBy_9 rfl ?_
  refine V_callVi (pc := 10) (As := [.int (0 : Int32)]) (rest := [.int (σ 172 5), .int (9 : Int32)]) (c_X12_sumOf w n (0 : Int32) σ) cw_X12_291 rfl rfl dX12_bindsBy_10 kc_171 rfl ⟨Nat.le_of_ble_eq_true rfl, Nat.le_of_ble_eq_true rfl⟩ rfl rfl (Nat.le_of_ble_eq_true rfl) (Nat.le_of_ble_eq_true rfl) (Nat.le_of_ble_eq_true rfl) rfl (fun q10 => ?_)
  refine V_iadd (pc := 13) dX12_bindsBy_13 ?_
  refine V_mmin (pc := 14) dX12_bindsBy_14 rfl mw_X12_283 (Nat.le_of_ble_eq_true rfl) (Nat.le_of_ble_eq_true rfl) (Nat.le_of_ble_eq_true rfl) (Nat.le_of_ble_eq_true rfl) ?_
  exact V_ireti (pc := 17) dX12_bindsBy_17 rfl (hk := fun h => h)
def f_X12_lastsFor (n : Nat)  (σ : MS) : Option (Int32 × MS) := ((f_X12_sumOf n (1 : Int32) σ).bind (fun q9 => some (((σ 172 6) + q9.1), q9.2)))
set_option maxRecDepth 20000 in
set_option maxHeartbeats 2000000 in
theorem c_X12_lastsFor (w : TG) (n : Nat)  (σ : MS) : MC m_X12_lastsFor w [.ref (wB w + 171)] σ (f_X12_lastsFor n  σ) := by
  refine V_meth (by decide +kernel) (Nat.le_of_ble_eq_true rfl) (by intro v hv; simp only [List.mem_cons, List.not_mem_nil, or_false] at hv; subst hv; rfl) (fun g x => ?_)
  show VV m_X12_lastsFor w g 0 0 (QM m_X12_lastsFor w g x) (fun b : Int32 × MS => b = x) 0 [some (.ref (wB w + 171))] [] σ (f_X12_lastsFor n  σ)
  refine V_aload_n (pc := 0) dX12_lastsFor_0 rfl rfl ?_
  refine V_getr (pc := 1) (t := 172) fk_X12_13 rfl dX12_lastsFor_1 kc_171 rfl ?_
  refine V_bipush (pc := 4) (v := (6 : Int32)) dX12_lastsFor_4 rfl ?_
  refine V_ialdC (pc := 6) (n := 2172) dX12_lastsFor_6 kc_172 lc_172 (by decide) ?_
  refine V_aload_n (pc := 7) dX12_lastsFor_7 rfl rfl ?_
  refine V_iconst (pc := 8) (v := (1 : Int32)) dX12_lastsFor_8 rfl ?_
  refine V_callVi (pc := 9) (As := [.int (1 : Int32)]) (rest := [.int (σ 172 6)]) (c_X12_sumOf w n (1 : Int32) σ) cw_X12_291 rfl rfl dX12_lastsFor_9 kc_171 rfl ⟨Nat.le_of_ble_eq_true rfl, Nat.le_of_ble_eq_true rfl⟩ rfl rfl (Nat.le_of_ble_eq_true rfl) (Nat.le_of_ble_eq_true rfl) (Nat.le_of_ble_eq_true rfl) rfl (fun q9 => ?_)
  refine V_iadd (pc := 12) dX12_lastsFor_12 ?_
  exact V_ireti (pc := 13) dX12_lastsFor_13 rfl (hk := fun h => h)
def J_X12_suspectsBy_19 (n : Nat) (t0 : Int32) (σ : MS) : Option (Int32 × MS) := some (t0, σ)
def f_X12_suspectsBy (n : Nat)  (σ : MS) : Option (Int32 × MS) := (if (σ 172 2) = (1 : Int32) then ((f_X12_sumOf n (2 : Int32) σ).bind (fun q12 => J_X12_suspectsBy_19 n q12.1 q12.2)) else J_X12_suspectsBy_19 n (5 : Int32) σ)
set_option maxRecDepth 20000 in
set_option maxHeartbeats 2000000 in
theorem c_X12_suspectsBy (w : TG) (n : Nat)  (σ : MS) : MC m_X12_suspectsBy w [.ref (wB w + 171)] σ (f_X12_suspectsBy n  σ) := by
  refine V_meth (by decide +kernel) (Nat.le_of_ble_eq_true rfl) (by intro v hv; simp only [List.mem_cons, List.not_mem_nil, or_false] at hv; subst hv; rfl) (fun g x => ?_)
  show VV m_X12_suspectsBy w g 0 0 (QM m_X12_suspectsBy w g x) (fun b : Int32 × MS => b = x) 0 [some (.ref (wB w + 171))] [] σ (f_X12_suspectsBy n  σ)
  have hJ19 : ∀ (t0 : Int32) (σ : MS), VV m_X12_suspectsBy w g 0 0 (QM m_X12_suspectsBy w g x) (fun b : Int32 × MS => b = x) 19 [none] [.int t0] σ (J_X12_suspectsBy_19 n t0 σ) := by
    intro t0 σ
    exact V_ireti (pc := 19) dX12_suspectsBy_19 rfl (hk := fun h => h)
  refine V_aload_n (pc := 0) dX12_suspectsBy_0 rfl rfl ?_
  refine V_getr (pc := 1) (t := 172) fk_X12_13 rfl dX12_suspectsBy_1 kc_171 rfl ?_
  refine V_iconst (pc := 4) (v := (2 : Int32)) dX12_suspectsBy_4 rfl ?_
  refine V_ialdC (pc := 5) (n := 2172) dX12_suspectsBy_5 kc_172 lc_172 (by decide) ?_
  refine V_iconst (pc := 6) (v := (1 : Int32)) dX12_suspectsBy_6 rfl ?_
  refine V_icmp_ne (pc := 7) (tgt := 18) dX12_suspectsBy_7 (by decide) ?_ ?_
  · refine V_iconst (pc := 18) (v := (5 : Int32)) dX12_suspectsBy_18 rfl ?_
    refine V_sub (vs' := [none]) (show vless _ _ from trivial) rfl ?_
    exact hJ19 (5 : Int32) σ
  · refine V_aload_n (pc := 10) dX12_suspectsBy_10 rfl rfl ?_
    refine V_iconst (pc := 11) (v := (2 : Int32)) dX12_suspectsBy_11 rfl ?_
    refine V_callVi (pc := 12) (As := [.int (2 : Int32)]) (rest := []) (c_X12_sumOf w n (2 : Int32) σ) cw_X12_291 rfl rfl dX12_suspectsBy_12 kc_171 rfl ⟨Nat.le_of_ble_eq_true rfl, Nat.le_of_ble_eq_true rfl⟩ rfl rfl (Nat.le_of_ble_eq_true rfl) (Nat.le_of_ble_eq_true rfl) (Nat.le_of_ble_eq_true rfl) rfl (fun q12 => ?_)
    refine V_goto (pc := 15) (tgt := 19) dX12_suspectsBy_15 (by decide) ?_
    refine V_sub (vs' := [none]) (show vless _ _ from trivial) rfl ?_
    exact hJ19 q12.1 q12.2
def J_X12_sipBinds_51 (n : Nat) (t0 : Int32) (σ : MS) : Option (Int32 × MS) := some (t0, σ)
def f_X12_sipBinds (n : Nat)  (σ : MS) : Option (Int32 × MS) := ((f_X12_bindsBy n  σ).bind (fun q1 => (if (q1.2 171 20) = (1 : Int32) then J_X12_sipBinds_51 n (q1.1 / (2 : Int32)) q1.2 else (if (q1.2 171 20) = (2 : Int32) then J_X12_sipBinds_51 n (mnI (9 : Int32) ((2 : Int32) * q1.1)) q1.2 else (if (q1.2 171 20) = (3 : Int32) then J_X12_sipBinds_51 n (0 : Int32) q1.2 else J_X12_sipBinds_51 n q1.1 q1.2)))))
set_option maxRecDepth 20000 in
set_option maxHeartbeats 2000000 in
theorem c_X12_sipBinds (w : TG) (n : Nat)  (σ : MS) : MC m_X12_sipBinds w [.ref (wB w + 171)] σ (f_X12_sipBinds n  σ) := by
  refine V_meth (by decide +kernel) (Nat.le_of_ble_eq_true rfl) (by intro v hv; simp only [List.mem_cons, List.not_mem_nil, or_false] at hv; subst hv; rfl) (fun g x => ?_)
  show VV m_X12_sipBinds w g 0 0 (QM m_X12_sipBinds w g x) (fun b : Int32 × MS => b = x) 0 [some (.ref (wB w + 171)), none] [] σ (f_X12_sipBinds n  σ)
  have hJ51 : ∀ (t0 : Int32) (σ : MS), VV m_X12_sipBinds w g 0 0 (QM m_X12_sipBinds w g x) (fun b : Int32 × MS => b = x) 51 [none, none] [.int t0] σ (J_X12_sipBinds_51 n t0 σ) := by
    intro t0 σ
    exact V_ireti (pc := 51) dX12_sipBinds_51 rfl (hk := fun h => h)
  refine V_aload_n (pc := 0) dX12_sipBinds_0 rfl rfl ?_
  refine V_callVi (pc := 1) (As := []) (rest := []) (c_X12_bindsBy w n  σ) cw_X12_294 rfl rfl dX12_sipBinds_1 kc_171 rfl ⟨Nat.le_of_ble_eq_true rfl, Nat.le_of_ble_eq_true rfl⟩ rfl rfl (Nat.le_of_ble_eq_true rfl) (Nat.le_of_ble_eq_true rfl) (Nat.le_of_ble_eq_true rfl) rfl (fun q1 => ?_)
  refine V_istore_n (pc := 4) (vs' := [some (.ref (wB w + 171)), some (.int q1.1)]) dX12_sipBinds_4 rfl (Nat.le_of_ble_eq_true rfl) (Nat.le_of_ble_eq_true rfl) rfl ?_
  refine V_aload_n (pc := 5) dX12_sipBinds_5 rfl rfl ?_
  refine V_geti (pc := 6) fk_X12_266 rfl dX12_sipBinds_6 kc_171 rfl ?_
  refine V_iconst (pc := 9) (v := (1 : Int32)) dX12_sipBinds_9 rfl ?_
  refine V_icmp_ne (pc := 10) (tgt := 19) dX12_sipBinds_10 (by decide) ?_ ?_
  · refine V_aload_n (pc := 19) dX12_sipBinds_19 rfl rfl ?_
    refine V_geti (pc := 20) fk_X12_266 rfl dX12_sipBinds_20 kc_171 rfl ?_
    refine V_iconst (pc := 23) (v := (2 : Int32)) dX12_sipBinds_23 rfl ?_
    refine V_icmp_ne (pc := 24) (tgt := 38) dX12_sipBinds_24 (by decide) ?_ ?_
    · refine V_aload_n (pc := 38) dX12_sipBinds_38 rfl rfl ?_
      refine V_geti (pc := 39) fk_X12_266 rfl dX12_sipBinds_39 kc_171 rfl ?_
      refine V_iconst (pc := 42) (v := (3 : Int32)) dX12_sipBinds_42 rfl ?_
      refine V_icmp_ne (pc := 43) (tgt := 50) dX12_sipBinds_43 (by decide) ?_ ?_
      · refine V_iload_n (pc := 50) dX12_sipBinds_50 rfl rfl ?_
        refine V_sub (vs' := [none, none]) (show vless _ _ from trivial) rfl ?_
        exact hJ51 q1.1 q1.2
      · refine V_iconst (pc := 46) (v := (0 : Int32)) dX12_sipBinds_46 rfl ?_
        refine V_goto (pc := 47) (tgt := 51) dX12_sipBinds_47 (by decide) ?_
        refine V_sub (vs' := [none, none]) (show vless _ _ from trivial) rfl ?_
        exact hJ51 (0 : Int32) q1.2
    · refine V_bipush (pc := 27) (v := (9 : Int32)) dX12_sipBinds_27 rfl ?_
      refine V_iconst (pc := 29) (v := (2 : Int32)) dX12_sipBinds_29 rfl ?_
      refine V_iload_n (pc := 30) dX12_sipBinds_30 rfl rfl ?_
      refine V_imul (pc := 31) dX12_sipBinds_31 ?_
      refine V_mmin (pc := 32) dX12_sipBinds_32 rfl mw_X12_283 (Nat.le_of_ble_eq_true rfl) (Nat.le_of_ble_eq_true rfl) (Nat.le_of_ble_eq_true rfl) (Nat.le_of_ble_eq_true rfl) ?_
      refine V_goto (pc := 35) (tgt := 51) dX12_sipBinds_35 (by decide) ?_
      refine V_sub (vs' := [none, none]) (show vless _ _ from trivial) rfl ?_
      exact hJ51 (mnI (9 : Int32) ((2 : Int32) * q1.1)) q1.2
  · refine V_iload_n (pc := 13) dX12_sipBinds_13 rfl rfl ?_
    refine V_iconst (pc := 14) (v := (2 : Int32)) dX12_sipBinds_14 rfl ?_
    refine V_idiv (pc := 15) dX12_sipBinds_15 (by decide) ?_
    refine V_goto (pc := 16) (tgt := 51) dX12_sipBinds_16 (by decide) ?_
    refine V_sub (vs' := [none, none]) (show vless _ _ from trivial) rfl ?_
    exact hJ51 (q1.1 / (2 : Int32)) q1.2
def J_X12_noBoth_21 (t0 : Int32) (σ : MS) : Option (Int32) := (if t0 = 0 ∨ t0 = 1 then some t0 else none)
def J_X12_noBoth_16  (σ : MS) : Option (Int32) := J_X12_noBoth_21 (1 : Int32) σ
def f_X12_noBoth (p1 : Int32) (p2 : Int32) (σ : MS) : Option (Int32) := ((f_X12_noPerson p1 σ).bind (fun q2 => (if q2 = 0 then ((f_X12_noPerson p2 σ).bind (fun q10 => (if q10 = 0 then J_X12_noBoth_21 (0 : Int32) σ else J_X12_noBoth_16  σ))) else J_X12_noBoth_16  σ)))
set_option maxRecDepth 20000 in
set_option maxHeartbeats 2000000 in
theorem c_X12_noBoth (w : TG) (p1 : Int32) (p2 : Int32) (σ : MS) : MC m_X12_noBoth w [.ref (wB w + 171), .int p1, .int p2] σ ((f_X12_noBoth p1 p2 σ).map (fun r => (r, σ))) := by
  refine V_methp (by decide +kernel) (Nat.le_of_ble_eq_true rfl) (by intro v hv; simp only [List.mem_cons, List.not_mem_nil, or_false] at hv; rcases hv with rfl | rfl | rfl <;> rfl) (fun g x => ?_)
  show VV m_X12_noBoth w g 0 0 (QM m_X12_noBoth w g x) (fun b : Int32 => (b, σ) = x) 0 [some (.ref (wB w + 171)), some (.int p1), some (.int p2)] [] σ (f_X12_noBoth p1 p2 σ)
  have hJ21 : ∀ (t0 : Int32), VV m_X12_noBoth w g 0 0 (QM m_X12_noBoth w g x) (fun b : Int32 => (b, σ) = x) 21 [none, none, none] [.int t0] σ (J_X12_noBoth_21 t0 σ) := by
    intro t0
    exact V_iretZ (pc := 21) dX12_noBoth_21 rfl (hk := fun h => h)
  have hJ16 : ∀ (_ : Unit), VV m_X12_noBoth w g 0 0 (QM m_X12_noBoth w g x) (fun b : Int32 => (b, σ) = x) 16 [none, none, none] [] σ (J_X12_noBoth_16  σ) := by
    intro _
    refine V_iconst (pc := 16) (v := (1 : Int32)) dX12_noBoth_16 rfl ?_
    refine V_goto (pc := 17) (tgt := 21) dX12_noBoth_17 (by decide) ?_
    exact hJ21 (1 : Int32)
  refine V_aload_n (pc := 0) dX12_noBoth_0 rfl rfl ?_
  refine V_iload_n (pc := 1) dX12_noBoth_1 rfl rfl ?_
  refine V_callVpi (pc := 2) (As := [.int p1]) (rest := []) (c_X12_noPerson w p1 σ) cw_X12_297 rfl rfl dX12_noBoth_2 kc_171 rfl ⟨Nat.le_of_ble_eq_true rfl, Nat.le_of_ble_eq_true rfl⟩ rfl rfl (Nat.le_of_ble_eq_true rfl) (Nat.le_of_ble_eq_true rfl) (Nat.le_of_ble_eq_true rfl) rfl (fun q2 => ?_)
  refine V_if_ne (pc := 5) (tgt := 16) dX12_noBoth_5 (by decide) ?_ ?_
  · refine V_sub (vs' := [none, none, none]) (show vless _ _ from trivial) rfl ?_
    exact hJ16 ()
  · refine V_aload_n (pc := 8) dX12_noBoth_8 rfl rfl ?_
    refine V_iload_n (pc := 9) dX12_noBoth_9 rfl rfl ?_
    refine V_callVpi (pc := 10) (As := [.int p2]) (rest := []) (c_X12_noPerson w p2 σ) cw_X12_297 rfl rfl dX12_noBoth_10 kc_171 rfl ⟨Nat.le_of_ble_eq_true rfl, Nat.le_of_ble_eq_true rfl⟩ rfl rfl (Nat.le_of_ble_eq_true rfl) (Nat.le_of_ble_eq_true rfl) (Nat.le_of_ble_eq_true rfl) rfl (fun q10 => ?_)
    refine V_if_eq (pc := 13) (tgt := 20) dX12_noBoth_13 (by decide) ?_ ?_
    · refine V_iconst (pc := 20) (v := (0 : Int32)) dX12_noBoth_20 rfl ?_
      refine V_sub (vs' := [none, none, none]) (show vless _ _ from trivial) rfl ?_
      exact hJ21 (0 : Int32)
    · refine V_sub (vs' := [none, none, none]) (show vless _ _ from trivial) rfl ?_
      exact hJ16 ()
def J_X12_told_140 (n : Nat) (t0 : Int32) (σ : MS) : Option (Int32 × MS) := some (t0, σ)
def J_X12_told_108 (n : Nat) (v5 : Int32) (t0 : Int32) (t1 : Int32) (t2 : Int32) (t3 : Int32) (σ : MS) : Option (Int32 × MS) := ((f_X12_looks t3 t2 t1 t0 σ).bind (fun q108 => (if v5 = 0 then ((f_X12_bindsBy n  q108.2).bind (fun q117 => J_X12_told_140 n q117.1 q117.2)) else (if v5 = (1 : Int32) then ((f_X12_lastsFor n  q108.2).bind (fun q130 => J_X12_told_140 n q130.1 q130.2)) else ((f_X12_suspectsBy n  q108.2).bind (fun q137 => J_X12_told_140 n q137.1 q137.2))))))
def J_X12_told_96 (n : Nat) (v4 : Int32) (v5 : Int32) (t0 : Int32) (t1 : Int32) (t2 : Int32) (σ : MS) : Option (Int32 × MS) := (if v5 = (2 : Int32) then J_X12_told_108 n v5 (0 : Int32) t0 t1 t2 σ else J_X12_told_108 n v5 v4 t0 t1 t2 σ)
def J_X12_told_80 (n : Nat)  (σ : MS) : Option (Int32 × MS) := some ((0 : Int32), σ)
def J_X12_told_73 (n : Nat) (v1 : Int32) (v2 : Int32) (v3 : Int32) (v4 : Int32) (v5 : Int32) (t0 : Int32) (σ : MS) : Option (Int32 × MS) := ((f_X12_throwsIf t0 (3 : Int32) σ).bind (fun q74 => (if q74.1 = 0 then (if v5 = (2 : Int32) then J_X12_told_96 n v4 v5 (0 : Int32) v2 v1 q74.2 else J_X12_told_96 n v4 v5 v3 v2 v1 q74.2) else J_X12_told_80 n  q74.2)))
def J_X12_told_50 (n : Nat) (v1 : Int32) (v2 : Int32) (v3 : Int32) (v4 : Int32) (v5 : Int32) (t0 : Int32) (σ : MS) : Option (Int32 × MS) := ((f_X12_throwsIf t0 (2 : Int32) σ).bind (fun q51 => (if q51.1 = 0 then ((f_X12_in v5 (0 : Int32) (2 : Int32) q51.2).bind (fun q62 => (if q62 = 0 then J_X12_told_73 n v1 v2 v3 v4 v5 (1 : Int32) q51.2 else J_X12_told_73 n v1 v2 v3 v4 v5 (0 : Int32) q51.2))) else J_X12_told_80 n  q51.2)))
def J_X12_told_45 (n : Nat) (v1 : Int32) (v2 : Int32) (v3 : Int32) (v4 : Int32) (v5 : Int32) (σ : MS) : Option (Int32 × MS) := J_X12_told_50 n v1 v2 v3 v4 v5 (1 : Int32) σ
def f_X12_told (n : Nat) (p1 : Int32) (p2 : Int32) (p3 : Int32) (p4 : Int32) (p5 : Int32) (σ : MS) : Option (Int32 × MS) := (ltM (mu σ 171 0 (0 : Int32)) (fun s2 => ((f_X12_noBoth p1 p2 s2).bind (fun q9 => ((f_X12_throwsIf q9 (1 : Int32) s2).bind (fun q13 => (if q13.1 = 0 then (if p1 = p2 then J_X12_told_45 n p1 p2 p3 p4 p5 q13.2 else ((f_X12_in p3 (0 : Int32) (3 : Int32) q13.2).bind (fun q28 => (if q28 = 0 then J_X12_told_45 n p1 p2 p3 p4 p5 q13.2 else ((f_X12_in p4 (2 : Int32) (8 : Int32) q13.2).bind (fun q39 => (if q39 = 0 then J_X12_told_45 n p1 p2 p3 p4 p5 q13.2 else J_X12_told_50 n p1 p2 p3 p4 p5 (0 : Int32) q13.2))))))) else J_X12_told_80 n  q13.2)))))))
set_option maxRecDepth 20000 in
set_option maxHeartbeats 2000000 in
theorem c_X12_told (w : TG) (n : Nat) (p1 : Int32) (p2 : Int32) (p3 : Int32) (p4 : Int32) (p5 : Int32) (σ : MS) : MC m_X12_told w [.ref (wB w + 171), .int p1, .int p2, .int p3, .int p4, .int p5] σ (f_X12_told n p1 p2 p3 p4 p5 σ) := by
  refine V_meth (by decide +kernel) (Nat.le_of_ble_eq_true rfl) (by intro v hv; simp only [List.mem_cons, List.not_mem_nil, or_false] at hv; rcases hv with rfl | rfl | rfl | rfl | rfl | rfl <;> rfl) (fun g x => ?_)
  show VV m_X12_told w g 0 0 (QM m_X12_told w g x) (fun b : Int32 × MS => b = x) 0 [some (.ref (wB w + 171)), some (.int p1), some (.int p2), some (.int p3), some (.int p4), some (.int p5)] [] σ (f_X12_told n p1 p2 p3 p4 p5 σ)
  have hJ140 : ∀ (t0 : Int32) (σ : MS), VV m_X12_told w g 0 0 (QM m_X12_told w g x) (fun b : Int32 × MS => b = x) 140 [none, none, none, none, none, none] [.int t0] σ (J_X12_told_140 n t0 σ) := by
    intro t0 σ
    exact V_ireti (pc := 140) dX12_told_140 rfl (hk := fun h => h)
  have hJ108 : ∀ (t0 : Int32) (t1 : Int32) (t2 : Int32) (t3 : Int32) (σ : MS), VV m_X12_told w g 0 0 (QM m_X12_told w g x) (fun b : Int32 × MS => b = x) 108 [some (.ref (wB w + 171)), none, none, none, none, some (.int p5)] [.int t0, .int t1, .int t2, .int t3, .ref (wB w + 171)] σ (J_X12_told_108 n p5 t0 t1 t2 t3 σ) := by
    intro t0 t1 t2 t3 σ
    refine V_callVv (pc := 108) (As := [.int t3, .int t2, .int t1, .int t0]) (rest := []) (c_X12_looks w t3 t2 t1 t0 σ) cw_X12_303 rfl rfl dX12_told_108 kc_171 rfl ⟨Nat.le_of_ble_eq_true rfl, Nat.le_of_ble_eq_true rfl⟩ rfl rfl (Nat.le_of_ble_eq_true rfl) (Nat.le_of_ble_eq_true rfl) (Nat.le_of_ble_eq_true rfl) rfl (fun q108 => ?_)
    refine V_iload (pc := 111) dX12_told_111 rfl ?_
    refine V_if_ne (pc := 113) (tgt := 123) dX12_told_113 (by decide) ?_ ?_
    · refine V_iload (pc := 123) dX12_told_123 rfl ?_
      refine V_iconst (pc := 125) (v := (1 : Int32)) dX12_told_125 rfl ?_
      refine V_icmp_ne (pc := 126) (tgt := 136) dX12_told_126 (by decide) ?_ ?_
      · refine V_aload_n (pc := 136) dX12_told_136 rfl rfl ?_
        refine V_callVi (pc := 137) (As := []) (rest := []) (c_X12_suspectsBy w n  q108.2) cw_X12_309 rfl rfl dX12_told_137 kc_171 rfl ⟨Nat.le_of_ble_eq_true rfl, Nat.le_of_ble_eq_true rfl⟩ rfl rfl (Nat.le_of_ble_eq_true rfl) (Nat.le_of_ble_eq_true rfl) (Nat.le_of_ble_eq_true rfl) rfl (fun q137 => ?_)
        refine V_sub (vs' := [none, none, none, none, none, none]) (show vless _ _ from trivial) rfl ?_
        exact hJ140 q137.1 q137.2
      · refine V_aload_n (pc := 129) dX12_told_129 rfl rfl ?_
        refine V_callVi (pc := 130) (As := []) (rest := []) (c_X12_lastsFor w n  q108.2) cw_X12_306 rfl rfl dX12_told_130 kc_171 rfl ⟨Nat.le_of_ble_eq_true rfl, Nat.le_of_ble_eq_true rfl⟩ rfl rfl (Nat.le_of_ble_eq_true rfl) (Nat.le_of_ble_eq_true rfl) (Nat.le_of_ble_eq_true rfl) rfl (fun q130 => ?_)
        refine V_goto (pc := 133) (tgt := 140) dX12_told_133 (by decide) ?_
        refine V_sub (vs' := [none, none, none, none, none, none]) (show vless _ _ from trivial) rfl ?_
        exact hJ140 q130.1 q130.2
    · refine V_aload_n (pc := 116) dX12_told_116 rfl rfl ?_
      refine V_callVi (pc := 117) (As := []) (rest := []) (c_X12_bindsBy w n  q108.2) cw_X12_294 rfl rfl dX12_told_117 kc_171 rfl ⟨Nat.le_of_ble_eq_true rfl, Nat.le_of_ble_eq_true rfl⟩ rfl rfl (Nat.le_of_ble_eq_true rfl) (Nat.le_of_ble_eq_true rfl) (Nat.le_of_ble_eq_true rfl) rfl (fun q117 => ?_)
      refine V_goto (pc := 120) (tgt := 140) dX12_told_120 (by decide) ?_
      refine V_sub (vs' := [none, none, none, none, none, none]) (show vless _ _ from trivial) rfl ?_
      exact hJ140 q117.1 q117.2
  have hJ96 : ∀ (t0 : Int32) (t1 : Int32) (t2 : Int32) (σ : MS), VV m_X12_told w g 0 0 (QM m_X12_told w g x) (fun b : Int32 × MS => b = x) 96 [some (.ref (wB w + 171)), none, none, none, some (.int p4), some (.int p5)] [.int t0, .int t1, .int t2, .ref (wB w + 171)] σ (J_X12_told_96 n p4 p5 t0 t1 t2 σ) := by
    intro t0 t1 t2 σ
    refine V_iload (pc := 96) dX12_told_96 rfl ?_
    refine V_iconst (pc := 98) (v := (2 : Int32)) dX12_told_98 rfl ?_
    refine V_icmp_ne (pc := 99) (tgt := 106) dX12_told_99 (by decide) ?_ ?_
    · refine V_iload (pc := 106) dX12_told_106 rfl ?_
      refine V_sub (vs' := [some (.ref (wB w + 171)), none, none, none, none, some (.int p5)]) (show vless _ _ from ⟨rfl, ⟨rfl, trivial⟩⟩) rfl ?_
      exact hJ108 p4 t0 t1 t2 σ
    · refine V_iconst (pc := 102) (v := (0 : Int32)) dX12_told_102 rfl ?_
      refine V_goto (pc := 103) (tgt := 108) dX12_told_103 (by decide) ?_
      refine V_sub (vs' := [some (.ref (wB w + 171)), none, none, none, none, some (.int p5)]) (show vless _ _ from ⟨rfl, ⟨rfl, trivial⟩⟩) rfl ?_
      exact hJ108 (0 : Int32) t0 t1 t2 σ
  have hJ80 : ∀ (σ : MS), VV m_X12_told w g 0 0 (QM m_X12_told w g x) (fun b : Int32 × MS => b = x) 80 [none, none, none, none, none, none] [] σ (J_X12_told_80 n  σ) := by
    intro σ
    refine V_iconst (pc := 80) (v := (0 : Int32)) dX12_told_80 rfl ?_
    exact V_ireti (pc := 81) dX12_told_81 rfl (hk := fun h => h)
  have hJ73 : ∀ (t0 : Int32) (σ : MS), VV m_X12_told w g 0 0 (QM m_X12_told w g x) (fun b : Int32 × MS => b = x) 73 [some (.ref (wB w + 171)), some (.int p1), some (.int p2), some (.int p3), some (.int p4), some (.int p5)] [.int t0, .ref (wB w + 171)] σ (J_X12_told_73 n p1 p2 p3 p4 p5 t0 σ) := by
    intro t0 σ
    refine V_iconst (pc := 73) (v := (3 : Int32)) dX12_told_73 rfl ?_
    refine V_callVi (pc := 74) (As := [.int t0, .int (3 : Int32)]) (rest := []) (c_X12_throwsIf w t0 (3 : Int32) σ) cw_X12_257 rfl rfl dX12_told_74 kc_171 rfl ⟨Nat.le_of_ble_eq_true rfl, Nat.le_of_ble_eq_true rfl⟩ rfl rfl (Nat.le_of_ble_eq_true rfl) (Nat.le_of_ble_eq_true rfl) (Nat.le_of_ble_eq_true rfl) rfl (fun q74 => ?_)
    refine V_if_eq (pc := 77) (tgt := 82) dX12_told_77 (by decide) ?_ ?_
    · refine V_aload_n (pc := 82) dX12_told_82 rfl rfl ?_
      refine V_iload_n (pc := 83) dX12_told_83 rfl rfl ?_
      refine V_iload_n (pc := 84) dX12_told_84 rfl rfl ?_
      refine V_iload (pc := 85) dX12_told_85 rfl ?_
      refine V_iconst (pc := 87) (v := (2 : Int32)) dX12_told_87 rfl ?_
      refine V_icmp_ne (pc := 88) (tgt := 95) dX12_told_88 (by decide) ?_ ?_
      · refine V_iload_n (pc := 95) dX12_told_95 rfl rfl ?_
        refine V_sub (vs' := [some (.ref (wB w + 171)), none, none, none, some (.int p4), some (.int p5)]) (show vless _ _ from ⟨rfl, ⟨rfl, ⟨rfl, trivial⟩⟩⟩) rfl ?_
        exact hJ96 p3 p2 p1 q74.2
      · refine V_iconst (pc := 91) (v := (0 : Int32)) dX12_told_91 rfl ?_
        refine V_goto (pc := 92) (tgt := 96) dX12_told_92 (by decide) ?_
        refine V_sub (vs' := [some (.ref (wB w + 171)), none, none, none, some (.int p4), some (.int p5)]) (show vless _ _ from ⟨rfl, ⟨rfl, ⟨rfl, trivial⟩⟩⟩) rfl ?_
        exact hJ96 (0 : Int32) p2 p1 q74.2
    · refine V_sub (vs' := [none, none, none, none, none, none]) (show vless _ _ from trivial) rfl ?_
      exact hJ80 q74.2
  have hJ50 : ∀ (t0 : Int32) (σ : MS), VV m_X12_told w g 0 0 (QM m_X12_told w g x) (fun b : Int32 × MS => b = x) 50 [some (.ref (wB w + 171)), some (.int p1), some (.int p2), some (.int p3), some (.int p4), some (.int p5)] [.int t0, .ref (wB w + 171)] σ (J_X12_told_50 n p1 p2 p3 p4 p5 t0 σ) := by
    intro t0 σ
    refine V_iconst (pc := 50) (v := (2 : Int32)) dX12_told_50 rfl ?_
    refine V_callVi (pc := 51) (As := [.int t0, .int (2 : Int32)]) (rest := []) (c_X12_throwsIf w t0 (2 : Int32) σ) cw_X12_257 rfl rfl dX12_told_51 kc_171 rfl ⟨Nat.le_of_ble_eq_true rfl, Nat.le_of_ble_eq_true rfl⟩ rfl rfl (Nat.le_of_ble_eq_true rfl) (Nat.le_of_ble_eq_true rfl) (Nat.le_of_ble_eq_true rfl) rfl (fun q51 => ?_)
    refine V_if_ne (pc := 54) (tgt := 80) dX12_told_54 (by decide) ?_ ?_
    · refine V_sub (vs' := [none, none, none, none, none, none]) (show vless _ _ from trivial) rfl ?_
      exact hJ80 q51.2
    · refine V_aload_n (pc := 57) dX12_told_57 rfl rfl ?_
      refine V_iload (pc := 58) dX12_told_58 rfl ?_
      refine V_iconst (pc := 60) (v := (0 : Int32)) dX12_told_60 rfl ?_
      refine V_iconst (pc := 61) (v := (2 : Int32)) dX12_told_61 rfl ?_
      refine V_callSpi (pc := 62) (As := [.int p5, .int (0 : Int32), .int (2 : Int32)]) (rest := [.ref (wB w + 171)]) (c_X12_in w p5 (0 : Int32) (2 : Int32) q51.2) cs_X12_79 rfl rfl dX12_told_62 ⟨Nat.le_of_ble_eq_true rfl, Nat.le_of_ble_eq_true rfl⟩ rfl rfl (Nat.le_of_ble_eq_true rfl) (Nat.le_of_ble_eq_true rfl) (Nat.le_of_ble_eq_true rfl) rfl (fun q62 => ?_)
      refine V_if_ne (pc := 65) (tgt := 72) dX12_told_65 (by decide) ?_ ?_
      · refine V_iconst (pc := 72) (v := (0 : Int32)) dX12_told_72 rfl ?_
        exact hJ73 (0 : Int32) q51.2
      · refine V_iconst (pc := 68) (v := (1 : Int32)) dX12_told_68 rfl ?_
        refine V_goto (pc := 69) (tgt := 73) dX12_told_69 (by decide) ?_
        exact hJ73 (1 : Int32) q51.2
  have hJ45 : ∀ (σ : MS), VV m_X12_told w g 0 0 (QM m_X12_told w g x) (fun b : Int32 × MS => b = x) 45 [some (.ref (wB w + 171)), some (.int p1), some (.int p2), some (.int p3), some (.int p4), some (.int p5)] [.ref (wB w + 171)] σ (J_X12_told_45 n p1 p2 p3 p4 p5 σ) := by
    intro σ
    refine V_iconst (pc := 45) (v := (1 : Int32)) dX12_told_45 rfl ?_
    refine V_goto (pc := 46) (tgt := 50) dX12_told_46 (by decide) ?_
    exact hJ50 (1 : Int32) σ
  refine V_aload_n (pc := 0) dX12_told_0 rfl rfl ?_
  refine V_iconst (pc := 1) (v := (0 : Int32)) dX12_told_1 rfl ?_
  refine V_puti (pc := 2) fp_X12_3 rfl dX12_told_2 kc_171 rfl (fun s2 => ?_)
  refine V_aload_n (pc := 5) dX12_told_5 rfl rfl ?_
  refine V_aload_n (pc := 6) dX12_told_6 rfl rfl ?_
  refine V_iload_n (pc := 7) dX12_told_7 rfl rfl ?_
  refine V_iload_n (pc := 8) dX12_told_8 rfl rfl ?_
  refine V_callVpi (pc := 9) (As := [.int p1, .int p2]) (rest := [.ref (wB w + 171)]) (c_X12_noBoth w p1 p2 s2) cw_X12_300 rfl rfl dX12_told_9 kc_171 rfl ⟨Nat.le_of_ble_eq_true rfl, Nat.le_of_ble_eq_true rfl⟩ rfl rfl (Nat.le_of_ble_eq_true rfl) (Nat.le_of_ble_eq_true rfl) (Nat.le_of_ble_eq_true rfl) rfl (fun q9 => ?_)
  refine V_iconst (pc := 12) (v := (1 : Int32)) dX12_told_12 rfl ?_
  refine V_callVi (pc := 13) (As := [.int q9, .int (1 : Int32)]) (rest := []) (c_X12_throwsIf w q9 (1 : Int32) s2) cw_X12_257 rfl rfl dX12_told_13 kc_171 rfl ⟨Nat.le_of_ble_eq_true rfl, Nat.le_of_ble_eq_true rfl⟩ rfl rfl (Nat.le_of_ble_eq_true rfl) (Nat.le_of_ble_eq_true rfl) (Nat.le_of_ble_eq_true rfl) rfl (fun q13 => ?_)
  refine V_if_ne (pc := 16) (tgt := 80) dX12_told_16 (by decide) ?_ ?_
  · refine V_sub (vs' := [none, none, none, none, none, none]) (show vless _ _ from trivial) rfl ?_
    exact hJ80 q13.2
  · refine V_aload_n (pc := 19) dX12_told_19 rfl rfl ?_
    refine V_iload_n (pc := 20) dX12_told_20 rfl rfl ?_
    refine V_iload_n (pc := 21) dX12_told_21 rfl rfl ?_
    refine V_icmp_eq (pc := 22) (tgt := 45) dX12_told_22 (by decide) ?_ ?_
    · exact hJ45 q13.2
    · refine V_iload_n (pc := 25) dX12_told_25 rfl rfl ?_
      refine V_iconst (pc := 26) (v := (0 : Int32)) dX12_told_26 rfl ?_
      refine V_iconst (pc := 27) (v := (3 : Int32)) dX12_told_27 rfl ?_
      refine V_callSpi (pc := 28) (As := [.int p3, .int (0 : Int32), .int (3 : Int32)]) (rest := [.ref (wB w + 171)]) (c_X12_in w p3 (0 : Int32) (3 : Int32) q13.2) cs_X12_79 rfl rfl dX12_told_28 ⟨Nat.le_of_ble_eq_true rfl, Nat.le_of_ble_eq_true rfl⟩ rfl rfl (Nat.le_of_ble_eq_true rfl) (Nat.le_of_ble_eq_true rfl) (Nat.le_of_ble_eq_true rfl) rfl (fun q28 => ?_)
      refine V_if_eq (pc := 31) (tgt := 45) dX12_told_31 (by decide) ?_ ?_
      · exact hJ45 q13.2
      · refine V_iload (pc := 34) dX12_told_34 rfl ?_
        refine V_iconst (pc := 36) (v := (2 : Int32)) dX12_told_36 rfl ?_
        refine V_bipush (pc := 37) (v := (8 : Int32)) dX12_told_37 rfl ?_
        refine V_callSpi (pc := 39) (As := [.int p4, .int (2 : Int32), .int (8 : Int32)]) (rest := [.ref (wB w + 171)]) (c_X12_in w p4 (2 : Int32) (8 : Int32) q13.2) cs_X12_79 rfl rfl dX12_told_39 ⟨Nat.le_of_ble_eq_true rfl, Nat.le_of_ble_eq_true rfl⟩ rfl rfl (Nat.le_of_ble_eq_true rfl) (Nat.le_of_ble_eq_true rfl) (Nat.le_of_ble_eq_true rfl) rfl (fun q39 => ?_)
        refine V_if_ne (pc := 42) (tgt := 49) dX12_told_42 (by decide) ?_ ?_
        · refine V_iconst (pc := 49) (v := (0 : Int32)) dX12_told_49 rfl ?_
          exact hJ50 (0 : Int32) q13.2
        · exact hJ45 q13.2
def J_X12_sips_117 (n : Nat) (t0 : Int32) (σ : MS) : Option (Int32 × MS) := (if t0 = 0 ∨ t0 = 1 then some (t0, σ) else none)
def J_X12_sips_112 (n : Nat)  (σ : MS) : Option (Int32 × MS) := J_X12_sips_117 n (1 : Int32) σ
def J_X12_sips_53 (n : Nat) (v1 : Int32) (v2 : Int32) (v5 : Int32) (v6 : Int32) (t0 : Int32) (σ : MS) : Option (Int32 × MS) := ((f_X12_lastsFor n  σ).bind (fun q76 => ((f_X12_binds v1 v2 (mxI v6 v5) (mxI t0 (mnI (9999 : Int32) ((σ 172 3) + q76.1))) q76.2).bind (fun q95 => (if v6 < (mxI v6 v5) then J_X12_sips_112 n  q95.2 else (if (mxI t0 (mnI (9999 : Int32) ((σ 172 3) + q76.1))) ≤ t0 then J_X12_sips_117 n (0 : Int32) q95.2 else J_X12_sips_112 n  q95.2))))))
def f_X12_sips (n : Nat) (p1 : Int32) (p2 : Int32) (p3 : Int32) (p4 : Int32) (σ : MS) : Option (Int32 × MS) := ((f_X12_looks p1 p2 p3 p4 σ).bind (fun q6 => ((f_X12_sipBinds n  q6.2).bind (fun q10 => (if q10.1 = 0 then some ((0 : Int32), q10.2) else ((f_X12_bondOf p1 p2 q10.2).bind (fun q25 => (if q25 ≤ 0 then J_X12_sips_53 n p1 p2 q10.1 q25 (0 : Int32) q10.2 else ((f_X12_both p1 p2 q10.2).bind (fun q44 => (if inb ((170 : Int32) + q44) 2172 then J_X12_sips_53 n p1 p2 q10.1 q25 (q10.2 172 (ix ((170 : Int32) + q44))) q10.2 else none)))))))))))
set_option maxRecDepth 20000 in
set_option maxHeartbeats 2000000 in
theorem c_X12_sips (w : TG) (n : Nat) (p1 : Int32) (p2 : Int32) (p3 : Int32) (p4 : Int32) (σ : MS) : MC m_X12_sips w [.ref (wB w + 171), .int p1, .int p2, .int p3, .int p4] σ (f_X12_sips n p1 p2 p3 p4 σ) := by
  refine V_meth (by decide +kernel) (Nat.le_of_ble_eq_true rfl) (by intro v hv; simp only [List.mem_cons, List.not_mem_nil, or_false] at hv; rcases hv with rfl | rfl | rfl | rfl | rfl <;> rfl) (fun g x => ?_)
  show VV m_X12_sips w g 0 0 (QM m_X12_sips w g x) (fun b : Int32 × MS => b = x) 0 [some (.ref (wB w + 171)), some (.int p1), some (.int p2), some (.int p3), some (.int p4), none, none, none, none, none] [] σ (f_X12_sips n p1 p2 p3 p4 σ)
  have hJ117 : ∀ (t0 : Int32) (σ : MS), VV m_X12_sips w g 0 0 (QM m_X12_sips w g x) (fun b : Int32 × MS => b = x) 117 [none, none, none, none, none, none, none, none, none, none] [.int t0] σ (J_X12_sips_117 n t0 σ) := by
    intro t0 σ
    exact V_iretZ (pc := 117) dX12_sips_117 rfl (hk := fun h => h)
  have hJ112 : ∀ (σ : MS), VV m_X12_sips w g 0 0 (QM m_X12_sips w g x) (fun b : Int32 × MS => b = x) 112 [none, none, none, none, none, none, none, none, none, none] [] σ (J_X12_sips_112 n  σ) := by
    intro σ
    refine V_iconst (pc := 112) (v := (1 : Int32)) dX12_sips_112 rfl ?_
    refine V_goto (pc := 113) (tgt := 117) dX12_sips_113 (by decide) ?_
    exact hJ117 (1 : Int32) σ
  have hJ53 : ∀ (v5 : Int32) (v6 : Int32) (t0 : Int32) (σ : MS), VV m_X12_sips w g 0 0 (QM m_X12_sips w g x) (fun b : Int32 × MS => b = x) 53 [some (.ref (wB w + 171)), some (.int p1), some (.int p2), none, none, some (.int v5), some (.int v6), none, none, none] [.int t0] σ (J_X12_sips_53 n p1 p2 v5 v6 t0 σ) := by
    intro v5 v6 t0 σ
    refine V_istore (pc := 53) (vs' := [some (.ref (wB w + 171)), some (.int p1), some (.int p2), none, none, some (.int v5), some (.int v6), some (.int t0), none, none]) dX12_sips_53 (Nat.le_of_ble_eq_true rfl) (Nat.le_of_ble_eq_true rfl) rfl ?_
    refine V_iload (pc := 55) dX12_sips_55 rfl ?_
    refine V_iload (pc := 57) dX12_sips_57 rfl ?_
    refine V_mmax (pc := 59) dX12_sips_59 rfl mw_X12_288 (Nat.le_of_ble_eq_true rfl) (Nat.le_of_ble_eq_true rfl) (Nat.le_of_ble_eq_true rfl) (Nat.le_of_ble_eq_true rfl) ?_
    refine V_istore (pc := 62) (vs' := [some (.ref (wB w + 171)), some (.int p1), some (.int p2), none, none, some (.int v5), some (.int v6), some (.int t0), some (.int (mxI v6 v5)), none]) dX12_sips_62 (Nat.le_of_ble_eq_true rfl) (Nat.le_of_ble_eq_true rfl) rfl ?_
    refine V_iload (pc := 64) dX12_sips_64 rfl ?_
    refine V_sipush (pc := 66) (v := (9999 : Int32)) dX12_sips_66 rfl ?_
    refine V_aload_n (pc := 69) dX12_sips_69 rfl rfl ?_
    refine V_getr (pc := 70) (t := 172) fk_X12_13 rfl dX12_sips_70 kc_171 rfl ?_
    refine V_iconst (pc := 73) (v := (3 : Int32)) dX12_sips_73 rfl ?_
    refine V_ialdC (pc := 74) (n := 2172) dX12_sips_74 kc_172 lc_172 (by decide) ?_
    refine V_aload_n (pc := 75) dX12_sips_75 rfl rfl ?_
    refine V_callVi (pc := 76) (As := []) (rest := [.int (σ 172 3), .int (9999 : Int32), .int t0]) (c_X12_lastsFor w n  σ) cw_X12_306 rfl rfl dX12_sips_76 kc_171 rfl ⟨Nat.le_of_ble_eq_true rfl, Nat.le_of_ble_eq_true rfl⟩ rfl rfl (Nat.le_of_ble_eq_true rfl) (Nat.le_of_ble_eq_true rfl) (Nat.le_of_ble_eq_true rfl) rfl (fun q76 => ?_)
    refine V_iadd (pc := 79) dX12_sips_79 ?_
    refine V_mmin (pc := 80) dX12_sips_80 rfl mw_X12_283 (Nat.le_of_ble_eq_true rfl) (Nat.le_of_ble_eq_true rfl) (Nat.le_of_ble_eq_true rfl) (Nat.le_of_ble_eq_true rfl) ?_
    refine V_mmax (pc := 83) dX12_sips_83 rfl mw_X12_288 (Nat.le_of_ble_eq_true rfl) (Nat.le_of_ble_eq_true rfl) (Nat.le_of_ble_eq_true rfl) (Nat.le_of_ble_eq_true rfl) ?_
    refine V_istore (pc := 86) (vs' := [some (.ref (wB w + 171)), some (.int p1), some (.int p2), none, none, some (.int v5), some (.int v6), some (.int t0), some (.int (mxI v6 v5)), some (.int (mxI t0 (mnI (9999 : Int32) ((σ 172 3) + q76.1))))]) dX12_sips_86 (Nat.le_of_ble_eq_true rfl) (Nat.le_of_ble_eq_true rfl) rfl ?_
    refine V_aload_n (pc := 88) dX12_sips_88 rfl rfl ?_
    refine V_iload_n (pc := 89) dX12_sips_89 rfl rfl ?_
    refine V_iload_n (pc := 90) dX12_sips_90 rfl rfl ?_
    refine V_iload (pc := 91) dX12_sips_91 rfl ?_
    refine V_iload (pc := 93) dX12_sips_93 rfl ?_
    refine V_callVv (pc := 95) (As := [.int p1, .int p2, .int (mxI v6 v5), .int (mxI t0 (mnI (9999 : Int32) ((σ 172 3) + q76.1)))]) (rest := []) (c_X12_binds w p1 p2 (mxI v6 v5) (mxI t0 (mnI (9999 : Int32) ((σ 172 3) + q76.1))) q76.2) cw_X12_143 rfl rfl dX12_sips_95 kc_171 rfl ⟨Nat.le_of_ble_eq_true rfl, Nat.le_of_ble_eq_true rfl⟩ rfl rfl (Nat.le_of_ble_eq_true rfl) (Nat.le_of_ble_eq_true rfl) (Nat.le_of_ble_eq_true rfl) rfl (fun q95 => ?_)
    refine V_iload (pc := 98) dX12_sips_98 rfl ?_
    refine V_iload (pc := 100) dX12_sips_100 rfl ?_
    refine V_icmp_gt (pc := 102) (tgt := 112) dX12_sips_102 (by decide) ?_ ?_
    · refine V_sub (vs' := [none, none, none, none, none, none, none, none, none, none]) (show vless _ _ from trivial) rfl ?_
      exact hJ112 q95.2
    · refine V_iload (pc := 105) dX12_sips_105 rfl ?_
      refine V_iload (pc := 107) dX12_sips_107 rfl ?_
      refine V_icmp_le (pc := 109) (tgt := 116) dX12_sips_109 (by decide) ?_ ?_
      · refine V_iconst (pc := 116) (v := (0 : Int32)) dX12_sips_116 rfl ?_
        refine V_sub (vs' := [none, none, none, none, none, none, none, none, none, none]) (show vless _ _ from trivial) rfl ?_
        exact hJ117 (0 : Int32) q95.2
      · refine V_sub (vs' := [none, none, none, none, none, none, none, none, none, none]) (show vless _ _ from trivial) rfl ?_
        exact hJ112 q95.2
  refine V_aload_n (pc := 0) dX12_sips_0 rfl rfl ?_
  refine V_iload_n (pc := 1) dX12_sips_1 rfl rfl ?_
  refine V_iload_n (pc := 2) dX12_sips_2 rfl rfl ?_
  refine V_iload_n (pc := 3) dX12_sips_3 rfl rfl ?_
  refine V_iload (pc := 4) dX12_sips_4 rfl ?_
  refine V_callVv (pc := 6) (As := [.int p1, .int p2, .int p3, .int p4]) (rest := []) (c_X12_looks w p1 p2 p3 p4 σ) cw_X12_303 rfl rfl dX12_sips_6 kc_171 rfl ⟨Nat.le_of_ble_eq_true rfl, Nat.le_of_ble_eq_true rfl⟩ rfl rfl (Nat.le_of_ble_eq_true rfl) (Nat.le_of_ble_eq_true rfl) (Nat.le_of_ble_eq_true rfl) rfl (fun q6 => ?_)
  refine V_aload_n (pc := 9) dX12_sips_9 rfl rfl ?_
  refine V_callVi (pc := 10) (As := []) (rest := []) (c_X12_sipBinds w n  q6.2) cw_X12_312 rfl rfl dX12_sips_10 kc_171 rfl ⟨Nat.le_of_ble_eq_true rfl, Nat.le_of_ble_eq_true rfl⟩ rfl rfl (Nat.le_of_ble_eq_true rfl) (Nat.le_of_ble_eq_true rfl) (Nat.le_of_ble_eq_true rfl) rfl (fun q10 => ?_)
  refine V_istore (pc := 13) (vs' := [some (.ref (wB w + 171)), some (.int p1), some (.int p2), some (.int p3), some (.int p4), some (.int q10.1), none, none, none, none]) dX12_sips_13 (Nat.le_of_ble_eq_true rfl) (Nat.le_of_ble_eq_true rfl) rfl ?_
  refine V_iload (pc := 15) dX12_sips_15 rfl ?_
  refine V_if_ne (pc := 17) (tgt := 22) dX12_sips_17 (by decide) ?_ ?_
  · refine V_aload_n (pc := 22) dX12_sips_22 rfl rfl ?_
    refine V_iload_n (pc := 23) dX12_sips_23 rfl rfl ?_
    refine V_iload_n (pc := 24) dX12_sips_24 rfl rfl ?_
    refine V_callVpi (pc := 25) (As := [.int p1, .int p2]) (rest := []) (c_X12_bondOf w p1 p2 q10.2) cw_X12_315 rfl rfl dX12_sips_25 kc_171 rfl ⟨Nat.le_of_ble_eq_true rfl, Nat.le_of_ble_eq_true rfl⟩ rfl rfl (Nat.le_of_ble_eq_true rfl) (Nat.le_of_ble_eq_true rfl) (Nat.le_of_ble_eq_true rfl) rfl (fun q25 => ?_)
    refine V_istore (pc := 28) (vs' := [some (.ref (wB w + 171)), some (.int p1), some (.int p2), some (.int p3), some (.int p4), some (.int q10.1), some (.int q25), none, none, none]) dX12_sips_28 (Nat.le_of_ble_eq_true rfl) (Nat.le_of_ble_eq_true rfl) rfl ?_
    refine V_iload (pc := 30) dX12_sips_30 rfl ?_
    refine V_if_le (pc := 32) (tgt := 52) dX12_sips_32 (by decide) ?_ ?_
    · refine V_iconst (pc := 52) (v := (0 : Int32)) dX12_sips_52 rfl ?_
      refine V_sub (vs' := [some (.ref (wB w + 171)), some (.int p1), some (.int p2), none, none, some (.int q10.1), some (.int q25), none, none, none]) (show vless _ _ from ⟨rfl, ⟨rfl, ⟨rfl, ⟨rfl, ⟨rfl, trivial⟩⟩⟩⟩⟩) rfl ?_
      exact hJ53 q10.1 q25 (0 : Int32) q10.2
    · refine V_aload_n (pc := 35) dX12_sips_35 rfl rfl ?_
      refine V_getr (pc := 36) (t := 172) fk_X12_13 rfl dX12_sips_36 kc_171 rfl ?_
      refine V_sipush (pc := 39) (v := (170 : Int32)) dX12_sips_39 rfl ?_
      refine V_iload_n (pc := 42) dX12_sips_42 rfl rfl ?_
      refine V_iload_n (pc := 43) dX12_sips_43 rfl rfl ?_
      refine V_callSpi (pc := 44) (As := [.int p1, .int p2]) (rest := [.int (170 : Int32), .ref (wB w + 172)]) (c_X12_both w p1 p2 q10.2) cs_X12_66 rfl rfl dX12_sips_44 ⟨Nat.le_of_ble_eq_true rfl, Nat.le_of_ble_eq_true rfl⟩ rfl rfl (Nat.le_of_ble_eq_true rfl) (Nat.le_of_ble_eq_true rfl) (Nat.le_of_ble_eq_true rfl) rfl (fun q44 => ?_)
      refine V_iadd (pc := 47) dX12_sips_47 ?_
      refine V_iald (pc := 48) (n := 2172) dX12_sips_48 kc_172 lc_172 ?_
      refine V_goto (pc := 49) (tgt := 53) dX12_sips_49 (by decide) ?_
      refine V_sub (vs' := [some (.ref (wB w + 171)), some (.int p1), some (.int p2), none, none, some (.int q10.1), some (.int q25), none, none, none]) (show vless _ _ from ⟨rfl, ⟨rfl, ⟨rfl, ⟨rfl, ⟨rfl, trivial⟩⟩⟩⟩⟩) rfl ?_
      exact hJ53 q10.1 q25 (q10.2 172 (ix ((170 : Int32) + q44))) q10.2
  · refine V_iconst (pc := 20) (v := (0 : Int32)) dX12_sips_20 rfl ?_
    exact V_iretz (pc := 21) dX12_sips_21 rfl rfl (hk := fun h => h)
def J_X12_shares_71 (n : Nat) (v1 : Int32) (v2 : Int32) (v4 : Int32) (v3 : Int32) (v5 : Int32) (σ : MS) : Option ((Int32 × Int32 × MS) ⊕ ((Int32 × Int32 × MS) ⊕ (Int32 × MS))) := some (.inl (v3, (v5 + (1 : Int32)), σ))
def J_X12_shares_69 (n : Nat) (v1 : Int32) (v2 : Int32) (v4 : Int32) (v5 : Int32) (t0 : Int32) (t1 : Int32) (σ : MS) : Option ((Int32 × Int32 × MS) ⊕ ((Int32 × Int32 × MS) ⊕ (Int32 × MS))) := J_X12_shares_71 n v1 v2 v4 (t1 + t0) v5 σ
def L_X12_shares_20 (n : Nat) (v1 : Int32) (v2 : Int32) (v4 : Int32) (σ : MS) (a20 : Int32 × Int32 × MS) : Option ((Int32 × Int32 × MS) ⊕ ((Int32 × Int32 × MS) ⊕ (Int32 × MS))) := ((f_X12_people  a20.2.2).bind (fun q23 => (if q23 ≤ a20.2.1 then (some (.inl (a20.1, (v4 + (1 : Int32)), a20.2.2))).map Sum.inr else ((f_X12_has v1 v4 a20.2.2).bind (fun q32 => (if q32 = 0 then J_X12_shares_71 n v1 v2 v4 a20.1 a20.2.1 a20.2.2 else ((f_X12_has v1 a20.2.1 a20.2.2).bind (fun q41 => (if q41 = 0 then J_X12_shares_71 n v1 v2 v4 a20.1 a20.2.1 a20.2.2 else ((f_J6_bitCount_0f7a4 v1 a20.2.2).bind (fun q55 => ((f_X12_sips n v4 a20.2.1 v2 q55 a20.2.2).bind (fun q58 => (if q58.1 = 0 then J_X12_shares_69 n v1 v2 v4 a20.2.1 (0 : Int32) a20.1 q58.2 else J_X12_shares_69 n v1 v2 v4 a20.2.1 (1 : Int32) a20.1 q58.2))))))))))))))
def L_X12_shares_5 (n : Nat) (v1 : Int32) (v2 : Int32) (σ : MS) (a5 : Int32 × Int32 × MS) : Option ((Int32 × Int32 × MS) ⊕ (Int32 × MS)) := ((f_X12_people  a5.2.2).bind (fun q8 => (if q8 ≤ a5.2.1 then (some (a5.1, a5.2.2)).map Sum.inr else itr (L_X12_shares_20 n v1 v2 a5.2.1 σ) n (a5.1, (a5.2.1 + (1 : Int32)), a5.2.2))))
def f_X12_shares (n : Nat) (p1 : Int32) (p2 : Int32) (σ : MS) : Option (Int32 × MS) := itr (L_X12_shares_5 n p1 p2 σ) n ((0 : Int32), (0 : Int32), σ)
set_option maxRecDepth 20000 in
set_option maxHeartbeats 2000000 in
theorem c_X12_shares (w : TG) (n : Nat) (p1 : Int32) (p2 : Int32) (σ : MS) : MC m_X12_shares w [.ref (wB w + 171), .int p1, .int p2] σ (f_X12_shares n p1 p2 σ) := by
  refine V_meth (by decide +kernel) (Nat.le_of_ble_eq_true rfl) (by intro v hv; simp only [List.mem_cons, List.not_mem_nil, or_false] at hv; rcases hv with rfl | rfl | rfl <;> rfl) (fun g x => ?_)
  show VV m_X12_shares w g 0 0 (QM m_X12_shares w g x) (fun b : Int32 × MS => b = x) 0 [some (.ref (wB w + 171)), some (.int p1), some (.int p2), none, none, none] [] σ (f_X12_shares n p1 p2 σ)
  have hL5 : ∀  (n0 : Nat) (a : Int32 × Int32 × MS), VV m_X12_shares w g 0 0 (QM m_X12_shares w g x) (fun b : Int32 × MS => b = x) 5 [some (.ref (wB w + 171)), some (.int p1), some (.int p2), some (.int a.1), some (.int a.2.1), none] [] a.2.2 (itr (L_X12_shares_5 n p1 p2 σ) n0 a) := by
    refine V_itr (vf := fun a : Int32 × Int32 × MS => [some (.ref (wB w + 171)), some (.int p1), some (.int p2), some (.int a.1), some (.int a.2.1), none]) (sf := fun a : Int32 × Int32 × MS => a.2.2) (fun κ5 b5 r5 a5 => ?_)
    show VV m_X12_shares w g 0 0 (QM m_X12_shares w g x) κ5 5 [some (.ref (wB w + 171)), some (.int p1), some (.int p2), some (.int a5.1), some (.int a5.2.1), none] [] a5.2.2 (L_X12_shares_5 n p1 p2 σ a5)
    have hL20 : ∀ (v4 : Int32) (n0 : Nat) (a : Int32 × Int32 × MS), VV m_X12_shares w g 0 0 (QM m_X12_shares w g x) κ5 20 [some (.ref (wB w + 171)), some (.int p1), some (.int p2), some (.int a.1), some (.int v4), some (.int a.2.1)] [] a.2.2 (itr (L_X12_shares_20 n p1 p2 v4 σ) n0 a) := by
      intro v4
      refine V_itr (vf := fun a : Int32 × Int32 × MS => [some (.ref (wB w + 171)), some (.int p1), some (.int p2), some (.int a.1), some (.int v4), some (.int a.2.1)]) (sf := fun a : Int32 × Int32 × MS => a.2.2) (fun κ20 b20 r20 a20 => ?_)
      show VV m_X12_shares w g 0 0 (QM m_X12_shares w g x) κ20 20 [some (.ref (wB w + 171)), some (.int p1), some (.int p2), some (.int a20.1), some (.int v4), some (.int a20.2.1)] [] a20.2.2 (L_X12_shares_20 n p1 p2 v4 σ a20)
      have hJ71 : ∀ (v3 : Int32) (v5 : Int32) (σ : MS), VV m_X12_shares w g 0 0 (QM m_X12_shares w g x) κ20 71 [some (.ref (wB w + 171)), some (.int p1), some (.int p2), some (.int v3), some (.int v4), some (.int v5)] [] σ (J_X12_shares_71 n p1 p2 v4 v3 v5 σ) := by
        intro v3 v5 σ
        refine V_iinc (pc := 71) (v := (v5 + (1 : Int32))) (vs' := [some (.ref (wB w + 171)), some (.int p1), some (.int p2), some (.int v3), some (.int v4), some (.int (v5 + (1 : Int32)))]) dX12_shares_71 (Nat.le_of_ble_eq_true rfl) rfl rfl rfl ?_
        refine V_goto (pc := 74) (tgt := 20) dX12_shares_74 (by decide) ?_
        exact V_back (b20 (v3, (v5 + (1 : Int32)), σ))
      have hJ69 : ∀ (v5 : Int32) (t0 : Int32) (t1 : Int32) (σ : MS), VV m_X12_shares w g 0 0 (QM m_X12_shares w g x) κ20 69 [some (.ref (wB w + 171)), some (.int p1), some (.int p2), none, some (.int v4), some (.int v5)] [.int t0, .int t1] σ (J_X12_shares_69 n p1 p2 v4 v5 t0 t1 σ) := by
        intro v5 t0 t1 σ
        refine V_iadd (pc := 69) dX12_shares_69 ?_
        refine V_istore_n (pc := 70) (vs' := [some (.ref (wB w + 171)), some (.int p1), some (.int p2), some (.int (t1 + t0)), some (.int v4), some (.int v5)]) dX12_shares_70 rfl (Nat.le_of_ble_eq_true rfl) (Nat.le_of_ble_eq_true rfl) rfl ?_
        exact hJ71 (t1 + t0) v5 σ
      refine V_iload (pc := 20) dX12_shares_20 rfl ?_
      refine V_aload_n (pc := 22) dX12_shares_22 rfl rfl ?_
      refine V_callVpi (pc := 23) (As := []) (rest := [.int a20.2.1]) (c_X12_people w  a20.2.2) cw_X12_58 rfl rfl dX12_shares_23 kc_171 rfl ⟨Nat.le_of_ble_eq_true rfl, Nat.le_of_ble_eq_true rfl⟩ rfl rfl (Nat.le_of_ble_eq_true rfl) (Nat.le_of_ble_eq_true rfl) (Nat.le_of_ble_eq_true rfl) rfl (fun q23 => ?_)
      refine V_icmp_ge (pc := 26) (tgt := 77) dX12_shares_26 (by decide) ?_ ?_
      · refine V_exit r20 ?_
        refine V_iinc (pc := 77) (v := (v4 + (1 : Int32))) (vs' := [some (.ref (wB w + 171)), some (.int p1), some (.int p2), some (.int a20.1), some (.int (v4 + (1 : Int32))), some (.int a20.2.1)]) dX12_shares_77 (Nat.le_of_ble_eq_true rfl) rfl rfl rfl ?_
        refine V_goto (pc := 80) (tgt := 5) dX12_shares_80 (by decide) ?_
        refine V_sub (vs' := [some (.ref (wB w + 171)), some (.int p1), some (.int p2), some (.int a20.1), some (.int (v4 + (1 : Int32))), none]) (show vless _ _ from ⟨rfl, ⟨rfl, ⟨rfl, ⟨rfl, ⟨rfl, trivial⟩⟩⟩⟩⟩) rfl ?_
        exact V_back (b5 (a20.1, (v4 + (1 : Int32)), a20.2.2))
      · refine V_iload_n (pc := 29) dX12_shares_29 rfl rfl ?_
        refine V_iload (pc := 30) dX12_shares_30 rfl ?_
        refine V_callSpi (pc := 32) (As := [.int p1, .int v4]) (rest := []) (c_X12_has w p1 v4 a20.2.2) cs_X12_76 rfl rfl dX12_shares_32 ⟨Nat.le_of_ble_eq_true rfl, Nat.le_of_ble_eq_true rfl⟩ rfl rfl (Nat.le_of_ble_eq_true rfl) (Nat.le_of_ble_eq_true rfl) (Nat.le_of_ble_eq_true rfl) rfl (fun q32 => ?_)
        refine V_if_eq (pc := 35) (tgt := 71) dX12_shares_35 (by decide) ?_ ?_
        · exact hJ71 a20.1 a20.2.1 a20.2.2
        · refine V_iload_n (pc := 38) dX12_shares_38 rfl rfl ?_
          refine V_iload (pc := 39) dX12_shares_39 rfl ?_
          refine V_callSpi (pc := 41) (As := [.int p1, .int a20.2.1]) (rest := []) (c_X12_has w p1 a20.2.1 a20.2.2) cs_X12_76 rfl rfl dX12_shares_41 ⟨Nat.le_of_ble_eq_true rfl, Nat.le_of_ble_eq_true rfl⟩ rfl rfl (Nat.le_of_ble_eq_true rfl) (Nat.le_of_ble_eq_true rfl) (Nat.le_of_ble_eq_true rfl) rfl (fun q41 => ?_)
          refine V_if_eq (pc := 44) (tgt := 71) dX12_shares_44 (by decide) ?_ ?_
          · exact hJ71 a20.1 a20.2.1 a20.2.2
          · refine V_iload_n (pc := 47) dX12_shares_47 rfl rfl ?_
            refine V_aload_n (pc := 48) dX12_shares_48 rfl rfl ?_
            refine V_iload (pc := 49) dX12_shares_49 rfl ?_
            refine V_iload (pc := 51) dX12_shares_51 rfl ?_
            refine V_iload_n (pc := 53) dX12_shares_53 rfl rfl ?_
            refine V_iload_n (pc := 54) dX12_shares_54 rfl rfl ?_
            refine V_callSpi (pc := 55) (As := [.int p1]) (rest := [.int p2, .int a20.2.1, .int v4, .ref (wB w + 171), .int a20.1]) (c_J6_bitCount_0f7a4 w p1 a20.2.2) cs_X12_318 rfl rfl dX12_shares_55 ⟨Nat.le_of_ble_eq_true rfl, Nat.le_of_ble_eq_true rfl⟩ rfl rfl (Nat.le_of_ble_eq_true rfl) (Nat.le_of_ble_eq_true rfl) (Nat.le_of_ble_eq_true rfl) rfl (fun q55 => ?_)
            refine V_callVi (pc := 58) (As := [.int v4, .int a20.2.1, .int p2, .int q55]) (rest := [.int a20.1]) (c_X12_sips w n v4 a20.2.1 p2 q55 a20.2.2) cw_X12_323 rfl rfl dX12_shares_58 kc_171 rfl ⟨Nat.le_of_ble_eq_true rfl, Nat.le_of_ble_eq_true rfl⟩ rfl rfl (Nat.le_of_ble_eq_true rfl) (Nat.le_of_ble_eq_true rfl) (Nat.le_of_ble_eq_true rfl) rfl (fun q58 => ?_)
            refine V_if_eq (pc := 61) (tgt := 68) dX12_shares_61 (by decide) ?_ ?_
            · refine V_iconst (pc := 68) (v := (0 : Int32)) dX12_shares_68 rfl ?_
              refine V_sub (vs' := [some (.ref (wB w + 171)), some (.int p1), some (.int p2), none, some (.int v4), some (.int a20.2.1)]) (show vless _ _ from ⟨rfl, ⟨rfl, ⟨rfl, ⟨rfl, ⟨rfl, trivial⟩⟩⟩⟩⟩) rfl ?_
              exact hJ69 a20.2.1 (0 : Int32) a20.1 q58.2
            · refine V_iconst (pc := 64) (v := (1 : Int32)) dX12_shares_64 rfl ?_
              refine V_goto (pc := 65) (tgt := 69) dX12_shares_65 (by decide) ?_
              refine V_sub (vs' := [some (.ref (wB w + 171)), some (.int p1), some (.int p2), none, some (.int v4), some (.int a20.2.1)]) (show vless _ _ from ⟨rfl, ⟨rfl, ⟨rfl, ⟨rfl, ⟨rfl, trivial⟩⟩⟩⟩⟩) rfl ?_
              exact hJ69 a20.2.1 (1 : Int32) a20.1 q58.2
    refine V_iload (pc := 5) dX12_shares_5 rfl ?_
    refine V_aload_n (pc := 7) dX12_shares_7 rfl rfl ?_
    refine V_callVpi (pc := 8) (As := []) (rest := [.int a5.2.1]) (c_X12_people w  a5.2.2) cw_X12_58 rfl rfl dX12_shares_8 kc_171 rfl ⟨Nat.le_of_ble_eq_true rfl, Nat.le_of_ble_eq_true rfl⟩ rfl rfl (Nat.le_of_ble_eq_true rfl) (Nat.le_of_ble_eq_true rfl) (Nat.le_of_ble_eq_true rfl) rfl (fun q8 => ?_)
    refine V_icmp_ge (pc := 11) (tgt := 83) dX12_shares_11 (by decide) ?_ ?_
    · refine V_exit r5 ?_
      refine V_iload_n (pc := 83) dX12_shares_83 rfl rfl ?_
      exact V_ireti (pc := 84) dX12_shares_84 rfl (hk := fun h => h)
    · refine V_iload (pc := 14) dX12_shares_14 rfl ?_
      refine V_iconst (pc := 16) (v := (1 : Int32)) dX12_shares_16 rfl ?_
      refine V_iadd (pc := 17) dX12_shares_17 ?_
      refine V_istore (pc := 18) (vs' := [some (.ref (wB w + 171)), some (.int p1), some (.int p2), some (.int a5.1), some (.int a5.2.1), some (.int (a5.2.1 + (1 : Int32)))]) dX12_shares_18 (Nat.le_of_ble_eq_true rfl) (Nat.le_of_ble_eq_true rfl) rfl ?_
      exact hL20 a5.2.1 n (a5.1, (a5.2.1 + (1 : Int32)), a5.2.2)
  refine V_iconst (pc := 0) (v := (0 : Int32)) dX12_shares_0 rfl ?_
  refine V_istore_n (pc := 1) (vs' := [some (.ref (wB w + 171)), some (.int p1), some (.int p2), some (.int (0 : Int32)), none, none]) dX12_shares_1 rfl (Nat.le_of_ble_eq_true rfl) (Nat.le_of_ble_eq_true rfl) rfl ?_
  refine V_iconst (pc := 2) (v := (0 : Int32)) dX12_shares_2 rfl ?_
  refine V_istore (pc := 3) (vs' := [some (.ref (wB w + 171)), some (.int p1), some (.int p2), some (.int (0 : Int32)), some (.int (0 : Int32)), none]) dX12_shares_3 (Nat.le_of_ble_eq_true rfl) (Nat.le_of_ble_eq_true rfl) rfl ?_
  exact hL5 n ((0 : Int32), (0 : Int32), σ)
def J_X12_noCup_27 (t0 : Int32) (σ : MS) : Option (Int32) := (if t0 = 0 ∨ t0 = 1 then some t0 else none)
def J_X12_noCup_22  (σ : MS) : Option (Int32) := J_X12_noCup_27 (1 : Int32) σ
def f_X12_noCup (p1 : Int32) (p2 : Int32) (σ : MS) : Option (Int32) := ((f_X12_everybody  σ).bind (fun q2 => ((f_J6_bitCount_0f7a4 (p1 &&& q2) σ).bind (fun q6 => (if q6 < (2 : Int32) then J_X12_noCup_22  σ else ((f_X12_in p2 (0 : Int32) (3 : Int32) σ).bind (fun q16 => (if q16 = 0 then J_X12_noCup_22  σ else J_X12_noCup_27 (0 : Int32) σ))))))))
set_option maxRecDepth 20000 in
set_option maxHeartbeats 2000000 in
theorem c_X12_noCup (w : TG) (p1 : Int32) (p2 : Int32) (σ : MS) : MC m_X12_noCup w [.ref (wB w + 171), .int p1, .int p2] σ ((f_X12_noCup p1 p2 σ).map (fun r => (r, σ))) := by
  refine V_methp (by decide +kernel) (Nat.le_of_ble_eq_true rfl) (by intro v hv; simp only [List.mem_cons, List.not_mem_nil, or_false] at hv; rcases hv with rfl | rfl | rfl <;> rfl) (fun g x => ?_)
  show VV m_X12_noCup w g 0 0 (QM m_X12_noCup w g x) (fun b : Int32 => (b, σ) = x) 0 [some (.ref (wB w + 171)), some (.int p1), some (.int p2)] [] σ (f_X12_noCup p1 p2 σ)
  have hJ27 : ∀ (t0 : Int32), VV m_X12_noCup w g 0 0 (QM m_X12_noCup w g x) (fun b : Int32 => (b, σ) = x) 27 [none, none, none] [.int t0] σ (J_X12_noCup_27 t0 σ) := by
    intro t0
    exact V_iretZ (pc := 27) dX12_noCup_27 rfl (hk := fun h => h)
  have hJ22 : ∀ (_ : Unit), VV m_X12_noCup w g 0 0 (QM m_X12_noCup w g x) (fun b : Int32 => (b, σ) = x) 22 [none, none, none] [] σ (J_X12_noCup_22  σ) := by
    intro _
    refine V_iconst (pc := 22) (v := (1 : Int32)) dX12_noCup_22 rfl ?_
    refine V_goto (pc := 23) (tgt := 27) dX12_noCup_23 (by decide) ?_
    exact hJ27 (1 : Int32)
  refine V_iload_n (pc := 0) dX12_noCup_0 rfl rfl ?_
  refine V_aload_n (pc := 1) dX12_noCup_1 rfl rfl ?_
  refine V_callVpi (pc := 2) (As := []) (rest := [.int p1]) (c_X12_everybody w  σ) cw_X12_327 rfl rfl dX12_noCup_2 kc_171 rfl ⟨Nat.le_of_ble_eq_true rfl, Nat.le_of_ble_eq_true rfl⟩ rfl rfl (Nat.le_of_ble_eq_true rfl) (Nat.le_of_ble_eq_true rfl) (Nat.le_of_ble_eq_true rfl) rfl (fun q2 => ?_)
  refine V_iand (pc := 5) dX12_noCup_5 ?_
  refine V_callSpi (pc := 6) (As := [.int (p1 &&& q2)]) (rest := []) (c_J6_bitCount_0f7a4 w (p1 &&& q2) σ) cs_X12_318 rfl rfl dX12_noCup_6 ⟨Nat.le_of_ble_eq_true rfl, Nat.le_of_ble_eq_true rfl⟩ rfl rfl (Nat.le_of_ble_eq_true rfl) (Nat.le_of_ble_eq_true rfl) (Nat.le_of_ble_eq_true rfl) rfl (fun q6 => ?_)
  refine V_iconst (pc := 9) (v := (2 : Int32)) dX12_noCup_9 rfl ?_
  refine V_icmp_lt (pc := 10) (tgt := 22) dX12_noCup_10 (by decide) ?_ ?_
  · refine V_sub (vs' := [none, none, none]) (show vless _ _ from trivial) rfl ?_
    exact hJ22 ()
  · refine V_iload_n (pc := 13) dX12_noCup_13 rfl rfl ?_
    refine V_iconst (pc := 14) (v := (0 : Int32)) dX12_noCup_14 rfl ?_
    refine V_iconst (pc := 15) (v := (3 : Int32)) dX12_noCup_15 rfl ?_
    refine V_callSpi (pc := 16) (As := [.int p2, .int (0 : Int32), .int (3 : Int32)]) (rest := []) (c_X12_in w p2 (0 : Int32) (3 : Int32) σ) cs_X12_79 rfl rfl dX12_noCup_16 ⟨Nat.le_of_ble_eq_true rfl, Nat.le_of_ble_eq_true rfl⟩ rfl rfl (Nat.le_of_ble_eq_true rfl) (Nat.le_of_ble_eq_true rfl) (Nat.le_of_ble_eq_true rfl) rfl (fun q16 => ?_)
    refine V_if_ne (pc := 19) (tgt := 26) dX12_noCup_19 (by decide) ?_ ?_
    · refine V_iconst (pc := 26) (v := (0 : Int32)) dX12_noCup_26 rfl ?_
      refine V_sub (vs' := [none, none, none]) (show vless _ _ from trivial) rfl ?_
      exact hJ27 (0 : Int32)
    · refine V_sub (vs' := [none, none, none]) (show vless _ _ from trivial) rfl ?_
      exact hJ22 ()
