def m_X12_readFlour : MD := (yX12_readFlour, cX12_readFlour, 5, (some .boolean), 3, 62, 0, 0)
def m_X12_readBond : MD := (yX12_readBond, cX12_readBond, 5, (some .boolean), 6, 246, 0, 0)
def m_X12_readNumber : MD := (yX12_readNumber, cX12_readNumber, 5, (some .boolean), 3, 65, 0, 0)
def m_X12_readHouseLine : MD := (yX12_readHouseLine, cX12_readHouseLine, 1, (some .boolean), 7, 270, 0, 0)
def m_X12_emits : MD := (yX12_emits, cX12_emits, 3, none, 0, 0, 0, 0)
def m_X12_readPart : MD := (yX12_readPart, cX12_readPart, 2, (some .boolean), 5, 223, 0, 0)
def m_X12_readSum : MD := (yX12_readSum, cX12_readSum, 1, (some .boolean), 6, 244, 0, 0)
def m_X12_readTag : MD := (yX12_readTag, cX12_readTag, 2, (some .boolean), 5, 223, 0, 0)
def mr_X12_readAtom (d : Nat) : MD := (yX12_readAtom, cX12_readAtom, 2, (some .boolean), 7 + d, 264 + 21 * d, 0, 0)
def m_X12_readAtom : MD := mr_X12_readAtom 30
def mr_X12_readAllOf (d : Nat) : MD := (yX12_readAllOf, cX12_readAllOf, 1, (some .boolean), 7 + d, 264 + 21 * d, 0, 0)
def m_X12_readAllOf : MD := mr_X12_readAllOf 30
def mr_X12_readCond (d : Nat) : MD := (yX12_readCond, cX12_readCond, 1, (some .boolean), 7 + d, 264 + 21 * d, 0, 0)
def m_X12_readCond : MD := mr_X12_readCond 30
abbrev RT_gr : Type := (MS → Option (Int32 × MS)) × (MS → Option (Int32 × MS)) × (MS → Option (Int32 × MS))
def m_X12_readLawLine : MD := (yX12_readLawLine, cX12_readLawLine, 3, (some .boolean), 38, 914, 0, 0)
def m_X12_readLine : MD := (yX12_readLine, cX12_readLine, 3, (some .boolean), 39, 936, 0, 0)
def m_X12_readAll : MD := (yX12_readAll, cX12_readAll, 3, (some .int), 40, 958, 0, 0)
def m_X12_house : MD := (yX12_house, cX12_house, 3, (some .int), 41, 980, 0, 0)
def m_X12_law : MD := (yX12_law, cX12_law, 3, (some .int), 41, 980, 0, 0)
def m_X12_factOf : MD := (yX12_factOf, cX12_factOf, 3, (some .int), 3, 65, 0, 0)
theorem cs_X12_133 : csp RX12 133 m_X12_noRoom 1 := ⟨goodIn_of _ (by decide +kernel), by decide +kernel, by decide +kernel, by decide +kernel⟩
theorem cw_X12_143 : cwp RX12 143 m_X12_binds 4 := ⟨goodIn_of _ (by decide +kernel), by decide +kernel, by decide +kernel, by decide +kernel⟩
theorem cw_X12_139 : cwp RX12 139 m_X12_after 3 := ⟨goodIn_of _ (by decide +kernel), by decide +kernel, by decide +kernel, by decide +kernel⟩
theorem cw_X12_169 : cwp RX12 169 m_X12_readNumber 3 := ⟨goodIn_of _ (by decide +kernel), by decide +kernel, by decide +kernel, by decide +kernel⟩
theorem cw_X12_176 : cwp RX12 176 m_X12_readBond 0 := ⟨goodIn_of _ (by decide +kernel), by decide +kernel, by decide +kernel, by decide +kernel⟩
theorem cw_X12_165 : cwp RX12 165 m_X12_readFlour 0 := ⟨goodIn_of _ (by decide +kernel), by decide +kernel, by decide +kernel, by decide +kernel⟩
theorem cw_X12_160 : cwp RX12 160 m_X12_readWed 0 := ⟨goodIn_of _ (by decide +kernel), by decide +kernel, by decide +kernel, by decide +kernel⟩
theorem cw_X12_155 : cwp RX12 155 m_X12_readLikes 0 := ⟨goodIn_of _ (by decide +kernel), by decide +kernel, by decide +kernel, by decide +kernel⟩
theorem cw_X12_149 : cwp RX12 149 m_X12_readPerson 0 := ⟨goodIn_of _ (by decide +kernel), by decide +kernel, by decide +kernel, by decide +kernel⟩
theorem fk_X12_181 : fk RX12 181 12 16 := ⟨_, _, _, rfl, in_12, by decide, rfl, by decide, gm (by decide +kernel) (by decide +kernel)⟩
theorem fp_X12_181 : fp RX12 181 12 16 .int := ⟨_, _, _, tyX12, rfl, in_12, by decide, rfl, by decide, gm (by decide +kernel) (by decide +kernel), rfl, by decide +kernel, tyX12_ok, nmX12⟩
theorem cw_X12_184 : cwp RX12 184 m_X12_emits 2 := ⟨goodIn_of _ (by decide +kernel), by decide +kernel, by decide +kernel, by decide +kernel⟩
theorem cw_X12_200 : cwp RX12 200 m_X12_sign 1 := ⟨goodIn_of _ (by decide +kernel), by decide +kernel, by decide +kernel, by decide +kernel⟩
theorem cw_X12_197 : cwp RX12 197 m_X12_readPart 0 := ⟨goodIn_of _ (by decide +kernel), by decide +kernel, by decide +kernel, by decide +kernel⟩
theorem cw_X12_222 : cwp RX12 222 m_X12_readSum 0 := ⟨goodIn_of _ (by decide +kernel), by decide +kernel, by decide +kernel, by decide +kernel⟩
theorem cw_X12_213 : cwp RX12 213 m_X12_passes 1 := ⟨goodIn_of _ (by decide +kernel), by decide +kernel, by decide +kernel, by decide +kernel⟩
theorem cw_X12_219 : cwp RX12 219 m_X12_readTag 0 := ⟨goodIn_of _ (by decide +kernel), by decide +kernel, by decide +kernel, by decide +kernel⟩
theorem fk_X12_205 : fk RX12 205 12 13 := ⟨_, _, _, rfl, in_12, by decide, rfl, by decide, gm (by decide +kernel) (by decide +kernel)⟩
theorem fp_X12_205 : fp RX12 205 12 13 .int := ⟨_, _, _, tyX12, rfl, in_12, by decide, rfl, by decide, gm (by decide +kernel) (by decide +kernel), rfl, by decide +kernel, tyX12_ok, nmX12⟩
theorem cw_X12_216 : cwp RX12 216 m_X12_readAtom 0 := ⟨goodIn_of _ (by decide +kernel), by decide +kernel, by decide +kernel, by decide +kernel⟩
theorem cw_X12_208 : cwp RX12 208 m_X12_readCond 0 := ⟨goodIn_of _ (by decide +kernel), by decide +kernel, by decide +kernel, by decide +kernel⟩
theorem cw_X12_227 : cwp RX12 227 m_X12_readAllOf 0 := ⟨goodIn_of _ (by decide +kernel), by decide +kernel, by decide +kernel, by decide +kernel⟩
theorem cw_X12_243 : cwp RX12 243 m_X12_readLawLine 1 := ⟨goodIn_of _ (by decide +kernel), by decide +kernel, by decide +kernel, by decide +kernel⟩
theorem cw_X12_240 : cwp RX12 240 m_X12_readHouseLine 0 := ⟨goodIn_of _ (by decide +kernel), by decide +kernel, by decide +kernel, by decide +kernel⟩
theorem cw_X12_249 : cwp RX12 249 m_X12_readLine 2 := ⟨goodIn_of _ (by decide +kernel), by decide +kernel, by decide +kernel, by decide +kernel⟩
theorem cw_X12_246 : cwp RX12 246 m_X12_uses 0 := ⟨goodIn_of _ (by decide +kernel), by decide +kernel, by decide +kernel, by decide +kernel⟩
theorem fk_X12_20 : fk RX12 20 12 3 := ⟨_, _, _, rfl, in_12, by decide, rfl, by decide, gm (by decide +kernel) (by decide +kernel)⟩
theorem cw_X12_257 : cwp RX12 257 m_X12_throwsIf 2 := ⟨goodIn_of _ (by decide +kernel), by decide +kernel, by decide +kernel, by decide +kernel⟩
theorem fp_X12_33 : fp RX12 33 12 14 .int := ⟨_, _, _, tyX12, rfl, in_12, by decide, rfl, by decide, gm (by decide +kernel) (by decide +kernel), rfl, by decide +kernel, tyX12_ok, nmX12⟩
theorem cw_X12_253 : cwp RX12 253 m_X12_readAll 1 := ⟨goodIn_of _ (by decide +kernel), by decide +kernel, by decide +kernel, by decide +kernel⟩
theorem fk_X12_260 : fk RX12 260 12 18 := ⟨_, _, _, rfl, in_12, by decide, rfl, by decide, gm (by decide +kernel) (by decide +kernel)⟩
theorem fk_X12_263 : fk RX12 263 12 19 := ⟨_, _, _, rfl, in_12, by decide, rfl, by decide, gm (by decide +kernel) (by decide +kernel)⟩
theorem fk_X12_266 : fk RX12 266 12 20 := ⟨_, _, _, rfl, in_12, by decide, rfl, by decide, gm (by decide +kernel) (by decide +kernel)⟩
theorem fk_X12_269 : fk RX12 269 12 21 := ⟨_, _, _, rfl, in_12, by decide, rfl, by decide, gm (by decide +kernel) (by decide +kernel)⟩
theorem cw_X12_272 : cwp RX12 272 m_X12_likes 2 := ⟨goodIn_of _ (by decide +kernel), by decide +kernel, by decide +kernel, by decide +kernel⟩
theorem cw_X12_274 : cwp RX12 274 m_X12_areWed 2 := ⟨goodIn_of _ (by decide +kernel), by decide +kernel, by decide +kernel, by decide +kernel⟩
def J_X12_readFlour_106 (n : Nat) (v2 : Int32) (σ : MS) : Option (Int32 × MS) := (if v2 = 0 ∨ v2 = 1 then some (v2, σ) else none)
def J_X12_readFlour_95 (n : Nat) (v1 : Int32) (v2 : Int32) (σ : MS) : Option (Int32 × MS) := (if v2 = 0 then J_X12_readFlour_106 n v2 σ else (ltM (mu σ 172 4 v1) (fun s105 => J_X12_readFlour_106 n v2 s105)))
def J_X12_readFlour_87 (n : Nat) (v2 : Int32) (v3 : Int32) (t0 : Int32) (t1 : Int32) (σ : MS) : Option ((Int32 × Int32 × Int32) ⊕ (Int32 × MS)) := some (.inl ((t1 ||| t0), v2, (v3 + (1 : Int32))))
def J_X12_readFlour_73 (n : Nat) (v1 : Int32) (v3 : Int32) (v4 : Int32) (t0 : Int32) (σ : MS) : Option ((Int32 × Int32 × Int32) ⊕ (Int32 × MS)) := (if t0 = 0 then J_X12_readFlour_87 n t0 v3 (0 : Int32) v1 σ else J_X12_readFlour_87 n t0 v3 (shlI (1 : Int32) v4) v1 σ)
def J_X12_readFlour_72 (n : Nat) (v1 : Int32) (v3 : Int32) (v4 : Int32) (σ : MS) : Option ((Int32 × Int32 × Int32) ⊕ (Int32 × MS)) := J_X12_readFlour_73 n v1 v3 v4 (0 : Int32) σ
def L_X12_readFlour_28 (n : Nat)  (σ : MS) (a28 : Int32 × Int32 × Int32) : Option ((Int32 × Int32 × Int32) ⊕ (Int32 × MS)) := (if (σ 171 10) ≤ a28.2.2 then (J_X12_readFlour_95 n a28.1 a28.2.1 σ).map Sum.inr else (if a28.2.1 = 0 then (J_X12_readFlour_95 n a28.1 a28.2.1 σ).map Sum.inr else (if inb a28.2.2 400 then ((f_X12_noRoom ((σ 177 (ix a28.2.2)) - (97 : Int32)) σ).bind (fun q53 => (if q53 = 0 then ((f_X12_has a28.1 ((σ 177 (ix a28.2.2)) - (97 : Int32)) σ).bind (fun q62 => (if q62 = 0 then J_X12_readFlour_73 n a28.1 a28.2.2 ((σ 177 (ix a28.2.2)) - (97 : Int32)) (1 : Int32) σ else J_X12_readFlour_72 n a28.1 a28.2.2 ((σ 177 (ix a28.2.2)) - (97 : Int32)) σ))) else J_X12_readFlour_72 n a28.1 a28.2.2 ((σ 177 (ix a28.2.2)) - (97 : Int32)) σ))) else none)))
def J_X12_readFlour_22 (n : Nat) (v1 : Int32) (t0 : Int32) (σ : MS) : Option (Int32 × MS) := itr (L_X12_readFlour_28 n  σ) n (v1, t0, (σ 171 12))
def f_X12_readFlour (n : Nat)  (σ : MS) : Option (Int32 × MS) := ((f_X12_letters n  σ).bind (fun q1 => (if (q1.2 171 10) ≤ (q1.2 171 12) then J_X12_readFlour_22 n (0 : Int32) (0 : Int32) q1.2 else J_X12_readFlour_22 n (0 : Int32) (1 : Int32) q1.2)))
set_option maxRecDepth 20000 in
set_option maxHeartbeats 2000000 in
theorem c_X12_readFlour (w : TG) (n : Nat)  (σ : MS) : MC m_X12_readFlour w [.ref (wB w + 171)] σ (f_X12_readFlour n  σ) := by
  refine V_meth (by decide +kernel) (Nat.le_of_ble_eq_true rfl) (by intro v hv; simp only [List.mem_cons, List.not_mem_nil, or_false] at hv; subst hv; rfl) (fun g x => ?_)
  show VV m_X12_readFlour w g 0 0 (QM m_X12_readFlour w g x) (fun b : Int32 × MS => b = x) 0 [some (.ref (wB w + 171)), none, none, none, none] [] σ (f_X12_readFlour n  σ)
  have hJ106 : ∀ (v2 : Int32) (σ : MS), VV m_X12_readFlour w g 0 0 (QM m_X12_readFlour w g x) (fun b : Int32 × MS => b = x) 106 [none, none, some (.int v2), none, none] [] σ (J_X12_readFlour_106 n v2 σ) := by
    intro v2 σ
    refine V_iload_n (pc := 106) dX12_readFlour_106 rfl rfl ?_
    exact V_iretZ (pc := 107) dX12_readFlour_107 rfl (hk := fun h => h)
  have hJ95 : ∀ (v1 : Int32) (v2 : Int32) (σ : MS), VV m_X12_readFlour w g 0 0 (QM m_X12_readFlour w g x) (fun b : Int32 × MS => b = x) 95 [some (.ref (wB w + 171)), some (.int v1), some (.int v2), none, none] [] σ (J_X12_readFlour_95 n v1 v2 σ) := by
    intro v1 v2 σ
    refine V_iload_n (pc := 95) dX12_readFlour_95 rfl rfl ?_
    refine V_if_eq (pc := 96) (tgt := 106) dX12_readFlour_96 (by decide) ?_ ?_
    · refine V_sub (vs' := [none, none, some (.int v2), none, none]) (show vless _ _ from ⟨rfl, trivial⟩) rfl ?_
      exact hJ106 v2 σ
    · refine V_aload_n (pc := 99) dX12_readFlour_99 rfl rfl ?_
      refine V_getr (pc := 100) (t := 172) fk_X12_13 rfl dX12_readFlour_100 kc_171 rfl ?_
      refine V_iconst (pc := 103) (v := (4 : Int32)) dX12_readFlour_103 rfl ?_
      refine V_iload_n (pc := 104) dX12_readFlour_104 rfl rfl ?_
      refine V_iastC (pc := 105) (n := 2172) dX12_readFlour_105 kc_172 lc_172 (by decide) (fun s105 => ?_)
      refine V_sub (vs' := [none, none, some (.int v2), none, none]) (show vless _ _ from ⟨rfl, trivial⟩) rfl ?_
      exact hJ106 v2 s105
  have hL28 : ∀ (σ : MS) (n0 : Nat) (a : Int32 × Int32 × Int32), VV m_X12_readFlour w g 0 0 (QM m_X12_readFlour w g x) (fun b : Int32 × MS => b = x) 28 [some (.ref (wB w + 171)), some (.int a.1), some (.int a.2.1), some (.int a.2.2), none] [] σ (itr (L_X12_readFlour_28 n  σ) n0 a) := by
    intro σ
    refine V_itr (vf := fun a : Int32 × Int32 × Int32 => [some (.ref (wB w + 171)), some (.int a.1), some (.int a.2.1), some (.int a.2.2), none]) (sf := fun a : Int32 × Int32 × Int32 => σ) (fun κ28 b28 r28 a28 => ?_)
    show VV m_X12_readFlour w g 0 0 (QM m_X12_readFlour w g x) κ28 28 [some (.ref (wB w + 171)), some (.int a28.1), some (.int a28.2.1), some (.int a28.2.2), none] [] σ (L_X12_readFlour_28 n  σ a28)
    have hJ87 : ∀ (v2 : Int32) (v3 : Int32) (t0 : Int32) (t1 : Int32) (σ : MS), VV m_X12_readFlour w g 0 0 (QM m_X12_readFlour w g x) κ28 87 [some (.ref (wB w + 171)), none, some (.int v2), some (.int v3), none] [.int t0, .int t1] σ (J_X12_readFlour_87 n v2 v3 t0 t1 σ) := by
      intro v2 v3 t0 t1 σ
      refine V_ior (pc := 87) dX12_readFlour_87 ?_
      refine V_istore_n (pc := 88) (vs' := [some (.ref (wB w + 171)), some (.int (t1 ||| t0)), some (.int v2), some (.int v3), none]) dX12_readFlour_88 rfl (Nat.le_of_ble_eq_true rfl) (Nat.le_of_ble_eq_true rfl) rfl ?_
      refine V_iinc (pc := 89) (v := (v3 + (1 : Int32))) (vs' := [some (.ref (wB w + 171)), some (.int (t1 ||| t0)), some (.int v2), some (.int (v3 + (1 : Int32))), none]) dX12_readFlour_89 (Nat.le_of_ble_eq_true rfl) rfl rfl rfl ?_
      refine V_goto (pc := 92) (tgt := 28) dX12_readFlour_92 (by decide) ?_
      exact V_back (b28 ((t1 ||| t0), v2, (v3 + (1 : Int32))))
    have hJ73 : ∀ (v1 : Int32) (v3 : Int32) (v4 : Int32) (t0 : Int32) (σ : MS), VV m_X12_readFlour w g 0 0 (QM m_X12_readFlour w g x) κ28 73 [some (.ref (wB w + 171)), some (.int v1), none, some (.int v3), some (.int v4)] [.int t0] σ (J_X12_readFlour_73 n v1 v3 v4 t0 σ) := by
      intro v1 v3 v4 t0 σ
      refine V_istore_n (pc := 73) (vs' := [some (.ref (wB w + 171)), some (.int v1), some (.int t0), some (.int v3), some (.int v4)]) dX12_readFlour_73 rfl (Nat.le_of_ble_eq_true rfl) (Nat.le_of_ble_eq_true rfl) rfl ?_
      refine V_iload_n (pc := 74) dX12_readFlour_74 rfl rfl ?_
      refine V_iload_n (pc := 75) dX12_readFlour_75 rfl rfl ?_
      refine V_if_eq (pc := 76) (tgt := 86) dX12_readFlour_76 (by decide) ?_ ?_
      · refine V_iconst (pc := 86) (v := (0 : Int32)) dX12_readFlour_86 rfl ?_
        refine V_sub (vs' := [some (.ref (wB w + 171)), none, some (.int t0), some (.int v3), none]) (show vless _ _ from ⟨rfl, ⟨rfl, ⟨rfl, trivial⟩⟩⟩) rfl ?_
        exact hJ87 t0 v3 (0 : Int32) v1 σ
      · refine V_iconst (pc := 79) (v := (1 : Int32)) dX12_readFlour_79 rfl ?_
        refine V_iload (pc := 80) dX12_readFlour_80 rfl ?_
        refine V_ishl (pc := 82) dX12_readFlour_82 ?_
        refine V_goto (pc := 83) (tgt := 87) dX12_readFlour_83 (by decide) ?_
        refine V_sub (vs' := [some (.ref (wB w + 171)), none, some (.int t0), some (.int v3), none]) (show vless _ _ from ⟨rfl, ⟨rfl, ⟨rfl, trivial⟩⟩⟩) rfl ?_
        exact hJ87 t0 v3 (shlI (1 : Int32) v4) v1 σ
    have hJ72 : ∀ (v1 : Int32) (v3 : Int32) (v4 : Int32) (σ : MS), VV m_X12_readFlour w g 0 0 (QM m_X12_readFlour w g x) κ28 72 [some (.ref (wB w + 171)), some (.int v1), none, some (.int v3), some (.int v4)] [] σ (J_X12_readFlour_72 n v1 v3 v4 σ) := by
      intro v1 v3 v4 σ
      refine V_iconst (pc := 72) (v := (0 : Int32)) dX12_readFlour_72 rfl ?_
      exact hJ73 v1 v3 v4 (0 : Int32) σ
    refine V_iload_n (pc := 28) dX12_readFlour_28 rfl rfl ?_
    refine V_aload_n (pc := 29) dX12_readFlour_29 rfl rfl ?_
    refine V_geti (pc := 30) fk_X12_87 rfl dX12_readFlour_30 kc_171 rfl ?_
    refine V_icmp_ge (pc := 33) (tgt := 95) dX12_readFlour_33 (by decide) ?_ ?_
    · refine V_exit r28 ?_
      refine V_sub (vs' := [some (.ref (wB w + 171)), some (.int a28.1), some (.int a28.2.1), none, none]) (show vless _ _ from ⟨rfl, ⟨rfl, ⟨rfl, trivial⟩⟩⟩) rfl ?_
      exact hJ95 a28.1 a28.2.1 σ
    · refine V_iload_n (pc := 36) dX12_readFlour_36 rfl rfl ?_
      refine V_if_eq (pc := 37) (tgt := 95) dX12_readFlour_37 (by decide) ?_ ?_
      · refine V_exit r28 ?_
        refine V_sub (vs' := [some (.ref (wB w + 171)), some (.int a28.1), some (.int a28.2.1), none, none]) (show vless _ _ from ⟨rfl, ⟨rfl, ⟨rfl, trivial⟩⟩⟩) rfl ?_
        exact hJ95 a28.1 a28.2.1 σ
      · refine V_aload_n (pc := 40) dX12_readFlour_40 rfl rfl ?_
        refine V_getr (pc := 41) (t := 177) fk_X12_29 rfl dX12_readFlour_41 kc_171 rfl ?_
        refine V_iload_n (pc := 44) dX12_readFlour_44 rfl rfl ?_
        refine V_bald (pc := 45) (n := 400) dX12_readFlour_45 kc_177 lc_177 ?_
        refine V_bipush (pc := 46) (v := (97 : Int32)) dX12_readFlour_46 rfl ?_
        refine V_isub (pc := 48) dX12_readFlour_48 ?_
        refine V_istore (pc := 49) (vs' := [some (.ref (wB w + 171)), some (.int a28.1), some (.int a28.2.1), some (.int a28.2.2), some (.int ((σ 177 (ix a28.2.2)) - (97 : Int32)))]) dX12_readFlour_49 (Nat.le_of_ble_eq_true rfl) (Nat.le_of_ble_eq_true rfl) rfl ?_
        refine V_iload (pc := 51) dX12_readFlour_51 rfl ?_
        refine V_callSpi (pc := 53) (As := [.int ((σ 177 (ix a28.2.2)) - (97 : Int32))]) (rest := []) (c_X12_noRoom w ((σ 177 (ix a28.2.2)) - (97 : Int32)) σ) cs_X12_133 rfl rfl dX12_readFlour_53 ⟨Nat.le_of_ble_eq_true rfl, Nat.le_of_ble_eq_true rfl⟩ rfl rfl (Nat.le_of_ble_eq_true rfl) (Nat.le_of_ble_eq_true rfl) (Nat.le_of_ble_eq_true rfl) rfl (fun q53 => ?_)
        refine V_if_ne (pc := 56) (tgt := 72) dX12_readFlour_56 (by decide) ?_ ?_
        · refine V_sub (vs' := [some (.ref (wB w + 171)), some (.int a28.1), none, some (.int a28.2.2), some (.int ((σ 177 (ix a28.2.2)) - (97 : Int32)))]) (show vless _ _ from ⟨rfl, ⟨rfl, ⟨rfl, ⟨rfl, trivial⟩⟩⟩⟩) rfl ?_
          exact hJ72 a28.1 a28.2.2 ((σ 177 (ix a28.2.2)) - (97 : Int32)) σ
        · refine V_iload_n (pc := 59) dX12_readFlour_59 rfl rfl ?_
          refine V_iload (pc := 60) dX12_readFlour_60 rfl ?_
          refine V_callSpi (pc := 62) (As := [.int a28.1, .int ((σ 177 (ix a28.2.2)) - (97 : Int32))]) (rest := []) (c_X12_has w a28.1 ((σ 177 (ix a28.2.2)) - (97 : Int32)) σ) cs_X12_76 rfl rfl dX12_readFlour_62 ⟨Nat.le_of_ble_eq_true rfl, Nat.le_of_ble_eq_true rfl⟩ rfl rfl (Nat.le_of_ble_eq_true rfl) (Nat.le_of_ble_eq_true rfl) (Nat.le_of_ble_eq_true rfl) rfl (fun q62 => ?_)
          refine V_if_ne (pc := 65) (tgt := 72) dX12_readFlour_65 (by decide) ?_ ?_
          · refine V_sub (vs' := [some (.ref (wB w + 171)), some (.int a28.1), none, some (.int a28.2.2), some (.int ((σ 177 (ix a28.2.2)) - (97 : Int32)))]) (show vless _ _ from ⟨rfl, ⟨rfl, ⟨rfl, ⟨rfl, trivial⟩⟩⟩⟩) rfl ?_
            exact hJ72 a28.1 a28.2.2 ((σ 177 (ix a28.2.2)) - (97 : Int32)) σ
          · refine V_iconst (pc := 68) (v := (1 : Int32)) dX12_readFlour_68 rfl ?_
            refine V_goto (pc := 69) (tgt := 73) dX12_readFlour_69 (by decide) ?_
            refine V_sub (vs' := [some (.ref (wB w + 171)), some (.int a28.1), none, some (.int a28.2.2), some (.int ((σ 177 (ix a28.2.2)) - (97 : Int32)))]) (show vless _ _ from ⟨rfl, ⟨rfl, ⟨rfl, ⟨rfl, trivial⟩⟩⟩⟩) rfl ?_
            exact hJ73 a28.1 a28.2.2 ((σ 177 (ix a28.2.2)) - (97 : Int32)) (1 : Int32) σ
  have hJ22 : ∀ (v1 : Int32) (t0 : Int32) (σ : MS), VV m_X12_readFlour w g 0 0 (QM m_X12_readFlour w g x) (fun b : Int32 × MS => b = x) 22 [some (.ref (wB w + 171)), some (.int v1), none, none, none] [.int t0] σ (J_X12_readFlour_22 n v1 t0 σ) := by
    intro v1 t0 σ
    refine V_istore_n (pc := 22) (vs' := [some (.ref (wB w + 171)), some (.int v1), some (.int t0), none, none]) dX12_readFlour_22 rfl (Nat.le_of_ble_eq_true rfl) (Nat.le_of_ble_eq_true rfl) rfl ?_
    refine V_aload_n (pc := 23) dX12_readFlour_23 rfl rfl ?_
    refine V_geti (pc := 24) fk_X12_96 rfl dX12_readFlour_24 kc_171 rfl ?_
    refine V_istore_n (pc := 27) (vs' := [some (.ref (wB w + 171)), some (.int v1), some (.int t0), some (.int (σ 171 12)), none]) dX12_readFlour_27 rfl (Nat.le_of_ble_eq_true rfl) (Nat.le_of_ble_eq_true rfl) rfl ?_
    exact hL28 σ n (v1, t0, (σ 171 12))
  refine V_aload_n (pc := 0) dX12_readFlour_0 rfl rfl ?_
  refine V_callVv (pc := 1) (As := []) (rest := []) (c_X12_letters w n  σ) cw_X12_111 rfl rfl dX12_readFlour_1 kc_171 rfl ⟨Nat.le_of_ble_eq_true rfl, Nat.le_of_ble_eq_true rfl⟩ rfl rfl (Nat.le_of_ble_eq_true rfl) (Nat.le_of_ble_eq_true rfl) (Nat.le_of_ble_eq_true rfl) rfl (fun q1 => ?_)
  refine V_iconst (pc := 4) (v := (0 : Int32)) dX12_readFlour_4 rfl ?_
  refine V_istore_n (pc := 5) (vs' := [some (.ref (wB w + 171)), some (.int (0 : Int32)), none, none, none]) dX12_readFlour_5 rfl (Nat.le_of_ble_eq_true rfl) (Nat.le_of_ble_eq_true rfl) rfl ?_
  refine V_aload_n (pc := 6) dX12_readFlour_6 rfl rfl ?_
  refine V_geti (pc := 7) fk_X12_87 rfl dX12_readFlour_7 kc_171 rfl ?_
  refine V_aload_n (pc := 10) dX12_readFlour_10 rfl rfl ?_
  refine V_geti (pc := 11) fk_X12_96 rfl dX12_readFlour_11 kc_171 rfl ?_
  refine V_icmp_le (pc := 14) (tgt := 21) dX12_readFlour_14 (by decide) ?_ ?_
  · refine V_iconst (pc := 21) (v := (0 : Int32)) dX12_readFlour_21 rfl ?_
    exact hJ22 (0 : Int32) (0 : Int32) q1.2
  · refine V_iconst (pc := 17) (v := (1 : Int32)) dX12_readFlour_17 rfl ?_
    refine V_goto (pc := 18) (tgt := 22) dX12_readFlour_18 (by decide) ?_
    exact hJ22 (0 : Int32) (1 : Int32) q1.2
def J_X12_readBond_45 (n : Nat) (v1 : Int32) (v2 : Int32) (v3 : Int32) (t0 : Int32) (σ : MS) : Option (Int32 × MS) := (if 0 ≤ t0 then ((f_X12_binds v1 v2 v3 t0 σ).bind (fun q60 => some ((1 : Int32), q60.2))) else some ((0 : Int32), σ))
def J_X12_readBond_26 (n : Nat) (v1 : Int32) (v2 : Int32) (t0 : Int32) (σ : MS) : Option (Int32 × MS) := (if 0 ≤ t0 then ((f_X12_after n 1 (1 : Int32) (999 : Int32) σ).bind (fun q42 => J_X12_readBond_45 n v1 v2 t0 q42.1 q42.2)) else J_X12_readBond_45 n v1 v2 t0 (-1 : Int32) σ)
def f_X12_readBond (n : Nat)  (σ : MS) : Option (Int32 × MS) := ((f_X12_personTold n  σ).bind (fun q1 => ((f_X12_otherTold n q1.1 q1.2).bind (fun q7 => (if 0 ≤ q7.1 then ((f_X12_number n (1 : Int32) (9 : Int32) q7.2).bind (fun q23 => J_X12_readBond_26 n q1.1 q7.1 q23.1 q23.2)) else J_X12_readBond_26 n q1.1 q7.1 (-1 : Int32) q7.2)))))
set_option maxRecDepth 20000 in
set_option maxHeartbeats 2000000 in
theorem c_X12_readBond (w : TG) (n : Nat)  (σ : MS) : MC m_X12_readBond w [.ref (wB w + 171)] σ (f_X12_readBond n  σ) := by
  refine V_meth (by decide +kernel) (Nat.le_of_ble_eq_true rfl) (by intro v hv; simp only [List.mem_cons, List.not_mem_nil, or_false] at hv; subst hv; rfl) (fun g x => ?_)
  show VV m_X12_readBond w g 0 0 (QM m_X12_readBond w g x) (fun b : Int32 × MS => b = x) 0 [some (.ref (wB w + 171)), none, none, none, none] [] σ (f_X12_readBond n  σ)
  have hJ45 : ∀ (v1 : Int32) (v2 : Int32) (v3 : Int32) (t0 : Int32) (σ : MS), VV m_X12_readBond w g 0 0 (QM m_X12_readBond w g x) (fun b : Int32 × MS => b = x) 45 [some (.ref (wB w + 171)), some (.int v1), some (.int v2), some (.int v3), none] [.int t0] σ (J_X12_readBond_45 n v1 v2 v3 t0 σ) := by
    intro v1 v2 v3 t0 σ
    refine V_istore (pc := 45) (vs' := [some (.ref (wB w + 171)), some (.int v1), some (.int v2), some (.int v3), some (.int t0)]) dX12_readBond_45 (Nat.le_of_ble_eq_true rfl) (Nat.le_of_ble_eq_true rfl) rfl ?_
    refine V_iload (pc := 47) dX12_readBond_47 rfl ?_
    refine V_if_ge (pc := 49) (tgt := 54) dX12_readBond_49 (by decide) ?_ ?_
    · refine V_aload_n (pc := 54) dX12_readBond_54 rfl rfl ?_
      refine V_iload_n (pc := 55) dX12_readBond_55 rfl rfl ?_
      refine V_iload_n (pc := 56) dX12_readBond_56 rfl rfl ?_
      refine V_iload_n (pc := 57) dX12_readBond_57 rfl rfl ?_
      refine V_iload (pc := 58) dX12_readBond_58 rfl ?_
      refine V_callVv (pc := 60) (As := [.int v1, .int v2, .int v3, .int t0]) (rest := []) (c_X12_binds w v1 v2 v3 t0 σ) cw_X12_143 rfl rfl dX12_readBond_60 kc_171 rfl ⟨Nat.le_of_ble_eq_true rfl, Nat.le_of_ble_eq_true rfl⟩ rfl rfl (Nat.le_of_ble_eq_true rfl) (Nat.le_of_ble_eq_true rfl) (Nat.le_of_ble_eq_true rfl) rfl (fun q60 => ?_)
      refine V_iconst (pc := 63) (v := (1 : Int32)) dX12_readBond_63 rfl ?_
      exact V_iretz (pc := 64) dX12_readBond_64 rfl rfl (hk := fun h => h)
    · refine V_iconst (pc := 52) (v := (0 : Int32)) dX12_readBond_52 rfl ?_
      exact V_iretz (pc := 53) dX12_readBond_53 rfl rfl (hk := fun h => h)
  have hJ26 : ∀ (v1 : Int32) (v2 : Int32) (t0 : Int32) (σ : MS), VV m_X12_readBond w g 0 0 (QM m_X12_readBond w g x) (fun b : Int32 × MS => b = x) 26 [some (.ref (wB w + 171)), some (.int v1), some (.int v2), none, none] [.int t0] σ (J_X12_readBond_26 n v1 v2 t0 σ) := by
    intro v1 v2 t0 σ
    refine V_istore_n (pc := 26) (vs' := [some (.ref (wB w + 171)), some (.int v1), some (.int v2), some (.int t0), none]) dX12_readBond_26 rfl (Nat.le_of_ble_eq_true rfl) (Nat.le_of_ble_eq_true rfl) rfl ?_
    refine V_iload_n (pc := 27) dX12_readBond_27 rfl rfl ?_
    refine V_if_ge (pc := 28) (tgt := 35) dX12_readBond_28 (by decide) ?_ ?_
    · refine V_aload_n (pc := 35) dX12_readBond_35 rfl rfl ?_
      refine V_ldcS (pc := 36) (i := 1) (tx := "till") dX12_readBond_36 rfl (by decide +kernel) ?_
      refine V_iconst (pc := 38) (v := (1 : Int32)) dX12_readBond_38 rfl ?_
      refine V_sipush (pc := 39) (v := (999 : Int32)) dX12_readBond_39 rfl ?_
      refine V_callVi (pc := 42) (As := [.ref (wS w 1), .int (1 : Int32), .int (999 : Int32)]) (rest := []) (c_X12_after w n 1 (1 : Int32) (999 : Int32) (by decide) σ) cw_X12_139 rfl rfl dX12_readBond_42 kc_171 rfl ⟨Nat.le_of_ble_eq_true rfl, Nat.le_of_ble_eq_true rfl⟩ rfl rfl (Nat.le_of_ble_eq_true rfl) (Nat.le_of_ble_eq_true rfl) (Nat.le_of_ble_eq_true rfl) rfl (fun q42 => ?_)
      exact hJ45 v1 v2 t0 q42.1 q42.2
    · refine V_iconst (pc := 31) (v := (-1 : Int32)) dX12_readBond_31 rfl ?_
      refine V_goto (pc := 32) (tgt := 45) dX12_readBond_32 (by decide) ?_
      exact hJ45 v1 v2 t0 (-1 : Int32) σ
  refine V_aload_n (pc := 0) dX12_readBond_0 rfl rfl ?_
  refine V_callVi (pc := 1) (As := []) (rest := []) (c_X12_personTold w n  σ) cw_X12_121 rfl rfl dX12_readBond_1 kc_171 rfl ⟨Nat.le_of_ble_eq_true rfl, Nat.le_of_ble_eq_true rfl⟩ rfl rfl (Nat.le_of_ble_eq_true rfl) (Nat.le_of_ble_eq_true rfl) (Nat.le_of_ble_eq_true rfl) rfl (fun q1 => ?_)
  refine V_istore_n (pc := 4) (vs' := [some (.ref (wB w + 171)), some (.int q1.1), none, none, none]) dX12_readBond_4 rfl (Nat.le_of_ble_eq_true rfl) (Nat.le_of_ble_eq_true rfl) rfl ?_
  refine V_aload_n (pc := 5) dX12_readBond_5 rfl rfl ?_
  refine V_iload_n (pc := 6) dX12_readBond_6 rfl rfl ?_
  refine V_callVi (pc := 7) (As := [.int q1.1]) (rest := []) (c_X12_otherTold w n q1.1 q1.2) cw_X12_125 rfl rfl dX12_readBond_7 kc_171 rfl ⟨Nat.le_of_ble_eq_true rfl, Nat.le_of_ble_eq_true rfl⟩ rfl rfl (Nat.le_of_ble_eq_true rfl) (Nat.le_of_ble_eq_true rfl) (Nat.le_of_ble_eq_true rfl) rfl (fun q7 => ?_)
  refine V_istore_n (pc := 10) (vs' := [some (.ref (wB w + 171)), some (.int q1.1), some (.int q7.1), none, none]) dX12_readBond_10 rfl (Nat.le_of_ble_eq_true rfl) (Nat.le_of_ble_eq_true rfl) rfl ?_
  refine V_iload_n (pc := 11) dX12_readBond_11 rfl rfl ?_
  refine V_if_ge (pc := 12) (tgt := 19) dX12_readBond_12 (by decide) ?_ ?_
  · refine V_aload_n (pc := 19) dX12_readBond_19 rfl rfl ?_
    refine V_iconst (pc := 20) (v := (1 : Int32)) dX12_readBond_20 rfl ?_
    refine V_bipush (pc := 21) (v := (9 : Int32)) dX12_readBond_21 rfl ?_
    refine V_callVi (pc := 23) (As := [.int (1 : Int32), .int (9 : Int32)]) (rest := []) (c_X12_number w n (1 : Int32) (9 : Int32) q7.2) cw_X12_118 rfl rfl dX12_readBond_23 kc_171 rfl ⟨Nat.le_of_ble_eq_true rfl, Nat.le_of_ble_eq_true rfl⟩ rfl rfl (Nat.le_of_ble_eq_true rfl) (Nat.le_of_ble_eq_true rfl) (Nat.le_of_ble_eq_true rfl) rfl (fun q23 => ?_)
    exact hJ26 q1.1 q7.1 q23.1 q23.2
  · refine V_iconst (pc := 15) (v := (-1 : Int32)) dX12_readBond_15 rfl ?_
    refine V_goto (pc := 16) (tgt := 26) dX12_readBond_16 (by decide) ?_
    exact hJ26 q1.1 q7.1 (-1 : Int32) q7.2
def J_X12_readNumber_40 (n : Nat) (t0 : Int32) (σ : MS) : Option (Int32 × MS) := (if t0 = 0 ∨ t0 = 1 then some (t0, σ) else none)
def J_X12_readNumber_29 (n : Nat) (v4 : Int32) (t0 : Int32) (t1 : Int32) (σ : MS) : Option (Int32 × MS) := (if inb t1 2172 then ltM (mu σ 172 (ix t1) t0) (fun s29 => (if v4 < 0 then J_X12_readNumber_40 n (0 : Int32) s29 else J_X12_readNumber_40 n (1 : Int32) s29)) else none)
def f_X12_readNumber (n : Nat) (p1 : Int32) (p2 : Int32) (p3 : Int32) (σ : MS) : Option (Int32 × MS) := ((f_X12_number n p2 p3 σ).bind (fun q3 => (if 0 ≤ q3.1 then J_X12_readNumber_29 n q3.1 q3.1 p1 q3.2 else (if inb p1 2172 then J_X12_readNumber_29 n q3.1 (q3.2 172 (ix p1)) p1 q3.2 else none))))
set_option maxRecDepth 20000 in
set_option maxHeartbeats 2000000 in
theorem c_X12_readNumber (w : TG) (n : Nat) (p1 : Int32) (p2 : Int32) (p3 : Int32) (σ : MS) : MC m_X12_readNumber w [.ref (wB w + 171), .int p1, .int p2, .int p3] σ (f_X12_readNumber n p1 p2 p3 σ) := by
  refine V_meth (by decide +kernel) (Nat.le_of_ble_eq_true rfl) (by intro v hv; simp only [List.mem_cons, List.not_mem_nil, or_false] at hv; rcases hv with rfl | rfl | rfl | rfl <;> rfl) (fun g x => ?_)
  show VV m_X12_readNumber w g 0 0 (QM m_X12_readNumber w g x) (fun b : Int32 × MS => b = x) 0 [some (.ref (wB w + 171)), some (.int p1), some (.int p2), some (.int p3), none] [] σ (f_X12_readNumber n p1 p2 p3 σ)
  have hJ40 : ∀ (t0 : Int32) (σ : MS), VV m_X12_readNumber w g 0 0 (QM m_X12_readNumber w g x) (fun b : Int32 × MS => b = x) 40 [none, none, none, none, none] [.int t0] σ (J_X12_readNumber_40 n t0 σ) := by
    intro t0 σ
    exact V_iretZ (pc := 40) dX12_readNumber_40 rfl (hk := fun h => h)
  have hJ29 : ∀ (v4 : Int32) (t0 : Int32) (t1 : Int32) (σ : MS), VV m_X12_readNumber w g 0 0 (QM m_X12_readNumber w g x) (fun b : Int32 × MS => b = x) 29 [none, none, none, none, some (.int v4)] [.int t0, .int t1, .ref (wB w + 172)] σ (J_X12_readNumber_29 n v4 t0 t1 σ) := by
    intro v4 t0 t1 σ
    refine V_iast (pc := 29) (n := 2172) dX12_readNumber_29 kc_172 lc_172 (fun s29 => ?_)
    refine V_iload (pc := 30) dX12_readNumber_30 rfl ?_
    refine V_if_lt (pc := 32) (tgt := 39) dX12_readNumber_32 (by decide) ?_ ?_
    · refine V_iconst (pc := 39) (v := (0 : Int32)) dX12_readNumber_39 rfl ?_
      refine V_sub (vs' := [none, none, none, none, none]) (show vless _ _ from trivial) rfl ?_
      exact hJ40 (0 : Int32) s29
    · refine V_iconst (pc := 35) (v := (1 : Int32)) dX12_readNumber_35 rfl ?_
      refine V_goto (pc := 36) (tgt := 40) dX12_readNumber_36 (by decide) ?_
      refine V_sub (vs' := [none, none, none, none, none]) (show vless _ _ from trivial) rfl ?_
      exact hJ40 (1 : Int32) s29
  refine V_aload_n (pc := 0) dX12_readNumber_0 rfl rfl ?_
  refine V_iload_n (pc := 1) dX12_readNumber_1 rfl rfl ?_
  refine V_iload_n (pc := 2) dX12_readNumber_2 rfl rfl ?_
  refine V_callVi (pc := 3) (As := [.int p2, .int p3]) (rest := []) (c_X12_number w n p2 p3 σ) cw_X12_118 rfl rfl dX12_readNumber_3 kc_171 rfl ⟨Nat.le_of_ble_eq_true rfl, Nat.le_of_ble_eq_true rfl⟩ rfl rfl (Nat.le_of_ble_eq_true rfl) (Nat.le_of_ble_eq_true rfl) (Nat.le_of_ble_eq_true rfl) rfl (fun q3 => ?_)
  refine V_istore (pc := 6) (vs' := [some (.ref (wB w + 171)), some (.int p1), some (.int p2), some (.int p3), some (.int q3.1)]) dX12_readNumber_6 (Nat.le_of_ble_eq_true rfl) (Nat.le_of_ble_eq_true rfl) rfl ?_
  refine V_aload_n (pc := 8) dX12_readNumber_8 rfl rfl ?_
  refine V_getr (pc := 9) (t := 172) fk_X12_13 rfl dX12_readNumber_9 kc_171 rfl ?_
  refine V_iload_n (pc := 12) dX12_readNumber_12 rfl rfl ?_
  refine V_iload (pc := 13) dX12_readNumber_13 rfl ?_
  refine V_if_ge (pc := 15) (tgt := 27) dX12_readNumber_15 (by decide) ?_ ?_
  · refine V_iload (pc := 27) dX12_readNumber_27 rfl ?_
    refine V_sub (vs' := [none, none, none, none, some (.int q3.1)]) (show vless _ _ from ⟨rfl, trivial⟩) rfl ?_
    exact hJ29 q3.1 q3.1 p1 q3.2
  · refine V_aload_n (pc := 18) dX12_readNumber_18 rfl rfl ?_
    refine V_getr (pc := 19) (t := 172) fk_X12_13 rfl dX12_readNumber_19 kc_171 rfl ?_
    refine V_iload_n (pc := 22) dX12_readNumber_22 rfl rfl ?_
    refine V_iald (pc := 23) (n := 2172) dX12_readNumber_23 kc_172 lc_172 ?_
    refine V_goto (pc := 24) (tgt := 29) dX12_readNumber_24 (by decide) ?_
    refine V_sub (vs' := [none, none, none, none, some (.int q3.1)]) (show vless _ _ from ⟨rfl, trivial⟩) rfl ?_
    exact hJ29 q3.1 (q3.2 172 (ix p1)) p1 q3.2
def J_X12_readHouseLine_134 (n : Nat) (t0 : Int32) (σ : MS) : Option (Int32 × MS) := (if t0 = 0 ∨ t0 = 1 then some (t0, σ) else none)
def J_X12_readHouseLine_133 (n : Nat)  (σ : MS) : Option (Int32 × MS) := J_X12_readHouseLine_134 n (0 : Int32) σ
def f_X12_readHouseLine (n : Nat)  (σ : MS) : Option (Int32 × MS) := ((f_X12_isWord n 2 σ).bind (fun q3 => (if q3 = 0 then ((f_X12_isWord n 3 σ).bind (fun q17 => (if q17 = 0 then ((f_X12_isWord n 4 σ).bind (fun q31 => (if q31 = 0 then ((f_X12_isWord n 5 σ).bind (fun q45 => (if q45 = 0 then ((f_X12_isWord n 6 σ).bind (fun q59 => (if q59 = 0 then ((f_X12_isWord n 7 σ).bind (fun q77 => (if q77 = 0 then ((f_X12_isWord n 8 σ).bind (fun q97 => (if q97 = 0 then ((f_X12_isWord n 9 σ).bind (fun q111 => (if q111 = 0 then J_X12_readHouseLine_133 n  σ else ((f_X12_readNumber n (3 : Int32) (0 : Int32) (999 : Int32) σ).bind (fun q123 => (if q123.1 = 0 then J_X12_readHouseLine_133 n  q123.2 else J_X12_readHouseLine_134 n (1 : Int32) q123.2)))))) else ((f_X12_readBond n  σ).bind (fun q104 => (if q104.1 = 0 ∨ q104.1 = 1 then some (q104.1, q104.2) else none)))))) else ((f_X12_readNumber n (6 : Int32) (1 : Int32) (400 : Int32) σ).bind (fun q90 => (if q90.1 = 0 ∨ q90.1 = 1 then some (q90.1, q90.2) else none)))))) else ((f_X12_readNumber n (5 : Int32) (1 : Int32) (9 : Int32) σ).bind (fun q70 => (if q70.1 = 0 ∨ q70.1 = 1 then some (q70.1, q70.2) else none)))))) else ((f_X12_readFlour n  σ).bind (fun q52 => (if q52.1 = 0 ∨ q52.1 = 1 then some (q52.1, q52.2) else none)))))) else ((f_X12_readWed n  σ).bind (fun q38 => (if q38.1 = 0 ∨ q38.1 = 1 then some (q38.1, q38.2) else none)))))) else ((f_X12_readLikes n  σ).bind (fun q24 => (if q24.1 = 0 ∨ q24.1 = 1 then some (q24.1, q24.2) else none)))))) else ((f_X12_readPerson n  σ).bind (fun q10 => (if q10.1 = 0 ∨ q10.1 = 1 then some (q10.1, q10.2) else none))))))
set_option maxRecDepth 20000 in
set_option maxHeartbeats 2000000 in
theorem c_X12_readHouseLine (w : TG) (n : Nat)  (σ : MS) : MC m_X12_readHouseLine w [.ref (wB w + 171)] σ (f_X12_readHouseLine n  σ) := by
  refine V_meth (by decide +kernel) (Nat.le_of_ble_eq_true rfl) (by intro v hv; simp only [List.mem_cons, List.not_mem_nil, or_false] at hv; subst hv; rfl) (fun g x => ?_)
  show VV m_X12_readHouseLine w g 0 0 (QM m_X12_readHouseLine w g x) (fun b : Int32 × MS => b = x) 0 [some (.ref (wB w + 171))] [] σ (f_X12_readHouseLine n  σ)
  have hJ134 : ∀ (t0 : Int32) (σ : MS), VV m_X12_readHouseLine w g 0 0 (QM m_X12_readHouseLine w g x) (fun b : Int32 × MS => b = x) 134 [none] [.int t0] σ (J_X12_readHouseLine_134 n t0 σ) := by
    intro t0 σ
    exact V_iretZ (pc := 134) dX12_readHouseLine_134 rfl (hk := fun h => h)
  have hJ133 : ∀ (σ : MS), VV m_X12_readHouseLine w g 0 0 (QM m_X12_readHouseLine w g x) (fun b : Int32 × MS => b = x) 133 [none] [] σ (J_X12_readHouseLine_133 n  σ) := by
    intro σ
    refine V_iconst (pc := 133) (v := (0 : Int32)) dX12_readHouseLine_133 rfl ?_
    exact hJ134 (0 : Int32) σ
  refine V_aload_n (pc := 0) dX12_readHouseLine_0 rfl rfl ?_
  refine V_ldcS (pc := 1) (i := 2) (tx := "person") dX12_readHouseLine_1 rfl (by decide +kernel) ?_
  refine V_callVpi (pc := 3) (As := [.ref (wS w 2)]) (rest := []) (c_X12_isWord w n 2 (by decide) σ) cw_X12_114 rfl rfl dX12_readHouseLine_3 kc_171 rfl ⟨Nat.le_of_ble_eq_true rfl, Nat.le_of_ble_eq_true rfl⟩ rfl rfl (Nat.le_of_ble_eq_true rfl) (Nat.le_of_ble_eq_true rfl) (Nat.le_of_ble_eq_true rfl) rfl (fun q3 => ?_)
  refine V_if_eq (pc := 6) (tgt := 14) dX12_readHouseLine_6 (by decide) ?_ ?_
  · refine V_aload_n (pc := 14) dX12_readHouseLine_14 rfl rfl ?_
    refine V_ldcS (pc := 15) (i := 3) (tx := "likes") dX12_readHouseLine_15 rfl (by decide +kernel) ?_
    refine V_callVpi (pc := 17) (As := [.ref (wS w 3)]) (rest := []) (c_X12_isWord w n 3 (by decide) σ) cw_X12_114 rfl rfl dX12_readHouseLine_17 kc_171 rfl ⟨Nat.le_of_ble_eq_true rfl, Nat.le_of_ble_eq_true rfl⟩ rfl rfl (Nat.le_of_ble_eq_true rfl) (Nat.le_of_ble_eq_true rfl) (Nat.le_of_ble_eq_true rfl) rfl (fun q17 => ?_)
    refine V_if_eq (pc := 20) (tgt := 28) dX12_readHouseLine_20 (by decide) ?_ ?_
    · refine V_aload_n (pc := 28) dX12_readHouseLine_28 rfl rfl ?_
      refine V_ldcS (pc := 29) (i := 4) (tx := "wed") dX12_readHouseLine_29 rfl (by decide +kernel) ?_
      refine V_callVpi (pc := 31) (As := [.ref (wS w 4)]) (rest := []) (c_X12_isWord w n 4 (by decide) σ) cw_X12_114 rfl rfl dX12_readHouseLine_31 kc_171 rfl ⟨Nat.le_of_ble_eq_true rfl, Nat.le_of_ble_eq_true rfl⟩ rfl rfl (Nat.le_of_ble_eq_true rfl) (Nat.le_of_ble_eq_true rfl) (Nat.le_of_ble_eq_true rfl) rfl (fun q31 => ?_)
      refine V_if_eq (pc := 34) (tgt := 42) dX12_readHouseLine_34 (by decide) ?_ ?_
      · refine V_aload_n (pc := 42) dX12_readHouseLine_42 rfl rfl ?_
        refine V_ldcS (pc := 43) (i := 5) (tx := "flour") dX12_readHouseLine_43 rfl (by decide +kernel) ?_
        refine V_callVpi (pc := 45) (As := [.ref (wS w 5)]) (rest := []) (c_X12_isWord w n 5 (by decide) σ) cw_X12_114 rfl rfl dX12_readHouseLine_45 kc_171 rfl ⟨Nat.le_of_ble_eq_true rfl, Nat.le_of_ble_eq_true rfl⟩ rfl rfl (Nat.le_of_ble_eq_true rfl) (Nat.le_of_ble_eq_true rfl) (Nat.le_of_ble_eq_true rfl) rfl (fun q45 => ?_)
        refine V_if_eq (pc := 48) (tgt := 56) dX12_readHouseLine_48 (by decide) ?_ ?_
        · refine V_aload_n (pc := 56) dX12_readHouseLine_56 rfl rfl ?_
          refine V_ldcS (pc := 57) (i := 6) (tx := "binds") dX12_readHouseLine_57 rfl (by decide +kernel) ?_
          refine V_callVpi (pc := 59) (As := [.ref (wS w 6)]) (rest := []) (c_X12_isWord w n 6 (by decide) σ) cw_X12_114 rfl rfl dX12_readHouseLine_59 kc_171 rfl ⟨Nat.le_of_ble_eq_true rfl, Nat.le_of_ble_eq_true rfl⟩ rfl rfl (Nat.le_of_ble_eq_true rfl) (Nat.le_of_ble_eq_true rfl) (Nat.le_of_ble_eq_true rfl) rfl (fun q59 => ?_)
          refine V_if_eq (pc := 62) (tgt := 74) dX12_readHouseLine_62 (by decide) ?_ ?_
          · refine V_aload_n (pc := 74) dX12_readHouseLine_74 rfl rfl ?_
            refine V_ldcS (pc := 75) (i := 7) (tx := "lasts") dX12_readHouseLine_75 rfl (by decide +kernel) ?_
            refine V_callVpi (pc := 77) (As := [.ref (wS w 7)]) (rest := []) (c_X12_isWord w n 7 (by decide) σ) cw_X12_114 rfl rfl dX12_readHouseLine_77 kc_171 rfl ⟨Nat.le_of_ble_eq_true rfl, Nat.le_of_ble_eq_true rfl⟩ rfl rfl (Nat.le_of_ble_eq_true rfl) (Nat.le_of_ble_eq_true rfl) (Nat.le_of_ble_eq_true rfl) rfl (fun q77 => ?_)
            refine V_if_eq (pc := 80) (tgt := 94) dX12_readHouseLine_80 (by decide) ?_ ?_
            · refine V_aload_n (pc := 94) dX12_readHouseLine_94 rfl rfl ?_
              refine V_ldcS (pc := 95) (i := 8) (tx := "bond") dX12_readHouseLine_95 rfl (by decide +kernel) ?_
              refine V_callVpi (pc := 97) (As := [.ref (wS w 8)]) (rest := []) (c_X12_isWord w n 8 (by decide) σ) cw_X12_114 rfl rfl dX12_readHouseLine_97 kc_171 rfl ⟨Nat.le_of_ble_eq_true rfl, Nat.le_of_ble_eq_true rfl⟩ rfl rfl (Nat.le_of_ble_eq_true rfl) (Nat.le_of_ble_eq_true rfl) (Nat.le_of_ble_eq_true rfl) rfl (fun q97 => ?_)
              refine V_if_eq (pc := 100) (tgt := 108) dX12_readHouseLine_100 (by decide) ?_ ?_
              · refine V_aload_n (pc := 108) dX12_readHouseLine_108 rfl rfl ?_
                refine V_ldcS (pc := 109) (i := 9) (tx := "day") dX12_readHouseLine_109 rfl (by decide +kernel) ?_
                refine V_callVpi (pc := 111) (As := [.ref (wS w 9)]) (rest := []) (c_X12_isWord w n 9 (by decide) σ) cw_X12_114 rfl rfl dX12_readHouseLine_111 kc_171 rfl ⟨Nat.le_of_ble_eq_true rfl, Nat.le_of_ble_eq_true rfl⟩ rfl rfl (Nat.le_of_ble_eq_true rfl) (Nat.le_of_ble_eq_true rfl) (Nat.le_of_ble_eq_true rfl) rfl (fun q111 => ?_)
                refine V_if_eq (pc := 114) (tgt := 133) dX12_readHouseLine_114 (by decide) ?_ ?_
                · refine V_sub (vs' := [none]) (show vless _ _ from trivial) rfl ?_
                  exact hJ133 σ
                · refine V_aload_n (pc := 117) dX12_readHouseLine_117 rfl rfl ?_
                  refine V_iconst (pc := 118) (v := (3 : Int32)) dX12_readHouseLine_118 rfl ?_
                  refine V_iconst (pc := 119) (v := (0 : Int32)) dX12_readHouseLine_119 rfl ?_
                  refine V_sipush (pc := 120) (v := (999 : Int32)) dX12_readHouseLine_120 rfl ?_
                  refine V_callVi (pc := 123) (As := [.int (3 : Int32), .int (0 : Int32), .int (999 : Int32)]) (rest := []) (c_X12_readNumber w n (3 : Int32) (0 : Int32) (999 : Int32) σ) cw_X12_169 rfl rfl dX12_readHouseLine_123 kc_171 rfl ⟨Nat.le_of_ble_eq_true rfl, Nat.le_of_ble_eq_true rfl⟩ rfl rfl (Nat.le_of_ble_eq_true rfl) (Nat.le_of_ble_eq_true rfl) (Nat.le_of_ble_eq_true rfl) rfl (fun q123 => ?_)
                  refine V_if_eq (pc := 126) (tgt := 133) dX12_readHouseLine_126 (by decide) ?_ ?_
                  · refine V_sub (vs' := [none]) (show vless _ _ from trivial) rfl ?_
                    exact hJ133 q123.2
                  · refine V_iconst (pc := 129) (v := (1 : Int32)) dX12_readHouseLine_129 rfl ?_
                    refine V_goto (pc := 130) (tgt := 134) dX12_readHouseLine_130 (by decide) ?_
                    refine V_sub (vs' := [none]) (show vless _ _ from trivial) rfl ?_
                    exact hJ134 (1 : Int32) q123.2
              · refine V_aload_n (pc := 103) dX12_readHouseLine_103 rfl rfl ?_
                refine V_callVi (pc := 104) (As := []) (rest := []) (c_X12_readBond w n  σ) cw_X12_176 rfl rfl dX12_readHouseLine_104 kc_171 rfl ⟨Nat.le_of_ble_eq_true rfl, Nat.le_of_ble_eq_true rfl⟩ rfl rfl (Nat.le_of_ble_eq_true rfl) (Nat.le_of_ble_eq_true rfl) (Nat.le_of_ble_eq_true rfl) rfl (fun q104 => ?_)
                exact V_iretZ (pc := 107) dX12_readHouseLine_107 rfl (hk := fun h => h)
            · refine V_aload_n (pc := 83) dX12_readHouseLine_83 rfl rfl ?_
              refine V_bipush (pc := 84) (v := (6 : Int32)) dX12_readHouseLine_84 rfl ?_
              refine V_iconst (pc := 86) (v := (1 : Int32)) dX12_readHouseLine_86 rfl ?_
              refine V_sipush (pc := 87) (v := (400 : Int32)) dX12_readHouseLine_87 rfl ?_
              refine V_callVi (pc := 90) (As := [.int (6 : Int32), .int (1 : Int32), .int (400 : Int32)]) (rest := []) (c_X12_readNumber w n (6 : Int32) (1 : Int32) (400 : Int32) σ) cw_X12_169 rfl rfl dX12_readHouseLine_90 kc_171 rfl ⟨Nat.le_of_ble_eq_true rfl, Nat.le_of_ble_eq_true rfl⟩ rfl rfl (Nat.le_of_ble_eq_true rfl) (Nat.le_of_ble_eq_true rfl) (Nat.le_of_ble_eq_true rfl) rfl (fun q90 => ?_)
              exact V_iretZ (pc := 93) dX12_readHouseLine_93 rfl (hk := fun h => h)
          · refine V_aload_n (pc := 65) dX12_readHouseLine_65 rfl rfl ?_
            refine V_iconst (pc := 66) (v := (5 : Int32)) dX12_readHouseLine_66 rfl ?_
            refine V_iconst (pc := 67) (v := (1 : Int32)) dX12_readHouseLine_67 rfl ?_
            refine V_bipush (pc := 68) (v := (9 : Int32)) dX12_readHouseLine_68 rfl ?_
            refine V_callVi (pc := 70) (As := [.int (5 : Int32), .int (1 : Int32), .int (9 : Int32)]) (rest := []) (c_X12_readNumber w n (5 : Int32) (1 : Int32) (9 : Int32) σ) cw_X12_169 rfl rfl dX12_readHouseLine_70 kc_171 rfl ⟨Nat.le_of_ble_eq_true rfl, Nat.le_of_ble_eq_true rfl⟩ rfl rfl (Nat.le_of_ble_eq_true rfl) (Nat.le_of_ble_eq_true rfl) (Nat.le_of_ble_eq_true rfl) rfl (fun q70 => ?_)
            exact V_iretZ (pc := 73) dX12_readHouseLine_73 rfl (hk := fun h => h)
        · refine V_aload_n (pc := 51) dX12_readHouseLine_51 rfl rfl ?_
          refine V_callVi (pc := 52) (As := []) (rest := []) (c_X12_readFlour w n  σ) cw_X12_165 rfl rfl dX12_readHouseLine_52 kc_171 rfl ⟨Nat.le_of_ble_eq_true rfl, Nat.le_of_ble_eq_true rfl⟩ rfl rfl (Nat.le_of_ble_eq_true rfl) (Nat.le_of_ble_eq_true rfl) (Nat.le_of_ble_eq_true rfl) rfl (fun q52 => ?_)
          exact V_iretZ (pc := 55) dX12_readHouseLine_55 rfl (hk := fun h => h)
      · refine V_aload_n (pc := 37) dX12_readHouseLine_37 rfl rfl ?_
        refine V_callVi (pc := 38) (As := []) (rest := []) (c_X12_readWed w n  σ) cw_X12_160 rfl rfl dX12_readHouseLine_38 kc_171 rfl ⟨Nat.le_of_ble_eq_true rfl, Nat.le_of_ble_eq_true rfl⟩ rfl rfl (Nat.le_of_ble_eq_true rfl) (Nat.le_of_ble_eq_true rfl) (Nat.le_of_ble_eq_true rfl) rfl (fun q38 => ?_)
        exact V_iretZ (pc := 41) dX12_readHouseLine_41 rfl (hk := fun h => h)
    · refine V_aload_n (pc := 23) dX12_readHouseLine_23 rfl rfl ?_
      refine V_callVi (pc := 24) (As := []) (rest := []) (c_X12_readLikes w n  σ) cw_X12_155 rfl rfl dX12_readHouseLine_24 kc_171 rfl ⟨Nat.le_of_ble_eq_true rfl, Nat.le_of_ble_eq_true rfl⟩ rfl rfl (Nat.le_of_ble_eq_true rfl) (Nat.le_of_ble_eq_true rfl) (Nat.le_of_ble_eq_true rfl) rfl (fun q24 => ?_)
      exact V_iretZ (pc := 27) dX12_readHouseLine_27 rfl (hk := fun h => h)
  · refine V_aload_n (pc := 9) dX12_readHouseLine_9 rfl rfl ?_
    refine V_callVi (pc := 10) (As := []) (rest := []) (c_X12_readPerson w n  σ) cw_X12_149 rfl rfl dX12_readHouseLine_10 kc_171 rfl ⟨Nat.le_of_ble_eq_true rfl, Nat.le_of_ble_eq_true rfl⟩ rfl rfl (Nat.le_of_ble_eq_true rfl) (Nat.le_of_ble_eq_true rfl) (Nat.le_of_ble_eq_true rfl) rfl (fun q10 => ?_)
    exact V_iretZ (pc := 13) dX12_readHouseLine_13 rfl (hk := fun h => h)
def f_X12_emits (p1 : Int32) (p2 : Int32) (σ : MS) : Option (Int32 × MS) := (if inb ((1372 : Int32) + ((2 : Int32) * (σ 171 16))) 2172 then ltM (mu σ 172 (ix ((1372 : Int32) + ((2 : Int32) * (σ 171 16)))) p1) (fun s15 => (if inb (((1372 : Int32) + ((2 : Int32) * (s15 171 16))) + (1 : Int32)) 2172 then ltM (mu s15 172 (ix (((1372 : Int32) + ((2 : Int32) * (s15 171 16))) + (1 : Int32))) p2) (fun s33 => (ltM (mu s33 171 16 ((s33 171 16) + (1 : Int32))) (fun s41 => some (0, s41)))) else none)) else none)
set_option maxRecDepth 20000 in
set_option maxHeartbeats 2000000 in
theorem c_X12_emits (w : TG) (p1 : Int32) (p2 : Int32) (σ : MS) : MC m_X12_emits w [.ref (wB w + 171), .int p1, .int p2] σ (f_X12_emits p1 p2 σ) := by
  refine V_meth (by decide +kernel) (Nat.le_of_ble_eq_true rfl) (by intro v hv; simp only [List.mem_cons, List.not_mem_nil, or_false] at hv; rcases hv with rfl | rfl | rfl <;> rfl) (fun g x => ?_)
  show VV m_X12_emits w g 0 0 (QM m_X12_emits w g x) (fun b : Int32 × MS => b = x) 0 [some (.ref (wB w + 171)), some (.int p1), some (.int p2)] [] σ (f_X12_emits p1 p2 σ)
  refine V_aload_n (pc := 0) dX12_emits_0 rfl rfl ?_
  refine V_getr (pc := 1) (t := 172) fk_X12_13 rfl dX12_emits_1 kc_171 rfl ?_
  refine V_sipush (pc := 4) (v := (1372 : Int32)) dX12_emits_4 rfl ?_
  refine V_iconst (pc := 7) (v := (2 : Int32)) dX12_emits_7 rfl ?_
  refine V_aload_n (pc := 8) dX12_emits_8 rfl rfl ?_
  refine V_geti (pc := 9) fk_X12_181 rfl dX12_emits_9 kc_171 rfl ?_
  refine V_imul (pc := 12) dX12_emits_12 ?_
  refine V_iadd (pc := 13) dX12_emits_13 ?_
  refine V_iload_n (pc := 14) dX12_emits_14 rfl rfl ?_
  refine V_iast (pc := 15) (n := 2172) dX12_emits_15 kc_172 lc_172 (fun s15 => ?_)
  refine V_aload_n (pc := 16) dX12_emits_16 rfl rfl ?_
  refine V_getr (pc := 17) (t := 172) fk_X12_13 rfl dX12_emits_17 kc_171 rfl ?_
  refine V_sipush (pc := 20) (v := (1372 : Int32)) dX12_emits_20 rfl ?_
  refine V_iconst (pc := 23) (v := (2 : Int32)) dX12_emits_23 rfl ?_
  refine V_aload_n (pc := 24) dX12_emits_24 rfl rfl ?_
  refine V_geti (pc := 25) fk_X12_181 rfl dX12_emits_25 kc_171 rfl ?_
  refine V_imul (pc := 28) dX12_emits_28 ?_
  refine V_iadd (pc := 29) dX12_emits_29 ?_
  refine V_iconst (pc := 30) (v := (1 : Int32)) dX12_emits_30 rfl ?_
  refine V_iadd (pc := 31) dX12_emits_31 ?_
  refine V_iload_n (pc := 32) dX12_emits_32 rfl rfl ?_
  refine V_iast (pc := 33) (n := 2172) dX12_emits_33 kc_172 lc_172 (fun s33 => ?_)
  refine V_aload_n (pc := 34) dX12_emits_34 rfl rfl ?_
  refine V_dup (pc := 35) dX12_emits_35 rfl ?_
  refine V_geti (pc := 36) fk_X12_181 rfl dX12_emits_36 kc_171 rfl ?_
  refine V_iconst (pc := 39) (v := (1 : Int32)) dX12_emits_39 rfl ?_
  refine V_iadd (pc := 40) dX12_emits_40 ?_
  refine V_puti (pc := 41) fp_X12_181 rfl dX12_emits_41 kc_171 rfl (fun s41 => ?_)
  exact V_ret (pc := 44) dX12_emits_44 rfl (hk := fun h => h)
def J_X12_readPart_129 (n : Nat) (t0 : Int32) (σ : MS) : Option (Int32 × MS) := (if t0 = 0 ∨ t0 = 1 then some (t0, σ) else none)
def J_X12_readPart_120 (n : Nat) (v1 : Int32) (σ : MS) : Option (Int32 × MS) := (if v1 < 0 then J_X12_readPart_129 n (0 : Int32) σ else J_X12_readPart_129 n (1 : Int32) σ)
def J_X12_readPart_113 (n : Nat) (t0 : Int32) (σ : MS) : Option (Int32 × MS) := ((f_X12_emits t0 (0 : Int32) σ).bind (fun q117 => J_X12_readPart_120 n t0 q117.2))
def f_X12_readPart (n : Nat)  (σ : MS) : Option (Int32 × MS) := ((f_X12_letters n  σ).bind (fun q1 => (if (q1.2 171 10) = (q1.2 171 12) then ((f_X12_number n (0 : Int32) (999 : Int32) q1.2).bind (fun q20 => ((f_X12_emits (8 : Int32) q20.1 q20.2).bind (fun q28 => J_X12_readPart_120 n q20.1 q28.2)))) else ((f_X12_isWord n 10 q1.2).bind (fun q37 => (if q37 = 0 then ((f_X12_isWord n 11 q1.2).bind (fun q50 => (if q50 = 0 then ((f_X12_isWord n 12 q1.2).bind (fun q63 => (if q63 = 0 then ((f_X12_isWord n 13 q1.2).bind (fun q76 => (if q76 = 0 then ((f_X12_isWord n 14 q1.2).bind (fun q89 => (if q89 = 0 then ((f_X12_isWord n 9 q1.2).bind (fun q102 => (if q102 = 0 then J_X12_readPart_113 n (-1 : Int32) q1.2 else J_X12_readPart_113 n (5 : Int32) q1.2))) else J_X12_readPart_113 n (4 : Int32) q1.2))) else J_X12_readPart_113 n (3 : Int32) q1.2))) else J_X12_readPart_113 n (2 : Int32) q1.2))) else J_X12_readPart_113 n (1 : Int32) q1.2))) else J_X12_readPart_113 n (0 : Int32) q1.2))))))
set_option maxRecDepth 20000 in
set_option maxHeartbeats 2000000 in
theorem c_X12_readPart (w : TG) (n : Nat)  (σ : MS) : MC m_X12_readPart w [.ref (wB w + 171)] σ (f_X12_readPart n  σ) := by
  refine V_meth (by decide +kernel) (Nat.le_of_ble_eq_true rfl) (by intro v hv; simp only [List.mem_cons, List.not_mem_nil, or_false] at hv; subst hv; rfl) (fun g x => ?_)
  show VV m_X12_readPart w g 0 0 (QM m_X12_readPart w g x) (fun b : Int32 × MS => b = x) 0 [some (.ref (wB w + 171)), none] [] σ (f_X12_readPart n  σ)
  have hJ129 : ∀ (t0 : Int32) (σ : MS), VV m_X12_readPart w g 0 0 (QM m_X12_readPart w g x) (fun b : Int32 × MS => b = x) 129 [none, none] [.int t0] σ (J_X12_readPart_129 n t0 σ) := by
    intro t0 σ
    exact V_iretZ (pc := 129) dX12_readPart_129 rfl (hk := fun h => h)
  have hJ120 : ∀ (v1 : Int32) (σ : MS), VV m_X12_readPart w g 0 0 (QM m_X12_readPart w g x) (fun b : Int32 × MS => b = x) 120 [none, some (.int v1)] [] σ (J_X12_readPart_120 n v1 σ) := by
    intro v1 σ
    refine V_iload_n (pc := 120) dX12_readPart_120 rfl rfl ?_
    refine V_if_lt (pc := 121) (tgt := 128) dX12_readPart_121 (by decide) ?_ ?_
    · refine V_iconst (pc := 128) (v := (0 : Int32)) dX12_readPart_128 rfl ?_
      refine V_sub (vs' := [none, none]) (show vless _ _ from trivial) rfl ?_
      exact hJ129 (0 : Int32) σ
    · refine V_iconst (pc := 124) (v := (1 : Int32)) dX12_readPart_124 rfl ?_
      refine V_goto (pc := 125) (tgt := 129) dX12_readPart_125 (by decide) ?_
      refine V_sub (vs' := [none, none]) (show vless _ _ from trivial) rfl ?_
      exact hJ129 (1 : Int32) σ
  have hJ113 : ∀ (t0 : Int32) (σ : MS), VV m_X12_readPart w g 0 0 (QM m_X12_readPart w g x) (fun b : Int32 × MS => b = x) 113 [some (.ref (wB w + 171)), none] [.int t0] σ (J_X12_readPart_113 n t0 σ) := by
    intro t0 σ
    refine V_istore_n (pc := 113) (vs' := [some (.ref (wB w + 171)), some (.int t0)]) dX12_readPart_113 rfl (Nat.le_of_ble_eq_true rfl) (Nat.le_of_ble_eq_true rfl) rfl ?_
    refine V_aload_n (pc := 114) dX12_readPart_114 rfl rfl ?_
    refine V_iload_n (pc := 115) dX12_readPart_115 rfl rfl ?_
    refine V_iconst (pc := 116) (v := (0 : Int32)) dX12_readPart_116 rfl ?_
    refine V_callVv (pc := 117) (As := [.int t0, .int (0 : Int32)]) (rest := []) (c_X12_emits w t0 (0 : Int32) σ) cw_X12_184 rfl rfl dX12_readPart_117 kc_171 rfl ⟨Nat.le_of_ble_eq_true rfl, Nat.le_of_ble_eq_true rfl⟩ rfl rfl (Nat.le_of_ble_eq_true rfl) (Nat.le_of_ble_eq_true rfl) (Nat.le_of_ble_eq_true rfl) rfl (fun q117 => ?_)
    refine V_sub (vs' := [none, some (.int t0)]) (show vless _ _ from ⟨rfl, trivial⟩) rfl ?_
    exact hJ120 t0 q117.2
  refine V_aload_n (pc := 0) dX12_readPart_0 rfl rfl ?_
  refine V_callVv (pc := 1) (As := []) (rest := []) (c_X12_letters w n  σ) cw_X12_111 rfl rfl dX12_readPart_1 kc_171 rfl ⟨Nat.le_of_ble_eq_true rfl, Nat.le_of_ble_eq_true rfl⟩ rfl rfl (Nat.le_of_ble_eq_true rfl) (Nat.le_of_ble_eq_true rfl) (Nat.le_of_ble_eq_true rfl) rfl (fun q1 => ?_)
  refine V_aload_n (pc := 4) dX12_readPart_4 rfl rfl ?_
  refine V_geti (pc := 5) fk_X12_87 rfl dX12_readPart_5 kc_171 rfl ?_
  refine V_aload_n (pc := 8) dX12_readPart_8 rfl rfl ?_
  refine V_geti (pc := 9) fk_X12_96 rfl dX12_readPart_9 kc_171 rfl ?_
  refine V_icmp_ne (pc := 12) (tgt := 34) dX12_readPart_12 (by decide) ?_ ?_
  · refine V_aload_n (pc := 34) dX12_readPart_34 rfl rfl ?_
    refine V_ldcS (pc := 35) (i := 10) (tx := "one") dX12_readPart_35 rfl (by decide +kernel) ?_
    refine V_callVpi (pc := 37) (As := [.ref (wS w 10)]) (rest := []) (c_X12_isWord w n 10 (by decide) q1.2) cw_X12_114 rfl rfl dX12_readPart_37 kc_171 rfl ⟨Nat.le_of_ble_eq_true rfl, Nat.le_of_ble_eq_true rfl⟩ rfl rfl (Nat.le_of_ble_eq_true rfl) (Nat.le_of_ble_eq_true rfl) (Nat.le_of_ble_eq_true rfl) rfl (fun q37 => ?_)
    refine V_if_eq (pc := 40) (tgt := 47) dX12_readPart_40 (by decide) ?_ ?_
    · refine V_aload_n (pc := 47) dX12_readPart_47 rfl rfl ?_
      refine V_ldcS (pc := 48) (i := 11) (tx := "other") dX12_readPart_48 rfl (by decide +kernel) ?_
      refine V_callVpi (pc := 50) (As := [.ref (wS w 11)]) (rest := []) (c_X12_isWord w n 11 (by decide) q1.2) cw_X12_114 rfl rfl dX12_readPart_50 kc_171 rfl ⟨Nat.le_of_ble_eq_true rfl, Nat.le_of_ble_eq_true rfl⟩ rfl rfl (Nat.le_of_ble_eq_true rfl) (Nat.le_of_ble_eq_true rfl) (Nat.le_of_ble_eq_true rfl) rfl (fun q50 => ?_)
      refine V_if_eq (pc := 53) (tgt := 60) dX12_readPart_53 (by decide) ?_ ?_
      · refine V_aload_n (pc := 60) dX12_readPart_60 rfl rfl ?_
        refine V_ldcS (pc := 61) (i := 12) (tx := "sip") dX12_readPart_61 rfl (by decide +kernel) ?_
        refine V_callVpi (pc := 63) (As := [.ref (wS w 12)]) (rest := []) (c_X12_isWord w n 12 (by decide) q1.2) cw_X12_114 rfl rfl dX12_readPart_63 kc_171 rfl ⟨Nat.le_of_ble_eq_true rfl, Nat.le_of_ble_eq_true rfl⟩ rfl rfl (Nat.le_of_ble_eq_true rfl) (Nat.le_of_ble_eq_true rfl) (Nat.le_of_ble_eq_true rfl) rfl (fun q63 => ?_)
        refine V_if_eq (pc := 66) (tgt := 73) dX12_readPart_66 (by decide) ?_ ?_
        · refine V_aload_n (pc := 73) dX12_readPart_73 rfl rfl ?_
          refine V_ldcS (pc := 74) (i := 13) (tx := "many") dX12_readPart_74 rfl (by decide +kernel) ?_
          refine V_callVpi (pc := 76) (As := [.ref (wS w 13)]) (rest := []) (c_X12_isWord w n 13 (by decide) q1.2) cw_X12_114 rfl rfl dX12_readPart_76 kc_171 rfl ⟨Nat.le_of_ble_eq_true rfl, Nat.le_of_ble_eq_true rfl⟩ rfl rfl (Nat.le_of_ble_eq_true rfl) (Nat.le_of_ble_eq_true rfl) (Nat.le_of_ble_eq_true rfl) rfl (fun q76 => ?_)
          refine V_if_eq (pc := 79) (tgt := 86) dX12_readPart_79 (by decide) ?_ ?_
          · refine V_aload_n (pc := 86) dX12_readPart_86 rfl rfl ?_
            refine V_ldcS (pc := 87) (i := 14) (tx := "liking") dX12_readPart_87 rfl (by decide +kernel) ?_
            refine V_callVpi (pc := 89) (As := [.ref (wS w 14)]) (rest := []) (c_X12_isWord w n 14 (by decide) q1.2) cw_X12_114 rfl rfl dX12_readPart_89 kc_171 rfl ⟨Nat.le_of_ble_eq_true rfl, Nat.le_of_ble_eq_true rfl⟩ rfl rfl (Nat.le_of_ble_eq_true rfl) (Nat.le_of_ble_eq_true rfl) (Nat.le_of_ble_eq_true rfl) rfl (fun q89 => ?_)
            refine V_if_eq (pc := 92) (tgt := 99) dX12_readPart_92 (by decide) ?_ ?_
            · refine V_aload_n (pc := 99) dX12_readPart_99 rfl rfl ?_
              refine V_ldcS (pc := 100) (i := 9) (tx := "day") dX12_readPart_100 rfl (by decide +kernel) ?_
              refine V_callVpi (pc := 102) (As := [.ref (wS w 9)]) (rest := []) (c_X12_isWord w n 9 (by decide) q1.2) cw_X12_114 rfl rfl dX12_readPart_102 kc_171 rfl ⟨Nat.le_of_ble_eq_true rfl, Nat.le_of_ble_eq_true rfl⟩ rfl rfl (Nat.le_of_ble_eq_true rfl) (Nat.le_of_ble_eq_true rfl) (Nat.le_of_ble_eq_true rfl) rfl (fun q102 => ?_)
              refine V_if_eq (pc := 105) (tgt := 112) dX12_readPart_105 (by decide) ?_ ?_
              · refine V_iconst (pc := 112) (v := (-1 : Int32)) dX12_readPart_112 rfl ?_
                exact hJ113 (-1 : Int32) q1.2
              · refine V_iconst (pc := 108) (v := (5 : Int32)) dX12_readPart_108 rfl ?_
                refine V_goto (pc := 109) (tgt := 113) dX12_readPart_109 (by decide) ?_
                exact hJ113 (5 : Int32) q1.2
            · refine V_iconst (pc := 95) (v := (4 : Int32)) dX12_readPart_95 rfl ?_
              refine V_goto (pc := 96) (tgt := 113) dX12_readPart_96 (by decide) ?_
              exact hJ113 (4 : Int32) q1.2
          · refine V_iconst (pc := 82) (v := (3 : Int32)) dX12_readPart_82 rfl ?_
            refine V_goto (pc := 83) (tgt := 113) dX12_readPart_83 (by decide) ?_
            exact hJ113 (3 : Int32) q1.2
        · refine V_iconst (pc := 69) (v := (2 : Int32)) dX12_readPart_69 rfl ?_
          refine V_goto (pc := 70) (tgt := 113) dX12_readPart_70 (by decide) ?_
          exact hJ113 (2 : Int32) q1.2
      · refine V_iconst (pc := 56) (v := (1 : Int32)) dX12_readPart_56 rfl ?_
        refine V_goto (pc := 57) (tgt := 113) dX12_readPart_57 (by decide) ?_
        exact hJ113 (1 : Int32) q1.2
    · refine V_iconst (pc := 43) (v := (0 : Int32)) dX12_readPart_43 rfl ?_
      refine V_goto (pc := 44) (tgt := 113) dX12_readPart_44 (by decide) ?_
      exact hJ113 (0 : Int32) q1.2
  · refine V_aload_n (pc := 15) dX12_readPart_15 rfl rfl ?_
    refine V_iconst (pc := 16) (v := (0 : Int32)) dX12_readPart_16 rfl ?_
    refine V_sipush (pc := 17) (v := (999 : Int32)) dX12_readPart_17 rfl ?_
    refine V_callVi (pc := 20) (As := [.int (0 : Int32), .int (999 : Int32)]) (rest := []) (c_X12_number w n (0 : Int32) (999 : Int32) q1.2) cw_X12_118 rfl rfl dX12_readPart_20 kc_171 rfl ⟨Nat.le_of_ble_eq_true rfl, Nat.le_of_ble_eq_true rfl⟩ rfl rfl (Nat.le_of_ble_eq_true rfl) (Nat.le_of_ble_eq_true rfl) (Nat.le_of_ble_eq_true rfl) rfl (fun q20 => ?_)
    refine V_istore_n (pc := 23) (vs' := [some (.ref (wB w + 171)), some (.int q20.1)]) dX12_readPart_23 rfl (Nat.le_of_ble_eq_true rfl) (Nat.le_of_ble_eq_true rfl) rfl ?_
    refine V_aload_n (pc := 24) dX12_readPart_24 rfl rfl ?_
    refine V_bipush (pc := 25) (v := (8 : Int32)) dX12_readPart_25 rfl ?_
    refine V_iload_n (pc := 27) dX12_readPart_27 rfl rfl ?_
    refine V_callVv (pc := 28) (As := [.int (8 : Int32), .int q20.1]) (rest := []) (c_X12_emits w (8 : Int32) q20.1 q20.2) cw_X12_184 rfl rfl dX12_readPart_28 kc_171 rfl ⟨Nat.le_of_ble_eq_true rfl, Nat.le_of_ble_eq_true rfl⟩ rfl rfl (Nat.le_of_ble_eq_true rfl) (Nat.le_of_ble_eq_true rfl) (Nat.le_of_ble_eq_true rfl) rfl (fun q28 => ?_)
    refine V_goto (pc := 31) (tgt := 120) dX12_readPart_31 (by decide) ?_
    refine V_sub (vs' := [none, some (.int q20.1)]) (show vless _ _ from ⟨rfl, trivial⟩) rfl ?_
    exact hJ120 q20.1 q28.2
def L_X12_readSum_9 (n : Nat)  (σ : MS) (a9 : MS) : Option ((MS) ⊕ (Int32 × MS)) := ((f_X12_sign n (43 : Int32) a9).bind (fun q12 => (if q12.1 = 0 then (some ((1 : Int32), q12.2)).map Sum.inr else ((f_X12_readPart n  q12.2).bind (fun q19 => (if q19.1 = 0 then (some ((0 : Int32), q19.2)).map Sum.inr else ((f_X12_emits (9 : Int32) (0 : Int32) q19.2).bind (fun q31 => some (.inl (q31.2))))))))))
def f_X12_readSum (n : Nat)  (σ : MS) : Option (Int32 × MS) := ((f_X12_readPart n  σ).bind (fun q1 => (if q1.1 = 0 then some ((0 : Int32), q1.2) else itr (L_X12_readSum_9 n  σ) n (q1.2))))
set_option maxRecDepth 20000 in
set_option maxHeartbeats 2000000 in
theorem c_X12_readSum (w : TG) (n : Nat)  (σ : MS) : MC m_X12_readSum w [.ref (wB w + 171)] σ (f_X12_readSum n  σ) := by
  refine V_meth (by decide +kernel) (Nat.le_of_ble_eq_true rfl) (by intro v hv; simp only [List.mem_cons, List.not_mem_nil, or_false] at hv; subst hv; rfl) (fun g x => ?_)
  show VV m_X12_readSum w g 0 0 (QM m_X12_readSum w g x) (fun b : Int32 × MS => b = x) 0 [some (.ref (wB w + 171))] [] σ (f_X12_readSum n  σ)
  have hL9 : ∀  (n0 : Nat) (a : MS), VV m_X12_readSum w g 0 0 (QM m_X12_readSum w g x) (fun b : Int32 × MS => b = x) 9 [some (.ref (wB w + 171))] [] a (itr (L_X12_readSum_9 n  σ) n0 a) := by
    refine V_itr (vf := fun a : MS => [some (.ref (wB w + 171))]) (sf := fun a : MS => a) (fun κ9 b9 r9 a9 => ?_)
    show VV m_X12_readSum w g 0 0 (QM m_X12_readSum w g x) κ9 9 [some (.ref (wB w + 171))] [] a9 (L_X12_readSum_9 n  σ a9)
    refine V_aload_n (pc := 9) dX12_readSum_9 rfl rfl ?_
    refine V_bipush (pc := 10) (v := (43 : Int32)) dX12_readSum_10 rfl ?_
    refine V_callVi (pc := 12) (As := [.int (43 : Int32)]) (rest := []) (c_X12_sign w n (43 : Int32) a9) cw_X12_200 rfl rfl dX12_readSum_12 kc_171 rfl ⟨Nat.le_of_ble_eq_true rfl, Nat.le_of_ble_eq_true rfl⟩ rfl rfl (Nat.le_of_ble_eq_true rfl) (Nat.le_of_ble_eq_true rfl) (Nat.le_of_ble_eq_true rfl) rfl (fun q12 => ?_)
    refine V_if_eq (pc := 15) (tgt := 37) dX12_readSum_15 (by decide) ?_ ?_
    · refine V_exit r9 ?_
      refine V_iconst (pc := 37) (v := (1 : Int32)) dX12_readSum_37 rfl ?_
      exact V_iretz (pc := 38) dX12_readSum_38 rfl rfl (hk := fun h => h)
    · refine V_aload_n (pc := 18) dX12_readSum_18 rfl rfl ?_
      refine V_callVi (pc := 19) (As := []) (rest := []) (c_X12_readPart w n  q12.2) cw_X12_197 rfl rfl dX12_readSum_19 kc_171 rfl ⟨Nat.le_of_ble_eq_true rfl, Nat.le_of_ble_eq_true rfl⟩ rfl rfl (Nat.le_of_ble_eq_true rfl) (Nat.le_of_ble_eq_true rfl) (Nat.le_of_ble_eq_true rfl) rfl (fun q19 => ?_)
      refine V_if_ne (pc := 22) (tgt := 27) dX12_readSum_22 (by decide) ?_ ?_
      · refine V_aload_n (pc := 27) dX12_readSum_27 rfl rfl ?_
        refine V_bipush (pc := 28) (v := (9 : Int32)) dX12_readSum_28 rfl ?_
        refine V_iconst (pc := 30) (v := (0 : Int32)) dX12_readSum_30 rfl ?_
        refine V_callVv (pc := 31) (As := [.int (9 : Int32), .int (0 : Int32)]) (rest := []) (c_X12_emits w (9 : Int32) (0 : Int32) q19.2) cw_X12_184 rfl rfl dX12_readSum_31 kc_171 rfl ⟨Nat.le_of_ble_eq_true rfl, Nat.le_of_ble_eq_true rfl⟩ rfl rfl (Nat.le_of_ble_eq_true rfl) (Nat.le_of_ble_eq_true rfl) (Nat.le_of_ble_eq_true rfl) rfl (fun q31 => ?_)
        refine V_goto (pc := 34) (tgt := 9) dX12_readSum_34 (by decide) ?_
        exact V_back (b9 (q31.2))
      · refine V_exit r9 ?_
        refine V_iconst (pc := 25) (v := (0 : Int32)) dX12_readSum_25 rfl ?_
        exact V_iretz (pc := 26) dX12_readSum_26 rfl rfl (hk := fun h => h)
  refine V_aload_n (pc := 0) dX12_readSum_0 rfl rfl ?_
  refine V_callVi (pc := 1) (As := []) (rest := []) (c_X12_readPart w n  σ) cw_X12_197 rfl rfl dX12_readSum_1 kc_171 rfl ⟨Nat.le_of_ble_eq_true rfl, Nat.le_of_ble_eq_true rfl⟩ rfl rfl (Nat.le_of_ble_eq_true rfl) (Nat.le_of_ble_eq_true rfl) (Nat.le_of_ble_eq_true rfl) rfl (fun q1 => ?_)
  refine V_if_ne (pc := 4) (tgt := 9) dX12_readSum_4 (by decide) ?_ ?_
  · exact hL9 n (q1.2)
  · refine V_iconst (pc := 7) (v := (0 : Int32)) dX12_readSum_7 rfl ?_
    exact V_iretz (pc := 8) dX12_readSum_8 rfl rfl (hk := fun h => h)
def J_X12_readTag_64 (n : Nat) (t0 : Int32) (σ : MS) : Option (Int32 × MS) := (if t0 = 0 ∨ t0 = 1 then some (t0, σ) else none)
def J_X12_readTag_55 (n : Nat) (v1 : Int32) (σ : MS) : Option (Int32 × MS) := (if v1 < 0 then J_X12_readTag_64 n (0 : Int32) σ else J_X12_readTag_64 n (1 : Int32) σ)
def J_X12_readTag_33 (n : Nat) (t0 : Int32) (σ : MS) : Option (Int32 × MS) := (if t0 < 0 then (ltM (mu σ 171 10 (σ 171 12)) (fun s52 => J_X12_readTag_55 n t0 s52)) else ((f_X12_emits t0 (0 : Int32) σ).bind (fun q41 => J_X12_readTag_55 n t0 q41.2)))
def f_X12_readTag (n : Nat)  (σ : MS) : Option (Int32 × MS) := ((f_X12_letters n  σ).bind (fun q1 => ((f_X12_isWord n 4 q1.2).bind (fun q7 => (if q7 = 0 then ((f_X12_isWord n 15 q1.2).bind (fun q21 => (if q21 = 0 then J_X12_readTag_33 n (-1 : Int32) q1.2 else J_X12_readTag_33 n (7 : Int32) q1.2))) else J_X12_readTag_33 n (6 : Int32) q1.2)))))
set_option maxRecDepth 20000 in
set_option maxHeartbeats 2000000 in
theorem c_X12_readTag (w : TG) (n : Nat)  (σ : MS) : MC m_X12_readTag w [.ref (wB w + 171)] σ (f_X12_readTag n  σ) := by
  refine V_meth (by decide +kernel) (Nat.le_of_ble_eq_true rfl) (by intro v hv; simp only [List.mem_cons, List.not_mem_nil, or_false] at hv; subst hv; rfl) (fun g x => ?_)
  show VV m_X12_readTag w g 0 0 (QM m_X12_readTag w g x) (fun b : Int32 × MS => b = x) 0 [some (.ref (wB w + 171)), none] [] σ (f_X12_readTag n  σ)
  have hJ64 : ∀ (t0 : Int32) (σ : MS), VV m_X12_readTag w g 0 0 (QM m_X12_readTag w g x) (fun b : Int32 × MS => b = x) 64 [none, none] [.int t0] σ (J_X12_readTag_64 n t0 σ) := by
    intro t0 σ
    exact V_iretZ (pc := 64) dX12_readTag_64 rfl (hk := fun h => h)
  have hJ55 : ∀ (v1 : Int32) (σ : MS), VV m_X12_readTag w g 0 0 (QM m_X12_readTag w g x) (fun b : Int32 × MS => b = x) 55 [none, some (.int v1)] [] σ (J_X12_readTag_55 n v1 σ) := by
    intro v1 σ
    refine V_iload_n (pc := 55) dX12_readTag_55 rfl rfl ?_
    refine V_if_lt (pc := 56) (tgt := 63) dX12_readTag_56 (by decide) ?_ ?_
    · refine V_iconst (pc := 63) (v := (0 : Int32)) dX12_readTag_63 rfl ?_
      refine V_sub (vs' := [none, none]) (show vless _ _ from trivial) rfl ?_
      exact hJ64 (0 : Int32) σ
    · refine V_iconst (pc := 59) (v := (1 : Int32)) dX12_readTag_59 rfl ?_
      refine V_goto (pc := 60) (tgt := 64) dX12_readTag_60 (by decide) ?_
      refine V_sub (vs' := [none, none]) (show vless _ _ from trivial) rfl ?_
      exact hJ64 (1 : Int32) σ
  have hJ33 : ∀ (t0 : Int32) (σ : MS), VV m_X12_readTag w g 0 0 (QM m_X12_readTag w g x) (fun b : Int32 × MS => b = x) 33 [some (.ref (wB w + 171)), none] [.int t0] σ (J_X12_readTag_33 n t0 σ) := by
    intro t0 σ
    refine V_istore_n (pc := 33) (vs' := [some (.ref (wB w + 171)), some (.int t0)]) dX12_readTag_33 rfl (Nat.le_of_ble_eq_true rfl) (Nat.le_of_ble_eq_true rfl) rfl ?_
    refine V_iload_n (pc := 34) dX12_readTag_34 rfl rfl ?_
    refine V_if_lt (pc := 35) (tgt := 47) dX12_readTag_35 (by decide) ?_ ?_
    · refine V_aload_n (pc := 47) dX12_readTag_47 rfl rfl ?_
      refine V_aload_n (pc := 48) dX12_readTag_48 rfl rfl ?_
      refine V_geti (pc := 49) fk_X12_96 rfl dX12_readTag_49 kc_171 rfl ?_
      refine V_puti (pc := 52) fp_X12_87 rfl dX12_readTag_52 kc_171 rfl (fun s52 => ?_)
      refine V_sub (vs' := [none, some (.int t0)]) (show vless _ _ from ⟨rfl, trivial⟩) rfl ?_
      exact hJ55 t0 s52
    · refine V_aload_n (pc := 38) dX12_readTag_38 rfl rfl ?_
      refine V_iload_n (pc := 39) dX12_readTag_39 rfl rfl ?_
      refine V_iconst (pc := 40) (v := (0 : Int32)) dX12_readTag_40 rfl ?_
      refine V_callVv (pc := 41) (As := [.int t0, .int (0 : Int32)]) (rest := []) (c_X12_emits w t0 (0 : Int32) σ) cw_X12_184 rfl rfl dX12_readTag_41 kc_171 rfl ⟨Nat.le_of_ble_eq_true rfl, Nat.le_of_ble_eq_true rfl⟩ rfl rfl (Nat.le_of_ble_eq_true rfl) (Nat.le_of_ble_eq_true rfl) (Nat.le_of_ble_eq_true rfl) rfl (fun q41 => ?_)
      refine V_goto (pc := 44) (tgt := 55) dX12_readTag_44 (by decide) ?_
      refine V_sub (vs' := [none, some (.int t0)]) (show vless _ _ from ⟨rfl, trivial⟩) rfl ?_
      exact hJ55 t0 q41.2
  refine V_aload_n (pc := 0) dX12_readTag_0 rfl rfl ?_
  refine V_callVv (pc := 1) (As := []) (rest := []) (c_X12_letters w n  σ) cw_X12_111 rfl rfl dX12_readTag_1 kc_171 rfl ⟨Nat.le_of_ble_eq_true rfl, Nat.le_of_ble_eq_true rfl⟩ rfl rfl (Nat.le_of_ble_eq_true rfl) (Nat.le_of_ble_eq_true rfl) (Nat.le_of_ble_eq_true rfl) rfl (fun q1 => ?_)
  refine V_aload_n (pc := 4) dX12_readTag_4 rfl rfl ?_
  refine V_ldcS (pc := 5) (i := 4) (tx := "wed") dX12_readTag_5 rfl (by decide +kernel) ?_
  refine V_callVpi (pc := 7) (As := [.ref (wS w 4)]) (rest := []) (c_X12_isWord w n 4 (by decide) q1.2) cw_X12_114 rfl rfl dX12_readTag_7 kc_171 rfl ⟨Nat.le_of_ble_eq_true rfl, Nat.le_of_ble_eq_true rfl⟩ rfl rfl (Nat.le_of_ble_eq_true rfl) (Nat.le_of_ble_eq_true rfl) (Nat.le_of_ble_eq_true rfl) rfl (fun q7 => ?_)
  refine V_if_eq (pc := 10) (tgt := 18) dX12_readTag_10 (by decide) ?_ ?_
  · refine V_aload_n (pc := 18) dX12_readTag_18 rfl rfl ?_
    refine V_ldcS (pc := 19) (i := 15) (tx := "bound") dX12_readTag_19 rfl (by decide +kernel) ?_
    refine V_callVpi (pc := 21) (As := [.ref (wS w 15)]) (rest := []) (c_X12_isWord w n 15 (by decide) q1.2) cw_X12_114 rfl rfl dX12_readTag_21 kc_171 rfl ⟨Nat.le_of_ble_eq_true rfl, Nat.le_of_ble_eq_true rfl⟩ rfl rfl (Nat.le_of_ble_eq_true rfl) (Nat.le_of_ble_eq_true rfl) (Nat.le_of_ble_eq_true rfl) rfl (fun q21 => ?_)
    refine V_if_eq (pc := 24) (tgt := 32) dX12_readTag_24 (by decide) ?_ ?_
    · refine V_iconst (pc := 32) (v := (-1 : Int32)) dX12_readTag_32 rfl ?_
      exact hJ33 (-1 : Int32) q1.2
    · refine V_bipush (pc := 27) (v := (7 : Int32)) dX12_readTag_27 rfl ?_
      refine V_goto (pc := 29) (tgt := 33) dX12_readTag_29 (by decide) ?_
      exact hJ33 (7 : Int32) q1.2
  · refine V_bipush (pc := 13) (v := (6 : Int32)) dX12_readTag_13 rfl ?_
    refine V_goto (pc := 15) (tgt := 33) dX12_readTag_15 (by decide) ?_
    exact hJ33 (6 : Int32) q1.2
def IH_gr (d : Nat) (r : RT_gr) : Prop := (∀ (w : TG)  (σ : MS), MC (mr_X12_readAtom d) w [.ref (wB w + 171)] σ (r.1  σ)) ∧ (∀ (w : TG)  (σ : MS), MC (mr_X12_readAllOf d) w [.ref (wB w + 171)] σ (r.2.1  σ)) ∧ (∀ (w : TG)  (σ : MS), MC (mr_X12_readCond d) w [.ref (wB w + 171)] σ (r.2.2  σ))
def J_X12_readAtom_173 (r : RT_gr) (n : Nat) (t0 : Int32) (σ : MS) : Option (Int32 × MS) := ((f_X12_emits t0 (0 : Int32) σ).bind (fun q174 => some ((1 : Int32), q174.2)))
def J_X12_readAtom_159 (r : RT_gr) (n : Nat)  (σ : MS) : Option (Int32 × MS) := some ((0 : Int32), σ)
def J_X12_readAtom_152 (r : RT_gr) (n : Nat) (v1 : Int32) (σ : MS) : Option (Int32 × MS) := ((f_X12_readSum n  σ).bind (fun q153 => (if q153.1 = 0 then J_X12_readAtom_159 r n  q153.2 else (if v1 = 0 then J_X12_readAtom_173 r n (11 : Int32) q153.2 else J_X12_readAtom_173 r n (10 : Int32) q153.2))))
def F_X12_readAtom (r : RT_gr) (n : Nat)  (σ : MS) : Option (Int32 × MS) := ((f_X12_sign n (40 : Int32) σ).bind (fun q3 => (if q3.1 = 0 then ((f_X12_passes n 16 q3.2).bind (fun q59 => (if q59.1 = 0 then ((f_X12_readTag n  q59.2).bind (fun q115 => (if q115.1 = 0 then ((f_X12_readSum n  q115.2).bind (fun q124 => (if q124.1 = 0 then some ((0 : Int32), q124.2) else ((f_X12_sign n (60 : Int32) q124.2).bind (fun q135 => (if q135.1 = 0 then ((f_X12_sign n (62 : Int32) q135.2).bind (fun q146 => (if q146.1 = 0 then J_X12_readAtom_159 r n  q146.2 else J_X12_readAtom_152 r n q135.1 q146.2))) else J_X12_readAtom_152 r n q135.1 q135.2)))))) else some ((1 : Int32), q115.2)))) else (if (q59.2 171 13) = (6 : Int32) then some ((0 : Int32), q59.2) else (ltM (mu q59.2 171 13 ((q59.2 171 13) + (1 : Int32))) (fun s83 => ((r.1  s83).bind (fun q87 => (if q87.1 = 0 then some ((0 : Int32), q87.2) else (ltM (mu q87.2 171 13 ((q87.2 171 13) - (1 : Int32))) (fun s102 => ((f_X12_emits (12 : Int32) (0 : Int32) s102).bind (fun q109 => some ((1 : Int32), q109.2)))))))))))))) else (if (q3.2 171 13) = (6 : Int32) then some ((0 : Int32), q3.2) else (ltM (mu q3.2 171 13 ((q3.2 171 13) + (1 : Int32))) (fun s27 => ((r.2.2  s27).bind (fun q31 => (if q31.1 = 0 then some ((0 : Int32), q31.2) else (ltM (mu q31.2 171 13 ((q31.2 171 13) - (1 : Int32))) (fun s46 => ((f_X12_sign n (41 : Int32) s46).bind (fun q52 => (if q52.1 = 0 ∨ q52.1 = 1 then some (q52.1, q52.2) else none))))))))))))))
def L_X12_readAllOf_9 (r : RT_gr) (n : Nat)  (σ : MS) (a9 : MS) : Option ((MS) ⊕ (Int32 × MS)) := ((f_X12_passes n 17 a9).bind (fun q12 => (if q12.1 = 0 then (some ((1 : Int32), q12.2)).map Sum.inr else ((r.1  q12.2).bind (fun q19 => (if q19.1 = 0 then (some ((0 : Int32), q19.2)).map Sum.inr else ((f_X12_emits (13 : Int32) (0 : Int32) q19.2).bind (fun q31 => some (.inl (q31.2))))))))))
def F_X12_readAllOf (r : RT_gr) (n : Nat)  (σ : MS) : Option (Int32 × MS) := ((r.1  σ).bind (fun q1 => (if q1.1 = 0 then some ((0 : Int32), q1.2) else itr (L_X12_readAllOf_9 r n  σ) n (q1.2))))
def L_X12_readCond_9 (r : RT_gr) (n : Nat)  (σ : MS) (a9 : MS) : Option ((MS) ⊕ (Int32 × MS)) := ((f_X12_passes n 18 a9).bind (fun q12 => (if q12.1 = 0 then (some ((1 : Int32), q12.2)).map Sum.inr else ((r.2.1  q12.2).bind (fun q19 => (if q19.1 = 0 then (some ((0 : Int32), q19.2)).map Sum.inr else ((f_X12_emits (14 : Int32) (0 : Int32) q19.2).bind (fun q31 => some (.inl (q31.2))))))))))
def F_X12_readCond (r : RT_gr) (n : Nat)  (σ : MS) : Option (Int32 × MS) := ((r.2.1  σ).bind (fun q1 => (if q1.1 = 0 then some ((0 : Int32), q1.2) else itr (L_X12_readCond_9 r n  σ) n (q1.2))))
set_option maxRecDepth 20000 in
set_option maxHeartbeats 2000000 in
theorem cst_X12_readAtom (n d : Nat) (r : RT_gr) (ih : IH_gr d r) (w : TG)  (σ : MS) : MC (mr_X12_readAtom (d + 1)) w [.ref (wB w + 171)] σ (F_X12_readAtom r n  σ) := by
  refine V_meth (by decide +kernel) (Nat.le_of_ble_eq_true rfl) (by intro v hv; simp only [List.mem_cons, List.not_mem_nil, or_false] at hv; subst hv; rfl) (fun g x => ?_)
  show VV (mr_X12_readAtom (d + 1)) w g 0 0 (QM (mr_X12_readAtom (d + 1)) w g x) (fun b : Int32 × MS => b = x) 0 [some (.ref (wB w + 171)), none] [] σ (F_X12_readAtom r n  σ)
  have hJ173 : ∀ (t0 : Int32) (σ : MS), VV (mr_X12_readAtom (d + 1)) w g 0 0 (QM (mr_X12_readAtom (d + 1)) w g x) (fun b : Int32 × MS => b = x) 173 [none, none] [.int t0, .ref (wB w + 171)] σ (J_X12_readAtom_173 r n t0 σ) := by
    intro t0 σ
    refine V_iconst (pc := 173) (v := (0 : Int32)) dX12_readAtom_173 rfl ?_
    refine V_callVv (pc := 174) (As := [.int t0, .int (0 : Int32)]) (rest := []) (c_X12_emits w t0 (0 : Int32) σ) cw_X12_184 rfl rfl dX12_readAtom_174 kc_171 rfl ⟨by simp only [mr_X12_readAtom, m_X12_emits]; omega, by simp only [mr_X12_readAtom, m_X12_emits]; omega⟩ rfl rfl (Nat.le_of_ble_eq_true rfl) (Nat.le_of_ble_eq_true rfl) (Nat.le_of_ble_eq_true rfl) rfl (fun q174 => ?_)
    refine V_iconst (pc := 177) (v := (1 : Int32)) dX12_readAtom_177 rfl ?_
    exact V_iretz (pc := 178) dX12_readAtom_178 rfl rfl (hk := fun h => h)
  have hJ159 : ∀ (σ : MS), VV (mr_X12_readAtom (d + 1)) w g 0 0 (QM (mr_X12_readAtom (d + 1)) w g x) (fun b : Int32 × MS => b = x) 159 [none, none] [] σ (J_X12_readAtom_159 r n  σ) := by
    intro σ
    refine V_iconst (pc := 159) (v := (0 : Int32)) dX12_readAtom_159 rfl ?_
    exact V_iretz (pc := 160) dX12_readAtom_160 rfl rfl (hk := fun h => h)
  have hJ152 : ∀ (v1 : Int32) (σ : MS), VV (mr_X12_readAtom (d + 1)) w g 0 0 (QM (mr_X12_readAtom (d + 1)) w g x) (fun b : Int32 × MS => b = x) 152 [some (.ref (wB w + 171)), some (.int v1)] [] σ (J_X12_readAtom_152 r n v1 σ) := by
    intro v1 σ
    refine V_aload_n (pc := 152) dX12_readAtom_152 rfl rfl ?_
    refine V_callVi (pc := 153) (As := []) (rest := []) (c_X12_readSum w n  σ) cw_X12_222 rfl rfl dX12_readAtom_153 kc_171 rfl ⟨by simp only [mr_X12_readAtom, m_X12_readSum]; omega, by simp only [mr_X12_readAtom, m_X12_readSum]; omega⟩ rfl rfl (Nat.le_of_ble_eq_true rfl) (Nat.le_of_ble_eq_true rfl) (Nat.le_of_ble_eq_true rfl) rfl (fun q153 => ?_)
    refine V_if_ne (pc := 156) (tgt := 161) dX12_readAtom_156 (by decide) ?_ ?_
    · refine V_aload_n (pc := 161) dX12_readAtom_161 rfl rfl ?_
      refine V_iload_n (pc := 162) dX12_readAtom_162 rfl rfl ?_
      refine V_if_eq (pc := 163) (tgt := 171) dX12_readAtom_163 (by decide) ?_ ?_
      · refine V_bipush (pc := 171) (v := (11 : Int32)) dX12_readAtom_171 rfl ?_
        refine V_sub (vs' := [none, none]) (show vless _ _ from trivial) rfl ?_
        exact hJ173 (11 : Int32) q153.2
      · refine V_bipush (pc := 166) (v := (10 : Int32)) dX12_readAtom_166 rfl ?_
        refine V_goto (pc := 168) (tgt := 173) dX12_readAtom_168 (by decide) ?_
        refine V_sub (vs' := [none, none]) (show vless _ _ from trivial) rfl ?_
        exact hJ173 (10 : Int32) q153.2
    · refine V_sub (vs' := [none, none]) (show vless _ _ from trivial) rfl ?_
      exact hJ159 q153.2
  refine V_aload_n (pc := 0) dX12_readAtom_0 rfl rfl ?_
  refine V_bipush (pc := 1) (v := (40 : Int32)) dX12_readAtom_1 rfl ?_
  refine V_callVi (pc := 3) (As := [.int (40 : Int32)]) (rest := []) (c_X12_sign w n (40 : Int32) σ) cw_X12_200 rfl rfl dX12_readAtom_3 kc_171 rfl ⟨by simp only [mr_X12_readAtom, m_X12_sign]; omega, by simp only [mr_X12_readAtom, m_X12_sign]; omega⟩ rfl rfl (Nat.le_of_ble_eq_true rfl) (Nat.le_of_ble_eq_true rfl) (Nat.le_of_ble_eq_true rfl) rfl (fun q3 => ?_)
  refine V_if_eq (pc := 6) (tgt := 56) dX12_readAtom_6 (by decide) ?_ ?_
  · refine V_aload_n (pc := 56) dX12_readAtom_56 rfl rfl ?_
    refine V_ldcS (pc := 57) (i := 16) (tx := "not") dX12_readAtom_57 rfl (by decide +kernel) ?_
    refine V_callVi (pc := 59) (As := [.ref (wS w 16)]) (rest := []) (c_X12_passes w n 16 (by decide) q3.2) cw_X12_213 rfl rfl dX12_readAtom_59 kc_171 rfl ⟨by simp only [mr_X12_readAtom, m_X12_passes]; omega, by simp only [mr_X12_readAtom, m_X12_passes]; omega⟩ rfl rfl (Nat.le_of_ble_eq_true rfl) (Nat.le_of_ble_eq_true rfl) (Nat.le_of_ble_eq_true rfl) rfl (fun q59 => ?_)
    refine V_if_eq (pc := 62) (tgt := 114) dX12_readAtom_62 (by decide) ?_ ?_
    · refine V_aload_n (pc := 114) dX12_readAtom_114 rfl rfl ?_
      refine V_callVi (pc := 115) (As := []) (rest := []) (c_X12_readTag w n  q59.2) cw_X12_219 rfl rfl dX12_readAtom_115 kc_171 rfl ⟨by simp only [mr_X12_readAtom, m_X12_readTag]; omega, by simp only [mr_X12_readAtom, m_X12_readTag]; omega⟩ rfl rfl (Nat.le_of_ble_eq_true rfl) (Nat.le_of_ble_eq_true rfl) (Nat.le_of_ble_eq_true rfl) rfl (fun q115 => ?_)
      refine V_if_eq (pc := 118) (tgt := 123) dX12_readAtom_118 (by decide) ?_ ?_
      · refine V_aload_n (pc := 123) dX12_readAtom_123 rfl rfl ?_
        refine V_callVi (pc := 124) (As := []) (rest := []) (c_X12_readSum w n  q115.2) cw_X12_222 rfl rfl dX12_readAtom_124 kc_171 rfl ⟨by simp only [mr_X12_readAtom, m_X12_readSum]; omega, by simp only [mr_X12_readAtom, m_X12_readSum]; omega⟩ rfl rfl (Nat.le_of_ble_eq_true rfl) (Nat.le_of_ble_eq_true rfl) (Nat.le_of_ble_eq_true rfl) rfl (fun q124 => ?_)
        refine V_if_ne (pc := 127) (tgt := 132) dX12_readAtom_127 (by decide) ?_ ?_
        · refine V_aload_n (pc := 132) dX12_readAtom_132 rfl rfl ?_
          refine V_bipush (pc := 133) (v := (60 : Int32)) dX12_readAtom_133 rfl ?_
          refine V_callVi (pc := 135) (As := [.int (60 : Int32)]) (rest := []) (c_X12_sign w n (60 : Int32) q124.2) cw_X12_200 rfl rfl dX12_readAtom_135 kc_171 rfl ⟨by simp only [mr_X12_readAtom, m_X12_sign]; omega, by simp only [mr_X12_readAtom, m_X12_sign]; omega⟩ rfl rfl (Nat.le_of_ble_eq_true rfl) (Nat.le_of_ble_eq_true rfl) (Nat.le_of_ble_eq_true rfl) rfl (fun q135 => ?_)
          refine V_istore_n (pc := 138) (vs' := [some (.ref (wB w + 171)), some (.int q135.1)]) dX12_readAtom_138 rfl (Nat.le_of_ble_eq_true rfl) (Nat.le_of_ble_eq_true rfl) rfl ?_
          refine V_iload_n (pc := 139) dX12_readAtom_139 rfl rfl ?_
          refine V_if_ne (pc := 140) (tgt := 152) dX12_readAtom_140 (by decide) ?_ ?_
          · exact hJ152 q135.1 q135.2
          · refine V_aload_n (pc := 143) dX12_readAtom_143 rfl rfl ?_
            refine V_bipush (pc := 144) (v := (62 : Int32)) dX12_readAtom_144 rfl ?_
            refine V_callVi (pc := 146) (As := [.int (62 : Int32)]) (rest := []) (c_X12_sign w n (62 : Int32) q135.2) cw_X12_200 rfl rfl dX12_readAtom_146 kc_171 rfl ⟨by simp only [mr_X12_readAtom, m_X12_sign]; omega, by simp only [mr_X12_readAtom, m_X12_sign]; omega⟩ rfl rfl (Nat.le_of_ble_eq_true rfl) (Nat.le_of_ble_eq_true rfl) (Nat.le_of_ble_eq_true rfl) rfl (fun q146 => ?_)
            refine V_if_eq (pc := 149) (tgt := 159) dX12_readAtom_149 (by decide) ?_ ?_
            · refine V_sub (vs' := [none, none]) (show vless _ _ from trivial) rfl ?_
              exact hJ159 q146.2
            · exact hJ152 q135.1 q146.2
        · refine V_iconst (pc := 130) (v := (0 : Int32)) dX12_readAtom_130 rfl ?_
          exact V_iretz (pc := 131) dX12_readAtom_131 rfl rfl (hk := fun h => h)
      · refine V_iconst (pc := 121) (v := (1 : Int32)) dX12_readAtom_121 rfl ?_
        exact V_iretz (pc := 122) dX12_readAtom_122 rfl rfl (hk := fun h => h)
    · refine V_aload_n (pc := 65) dX12_readAtom_65 rfl rfl ?_
      refine V_geti (pc := 66) fk_X12_205 rfl dX12_readAtom_66 kc_171 rfl ?_
      refine V_bipush (pc := 69) (v := (6 : Int32)) dX12_readAtom_69 rfl ?_
      refine V_icmp_ne (pc := 71) (tgt := 76) dX12_readAtom_71 (by decide) ?_ ?_
      · refine V_aload_n (pc := 76) dX12_readAtom_76 rfl rfl ?_
        refine V_dup (pc := 77) dX12_readAtom_77 rfl ?_
        refine V_geti (pc := 78) fk_X12_205 rfl dX12_readAtom_78 kc_171 rfl ?_
        refine V_iconst (pc := 81) (v := (1 : Int32)) dX12_readAtom_81 rfl ?_
        refine V_iadd (pc := 82) dX12_readAtom_82 ?_
        refine V_puti (pc := 83) fp_X12_205 rfl dX12_readAtom_83 kc_171 rfl (fun s83 => ?_)
        refine V_aload_n (pc := 86) dX12_readAtom_86 rfl rfl ?_
        refine V_callVi (pc := 87) (As := []) (rest := []) (ih.1 w s83) cw_X12_216 rfl rfl dX12_readAtom_87 kc_171 rfl ⟨by simp only [mr_X12_readAtom, mr_X12_readAtom]; omega, by simp only [mr_X12_readAtom, mr_X12_readAtom]; omega⟩ rfl rfl (Nat.le_of_ble_eq_true rfl) (Nat.le_of_ble_eq_true rfl) (Nat.le_of_ble_eq_true rfl) rfl (fun q87 => ?_)
        refine V_if_ne (pc := 90) (tgt := 95) dX12_readAtom_90 (by decide) ?_ ?_
        · refine V_aload_n (pc := 95) dX12_readAtom_95 rfl rfl ?_
          refine V_dup (pc := 96) dX12_readAtom_96 rfl ?_
          refine V_geti (pc := 97) fk_X12_205 rfl dX12_readAtom_97 kc_171 rfl ?_
          refine V_iconst (pc := 100) (v := (1 : Int32)) dX12_readAtom_100 rfl ?_
          refine V_isub (pc := 101) dX12_readAtom_101 ?_
          refine V_puti (pc := 102) fp_X12_205 rfl dX12_readAtom_102 kc_171 rfl (fun s102 => ?_)
          refine V_aload_n (pc := 105) dX12_readAtom_105 rfl rfl ?_
          refine V_bipush (pc := 106) (v := (12 : Int32)) dX12_readAtom_106 rfl ?_
          refine V_iconst (pc := 108) (v := (0 : Int32)) dX12_readAtom_108 rfl ?_
          refine V_callVv (pc := 109) (As := [.int (12 : Int32), .int (0 : Int32)]) (rest := []) (c_X12_emits w (12 : Int32) (0 : Int32) s102) cw_X12_184 rfl rfl dX12_readAtom_109 kc_171 rfl ⟨by simp only [mr_X12_readAtom, m_X12_emits]; omega, by simp only [mr_X12_readAtom, m_X12_emits]; omega⟩ rfl rfl (Nat.le_of_ble_eq_true rfl) (Nat.le_of_ble_eq_true rfl) (Nat.le_of_ble_eq_true rfl) rfl (fun q109 => ?_)
          refine V_iconst (pc := 112) (v := (1 : Int32)) dX12_readAtom_112 rfl ?_
          exact V_iretz (pc := 113) dX12_readAtom_113 rfl rfl (hk := fun h => h)
        · refine V_iconst (pc := 93) (v := (0 : Int32)) dX12_readAtom_93 rfl ?_
          exact V_iretz (pc := 94) dX12_readAtom_94 rfl rfl (hk := fun h => h)
      · refine V_iconst (pc := 74) (v := (0 : Int32)) dX12_readAtom_74 rfl ?_
        exact V_iretz (pc := 75) dX12_readAtom_75 rfl rfl (hk := fun h => h)
  · refine V_aload_n (pc := 9) dX12_readAtom_9 rfl rfl ?_
    refine V_geti (pc := 10) fk_X12_205 rfl dX12_readAtom_10 kc_171 rfl ?_
    refine V_bipush (pc := 13) (v := (6 : Int32)) dX12_readAtom_13 rfl ?_
    refine V_icmp_ne (pc := 15) (tgt := 20) dX12_readAtom_15 (by decide) ?_ ?_
    · refine V_aload_n (pc := 20) dX12_readAtom_20 rfl rfl ?_
      refine V_dup (pc := 21) dX12_readAtom_21 rfl ?_
      refine V_geti (pc := 22) fk_X12_205 rfl dX12_readAtom_22 kc_171 rfl ?_
      refine V_iconst (pc := 25) (v := (1 : Int32)) dX12_readAtom_25 rfl ?_
      refine V_iadd (pc := 26) dX12_readAtom_26 ?_
      refine V_puti (pc := 27) fp_X12_205 rfl dX12_readAtom_27 kc_171 rfl (fun s27 => ?_)
      refine V_aload_n (pc := 30) dX12_readAtom_30 rfl rfl ?_
      refine V_callVi (pc := 31) (As := []) (rest := []) (ih.2.2 w s27) cw_X12_208 rfl rfl dX12_readAtom_31 kc_171 rfl ⟨by simp only [mr_X12_readAtom, mr_X12_readCond]; omega, by simp only [mr_X12_readAtom, mr_X12_readCond]; omega⟩ rfl rfl (Nat.le_of_ble_eq_true rfl) (Nat.le_of_ble_eq_true rfl) (Nat.le_of_ble_eq_true rfl) rfl (fun q31 => ?_)
      refine V_if_ne (pc := 34) (tgt := 39) dX12_readAtom_34 (by decide) ?_ ?_
      · refine V_aload_n (pc := 39) dX12_readAtom_39 rfl rfl ?_
        refine V_dup (pc := 40) dX12_readAtom_40 rfl ?_
        refine V_geti (pc := 41) fk_X12_205 rfl dX12_readAtom_41 kc_171 rfl ?_
        refine V_iconst (pc := 44) (v := (1 : Int32)) dX12_readAtom_44 rfl ?_
        refine V_isub (pc := 45) dX12_readAtom_45 ?_
        refine V_puti (pc := 46) fp_X12_205 rfl dX12_readAtom_46 kc_171 rfl (fun s46 => ?_)
        refine V_aload_n (pc := 49) dX12_readAtom_49 rfl rfl ?_
        refine V_bipush (pc := 50) (v := (41 : Int32)) dX12_readAtom_50 rfl ?_
        refine V_callVi (pc := 52) (As := [.int (41 : Int32)]) (rest := []) (c_X12_sign w n (41 : Int32) s46) cw_X12_200 rfl rfl dX12_readAtom_52 kc_171 rfl ⟨by simp only [mr_X12_readAtom, m_X12_sign]; omega, by simp only [mr_X12_readAtom, m_X12_sign]; omega⟩ rfl rfl (Nat.le_of_ble_eq_true rfl) (Nat.le_of_ble_eq_true rfl) (Nat.le_of_ble_eq_true rfl) rfl (fun q52 => ?_)
        exact V_iretZ (pc := 55) dX12_readAtom_55 rfl (hk := fun h => h)
      · refine V_iconst (pc := 37) (v := (0 : Int32)) dX12_readAtom_37 rfl ?_
        exact V_iretz (pc := 38) dX12_readAtom_38 rfl rfl (hk := fun h => h)
    · refine V_iconst (pc := 18) (v := (0 : Int32)) dX12_readAtom_18 rfl ?_
      exact V_iretz (pc := 19) dX12_readAtom_19 rfl rfl (hk := fun h => h)
set_option maxRecDepth 20000 in
set_option maxHeartbeats 2000000 in
theorem cst_X12_readAllOf (n d : Nat) (r : RT_gr) (ih : IH_gr d r) (w : TG)  (σ : MS) : MC (mr_X12_readAllOf (d + 1)) w [.ref (wB w + 171)] σ (F_X12_readAllOf r n  σ) := by
  refine V_meth (by decide +kernel) (Nat.le_of_ble_eq_true rfl) (by intro v hv; simp only [List.mem_cons, List.not_mem_nil, or_false] at hv; subst hv; rfl) (fun g x => ?_)
  show VV (mr_X12_readAllOf (d + 1)) w g 0 0 (QM (mr_X12_readAllOf (d + 1)) w g x) (fun b : Int32 × MS => b = x) 0 [some (.ref (wB w + 171))] [] σ (F_X12_readAllOf r n  σ)
  have hL9 : ∀  (n0 : Nat) (a : MS), VV (mr_X12_readAllOf (d + 1)) w g 0 0 (QM (mr_X12_readAllOf (d + 1)) w g x) (fun b : Int32 × MS => b = x) 9 [some (.ref (wB w + 171))] [] a (itr (L_X12_readAllOf_9 r n  σ) n0 a) := by
    refine V_itr (vf := fun a : MS => [some (.ref (wB w + 171))]) (sf := fun a : MS => a) (fun κ9 b9 r9 a9 => ?_)
    show VV (mr_X12_readAllOf (d + 1)) w g 0 0 (QM (mr_X12_readAllOf (d + 1)) w g x) κ9 9 [some (.ref (wB w + 171))] [] a9 (L_X12_readAllOf_9 r n  σ a9)
    refine V_aload_n (pc := 9) dX12_readAllOf_9 rfl rfl ?_
    refine V_ldcS (pc := 10) (i := 17) (tx := "and") dX12_readAllOf_10 rfl (by decide +kernel) ?_
    refine V_callVi (pc := 12) (As := [.ref (wS w 17)]) (rest := []) (c_X12_passes w n 17 (by decide) a9) cw_X12_213 rfl rfl dX12_readAllOf_12 kc_171 rfl ⟨by simp only [mr_X12_readAllOf, m_X12_passes]; omega, by simp only [mr_X12_readAllOf, m_X12_passes]; omega⟩ rfl rfl (Nat.le_of_ble_eq_true rfl) (Nat.le_of_ble_eq_true rfl) (Nat.le_of_ble_eq_true rfl) rfl (fun q12 => ?_)
    refine V_if_eq (pc := 15) (tgt := 37) dX12_readAllOf_15 (by decide) ?_ ?_
    · refine V_exit r9 ?_
      refine V_iconst (pc := 37) (v := (1 : Int32)) dX12_readAllOf_37 rfl ?_
      exact V_iretz (pc := 38) dX12_readAllOf_38 rfl rfl (hk := fun h => h)
    · refine V_aload_n (pc := 18) dX12_readAllOf_18 rfl rfl ?_
      refine V_callVi (pc := 19) (As := []) (rest := []) (ih.1 w q12.2) cw_X12_216 rfl rfl dX12_readAllOf_19 kc_171 rfl ⟨by simp only [mr_X12_readAllOf, mr_X12_readAtom]; omega, by simp only [mr_X12_readAllOf, mr_X12_readAtom]; omega⟩ rfl rfl (Nat.le_of_ble_eq_true rfl) (Nat.le_of_ble_eq_true rfl) (Nat.le_of_ble_eq_true rfl) rfl (fun q19 => ?_)
      refine V_if_ne (pc := 22) (tgt := 27) dX12_readAllOf_22 (by decide) ?_ ?_
      · refine V_aload_n (pc := 27) dX12_readAllOf_27 rfl rfl ?_
        refine V_bipush (pc := 28) (v := (13 : Int32)) dX12_readAllOf_28 rfl ?_
        refine V_iconst (pc := 30) (v := (0 : Int32)) dX12_readAllOf_30 rfl ?_
        refine V_callVv (pc := 31) (As := [.int (13 : Int32), .int (0 : Int32)]) (rest := []) (c_X12_emits w (13 : Int32) (0 : Int32) q19.2) cw_X12_184 rfl rfl dX12_readAllOf_31 kc_171 rfl ⟨by simp only [mr_X12_readAllOf, m_X12_emits]; omega, by simp only [mr_X12_readAllOf, m_X12_emits]; omega⟩ rfl rfl (Nat.le_of_ble_eq_true rfl) (Nat.le_of_ble_eq_true rfl) (Nat.le_of_ble_eq_true rfl) rfl (fun q31 => ?_)
        refine V_goto (pc := 34) (tgt := 9) dX12_readAllOf_34 (by decide) ?_
        exact V_back (b9 (q31.2))
      · refine V_exit r9 ?_
        refine V_iconst (pc := 25) (v := (0 : Int32)) dX12_readAllOf_25 rfl ?_
        exact V_iretz (pc := 26) dX12_readAllOf_26 rfl rfl (hk := fun h => h)
  refine V_aload_n (pc := 0) dX12_readAllOf_0 rfl rfl ?_
  refine V_callVi (pc := 1) (As := []) (rest := []) (ih.1 w σ) cw_X12_216 rfl rfl dX12_readAllOf_1 kc_171 rfl ⟨by simp only [mr_X12_readAllOf, mr_X12_readAtom]; omega, by simp only [mr_X12_readAllOf, mr_X12_readAtom]; omega⟩ rfl rfl (Nat.le_of_ble_eq_true rfl) (Nat.le_of_ble_eq_true rfl) (Nat.le_of_ble_eq_true rfl) rfl (fun q1 => ?_)
  refine V_if_ne (pc := 4) (tgt := 9) dX12_readAllOf_4 (by decide) ?_ ?_
  · exact hL9 n (q1.2)
  · refine V_iconst (pc := 7) (v := (0 : Int32)) dX12_readAllOf_7 rfl ?_
    exact V_iretz (pc := 8) dX12_readAllOf_8 rfl rfl (hk := fun h => h)
set_option maxRecDepth 20000 in
set_option maxHeartbeats 2000000 in
theorem cst_X12_readCond (n d : Nat) (r : RT_gr) (ih : IH_gr d r) (w : TG)  (σ : MS) : MC (mr_X12_readCond (d + 1)) w [.ref (wB w + 171)] σ (F_X12_readCond r n  σ) := by
  refine V_meth (by decide +kernel) (Nat.le_of_ble_eq_true rfl) (by intro v hv; simp only [List.mem_cons, List.not_mem_nil, or_false] at hv; subst hv; rfl) (fun g x => ?_)
  show VV (mr_X12_readCond (d + 1)) w g 0 0 (QM (mr_X12_readCond (d + 1)) w g x) (fun b : Int32 × MS => b = x) 0 [some (.ref (wB w + 171))] [] σ (F_X12_readCond r n  σ)
  have hL9 : ∀  (n0 : Nat) (a : MS), VV (mr_X12_readCond (d + 1)) w g 0 0 (QM (mr_X12_readCond (d + 1)) w g x) (fun b : Int32 × MS => b = x) 9 [some (.ref (wB w + 171))] [] a (itr (L_X12_readCond_9 r n  σ) n0 a) := by
    refine V_itr (vf := fun a : MS => [some (.ref (wB w + 171))]) (sf := fun a : MS => a) (fun κ9 b9 r9 a9 => ?_)
    show VV (mr_X12_readCond (d + 1)) w g 0 0 (QM (mr_X12_readCond (d + 1)) w g x) κ9 9 [some (.ref (wB w + 171))] [] a9 (L_X12_readCond_9 r n  σ a9)
    refine V_aload_n (pc := 9) dX12_readCond_9 rfl rfl ?_
    refine V_ldcS (pc := 10) (i := 18) (tx := "or") dX12_readCond_10 rfl (by decide +kernel) ?_
    refine V_callVi (pc := 12) (As := [.ref (wS w 18)]) (rest := []) (c_X12_passes w n 18 (by decide) a9) cw_X12_213 rfl rfl dX12_readCond_12 kc_171 rfl ⟨by simp only [mr_X12_readCond, m_X12_passes]; omega, by simp only [mr_X12_readCond, m_X12_passes]; omega⟩ rfl rfl (Nat.le_of_ble_eq_true rfl) (Nat.le_of_ble_eq_true rfl) (Nat.le_of_ble_eq_true rfl) rfl (fun q12 => ?_)
    refine V_if_eq (pc := 15) (tgt := 37) dX12_readCond_15 (by decide) ?_ ?_
    · refine V_exit r9 ?_
      refine V_iconst (pc := 37) (v := (1 : Int32)) dX12_readCond_37 rfl ?_
      exact V_iretz (pc := 38) dX12_readCond_38 rfl rfl (hk := fun h => h)
    · refine V_aload_n (pc := 18) dX12_readCond_18 rfl rfl ?_
      refine V_callVi (pc := 19) (As := []) (rest := []) (ih.2.1 w q12.2) cw_X12_227 rfl rfl dX12_readCond_19 kc_171 rfl ⟨by simp only [mr_X12_readCond, mr_X12_readAllOf]; omega, by simp only [mr_X12_readCond, mr_X12_readAllOf]; omega⟩ rfl rfl (Nat.le_of_ble_eq_true rfl) (Nat.le_of_ble_eq_true rfl) (Nat.le_of_ble_eq_true rfl) rfl (fun q19 => ?_)
      refine V_if_ne (pc := 22) (tgt := 27) dX12_readCond_22 (by decide) ?_ ?_
      · refine V_aload_n (pc := 27) dX12_readCond_27 rfl rfl ?_
        refine V_bipush (pc := 28) (v := (14 : Int32)) dX12_readCond_28 rfl ?_
        refine V_iconst (pc := 30) (v := (0 : Int32)) dX12_readCond_30 rfl ?_
        refine V_callVv (pc := 31) (As := [.int (14 : Int32), .int (0 : Int32)]) (rest := []) (c_X12_emits w (14 : Int32) (0 : Int32) q19.2) cw_X12_184 rfl rfl dX12_readCond_31 kc_171 rfl ⟨by simp only [mr_X12_readCond, m_X12_emits]; omega, by simp only [mr_X12_readCond, m_X12_emits]; omega⟩ rfl rfl (Nat.le_of_ble_eq_true rfl) (Nat.le_of_ble_eq_true rfl) (Nat.le_of_ble_eq_true rfl) rfl (fun q31 => ?_)
        refine V_goto (pc := 34) (tgt := 9) dX12_readCond_34 (by decide) ?_
        exact V_back (b9 (q31.2))
      · refine V_exit r9 ?_
        refine V_iconst (pc := 25) (v := (0 : Int32)) dX12_readCond_25 rfl ?_
        exact V_iretz (pc := 26) dX12_readCond_26 rfl rfl (hk := fun h => h)
  refine V_aload_n (pc := 0) dX12_readCond_0 rfl rfl ?_
  refine V_callVi (pc := 1) (As := []) (rest := []) (ih.2.1 w σ) cw_X12_227 rfl rfl dX12_readCond_1 kc_171 rfl ⟨by simp only [mr_X12_readCond, mr_X12_readAllOf]; omega, by simp only [mr_X12_readCond, mr_X12_readAllOf]; omega⟩ rfl rfl (Nat.le_of_ble_eq_true rfl) (Nat.le_of_ble_eq_true rfl) (Nat.le_of_ble_eq_true rfl) rfl (fun q1 => ?_)
  refine V_if_ne (pc := 4) (tgt := 9) dX12_readCond_4 (by decide) ?_ ?_
  · exact hL9 n (q1.2)
  · refine V_iconst (pc := 7) (v := (0 : Int32)) dX12_readCond_7 rfl ?_
    exact V_iretz (pc := 8) dX12_readCond_8 rfl rfl (hk := fun h => h)
def G_gr (n : Nat) : Nat → RT_gr
  | 0 => ((fun  _ => none), (fun  _ => none), (fun  _ => none))
  | d + 1 => (F_X12_readAtom (G_gr n d) n, F_X12_readAllOf (G_gr n d) n, F_X12_readCond (G_gr n d) n)
theorem cg_gr (n : Nat) : ∀ d, IH_gr d (G_gr n d) := by
  intro d
  induction d with
  | zero => exact ⟨fun _  _ _ _ _ h => by cases h, fun _  _ _ _ _ h => by cases h, fun _  _ _ _ _ h => by cases h⟩
  | succ d ih => exact ⟨cst_X12_readAtom n d _ ih, cst_X12_readAllOf n d _ ih, cst_X12_readCond n d _ ih⟩
def f_X12_readAtom (n : Nat)  (σ : MS) : Option (Int32 × MS) := (G_gr n 30).1  σ
theorem c_X12_readAtom (w : TG) (n : Nat)  (σ : MS) : MC m_X12_readAtom w [.ref (wB w + 171)] σ (f_X12_readAtom n  σ) := (cg_gr n 30).1 w  σ
def f_X12_readAllOf (n : Nat)  (σ : MS) : Option (Int32 × MS) := (G_gr n 30).2.1  σ
theorem c_X12_readAllOf (w : TG) (n : Nat)  (σ : MS) : MC m_X12_readAllOf w [.ref (wB w + 171)] σ (f_X12_readAllOf n  σ) := (cg_gr n 30).2.1 w  σ
def f_X12_readCond (n : Nat)  (σ : MS) : Option (Int32 × MS) := (G_gr n 30).2.2  σ
theorem c_X12_readCond (w : TG) (n : Nat)  (σ : MS) : MC m_X12_readCond w [.ref (wB w + 171)] σ (f_X12_readCond n  σ) := (cg_gr n 30).2.2 w  σ
def J_X12_readLawLine_128 (n : Nat) (v2 : Int32) (σ : MS) : Option (Int32 × MS) := (if inb (v2 + (3 : Int32)) 2172 then ltM (mu σ 172 (ix (v2 + (3 : Int32))) (σ 171 16)) (fun s139 => some ((1 : Int32), s139)) else none)
def J_X12_readLawLine_53 (n : Nat) (v2 : Int32) (t0 : Int32) (t1 : Int32) (σ : MS) : Option (Int32 × MS) := (if inb t1 2172 then ltM (mu σ 172 (ix t1) t0) (fun s53 => (if inb v2 2172 then (if 0 ≤ (s53 172 (ix v2)) then ((f_X12_number n (0 : Int32) (99 : Int32) s53).bind (fun q76 => (if inb (v2 + (1 : Int32)) 2172 then ltM (mu q76.2 172 (ix (v2 + (1 : Int32))) q76.1) (fun s79 => (if inb (v2 + (1 : Int32)) 2172 then (if 0 ≤ (s79 172 (ix (v2 + (1 : Int32)))) then (if inb (v2 + (2 : Int32)) 2172 then ltM (mu s79 172 (ix (v2 + (2 : Int32))) (s79 171 16)) (fun s104 => (ltM (mu s104 171 13 (0 : Int32)) (fun s107 => ((f_X12_passes n 22 s107).bind (fun q113 => (if q113.1 = 0 then J_X12_readLawLine_128 n v2 q113.2 else ((f_X12_readCond n  q113.2).bind (fun q120 => (if q120.1 = 0 then some ((0 : Int32), q120.2) else J_X12_readLawLine_128 n v2 q120.2))))))))) else none) else some ((0 : Int32), s79)) else none)) else none))) else some ((0 : Int32), s53)) else none)) else none)
def f_X12_readLawLine (n : Nat) (p1 : Int32) (σ : MS) : Option (Int32 × MS) := ((f_X12_isWord n 19 σ).bind (fun q16 => (if q16 = 0 then ((f_X12_isWord n 20 σ).bind (fun q29 => (if q29 = 0 then ((f_X12_isWord n 21 σ).bind (fun q42 => (if q42 = 0 then J_X12_readLawLine_53 n ((1324 : Int32) + ((4 : Int32) * p1)) (-1 : Int32) ((1324 : Int32) + ((4 : Int32) * p1)) σ else J_X12_readLawLine_53 n ((1324 : Int32) + ((4 : Int32) * p1)) (2 : Int32) ((1324 : Int32) + ((4 : Int32) * p1)) σ))) else J_X12_readLawLine_53 n ((1324 : Int32) + ((4 : Int32) * p1)) (1 : Int32) ((1324 : Int32) + ((4 : Int32) * p1)) σ))) else J_X12_readLawLine_53 n ((1324 : Int32) + ((4 : Int32) * p1)) (0 : Int32) ((1324 : Int32) + ((4 : Int32) * p1)) σ)))
set_option maxRecDepth 20000 in
set_option maxHeartbeats 2000000 in
theorem c_X12_readLawLine (w : TG) (n : Nat) (p1 : Int32) (σ : MS) : MC m_X12_readLawLine w [.ref (wB w + 171), .int p1] σ (f_X12_readLawLine n p1 σ) := by
  refine V_meth (by decide +kernel) (Nat.le_of_ble_eq_true rfl) (by intro v hv; simp only [List.mem_cons, List.not_mem_nil, or_false] at hv; rcases hv with rfl | rfl <;> rfl) (fun g x => ?_)
  show VV m_X12_readLawLine w g 0 0 (QM m_X12_readLawLine w g x) (fun b : Int32 × MS => b = x) 0 [some (.ref (wB w + 171)), some (.int p1), none] [] σ (f_X12_readLawLine n p1 σ)
  have hJ128 : ∀ (v2 : Int32) (σ : MS), VV m_X12_readLawLine w g 0 0 (QM m_X12_readLawLine w g x) (fun b : Int32 × MS => b = x) 128 [some (.ref (wB w + 171)), none, some (.int v2)] [] σ (J_X12_readLawLine_128 n v2 σ) := by
    intro v2 σ
    refine V_aload_n (pc := 128) dX12_readLawLine_128 rfl rfl ?_
    refine V_getr (pc := 129) (t := 172) fk_X12_13 rfl dX12_readLawLine_129 kc_171 rfl ?_
    refine V_iload_n (pc := 132) dX12_readLawLine_132 rfl rfl ?_
    refine V_iconst (pc := 133) (v := (3 : Int32)) dX12_readLawLine_133 rfl ?_
    refine V_iadd (pc := 134) dX12_readLawLine_134 ?_
    refine V_aload_n (pc := 135) dX12_readLawLine_135 rfl rfl ?_
    refine V_geti (pc := 136) fk_X12_181 rfl dX12_readLawLine_136 kc_171 rfl ?_
    refine V_iast (pc := 139) (n := 2172) dX12_readLawLine_139 kc_172 lc_172 (fun s139 => ?_)
    refine V_iconst (pc := 140) (v := (1 : Int32)) dX12_readLawLine_140 rfl ?_
    exact V_iretz (pc := 141) dX12_readLawLine_141 rfl rfl (hk := fun h => h)
  have hJ53 : ∀ (v2 : Int32) (t0 : Int32) (t1 : Int32) (σ : MS), VV m_X12_readLawLine w g 0 0 (QM m_X12_readLawLine w g x) (fun b : Int32 × MS => b = x) 53 [some (.ref (wB w + 171)), none, some (.int v2)] [.int t0, .int t1, .ref (wB w + 172)] σ (J_X12_readLawLine_53 n v2 t0 t1 σ) := by
    intro v2 t0 t1 σ
    refine V_iast (pc := 53) (n := 2172) dX12_readLawLine_53 kc_172 lc_172 (fun s53 => ?_)
    refine V_aload_n (pc := 54) dX12_readLawLine_54 rfl rfl ?_
    refine V_getr (pc := 55) (t := 172) fk_X12_13 rfl dX12_readLawLine_55 kc_171 rfl ?_
    refine V_iload_n (pc := 58) dX12_readLawLine_58 rfl rfl ?_
    refine V_iald (pc := 59) (n := 2172) dX12_readLawLine_59 kc_172 lc_172 ?_
    refine V_if_ge (pc := 60) (tgt := 65) dX12_readLawLine_60 (by decide) ?_ ?_
    · refine V_aload_n (pc := 65) dX12_readLawLine_65 rfl rfl ?_
      refine V_getr (pc := 66) (t := 172) fk_X12_13 rfl dX12_readLawLine_66 kc_171 rfl ?_
      refine V_iload_n (pc := 69) dX12_readLawLine_69 rfl rfl ?_
      refine V_iconst (pc := 70) (v := (1 : Int32)) dX12_readLawLine_70 rfl ?_
      refine V_iadd (pc := 71) dX12_readLawLine_71 ?_
      refine V_aload_n (pc := 72) dX12_readLawLine_72 rfl rfl ?_
      refine V_iconst (pc := 73) (v := (0 : Int32)) dX12_readLawLine_73 rfl ?_
      refine V_bipush (pc := 74) (v := (99 : Int32)) dX12_readLawLine_74 rfl ?_
      refine V_callVi (pc := 76) (As := [.int (0 : Int32), .int (99 : Int32)]) (rest := [.int (v2 + (1 : Int32)), .ref (wB w + 172)]) (c_X12_number w n (0 : Int32) (99 : Int32) s53) cw_X12_118 rfl rfl dX12_readLawLine_76 kc_171 rfl ⟨Nat.le_of_ble_eq_true rfl, Nat.le_of_ble_eq_true rfl⟩ rfl rfl (Nat.le_of_ble_eq_true rfl) (Nat.le_of_ble_eq_true rfl) (Nat.le_of_ble_eq_true rfl) rfl (fun q76 => ?_)
      refine V_iast (pc := 79) (n := 2172) dX12_readLawLine_79 kc_172 lc_172 (fun s79 => ?_)
      refine V_aload_n (pc := 80) dX12_readLawLine_80 rfl rfl ?_
      refine V_getr (pc := 81) (t := 172) fk_X12_13 rfl dX12_readLawLine_81 kc_171 rfl ?_
      refine V_iload_n (pc := 84) dX12_readLawLine_84 rfl rfl ?_
      refine V_iconst (pc := 85) (v := (1 : Int32)) dX12_readLawLine_85 rfl ?_
      refine V_iadd (pc := 86) dX12_readLawLine_86 ?_
      refine V_iald (pc := 87) (n := 2172) dX12_readLawLine_87 kc_172 lc_172 ?_
      refine V_if_ge (pc := 88) (tgt := 93) dX12_readLawLine_88 (by decide) ?_ ?_
      · refine V_aload_n (pc := 93) dX12_readLawLine_93 rfl rfl ?_
        refine V_getr (pc := 94) (t := 172) fk_X12_13 rfl dX12_readLawLine_94 kc_171 rfl ?_
        refine V_iload_n (pc := 97) dX12_readLawLine_97 rfl rfl ?_
        refine V_iconst (pc := 98) (v := (2 : Int32)) dX12_readLawLine_98 rfl ?_
        refine V_iadd (pc := 99) dX12_readLawLine_99 ?_
        refine V_aload_n (pc := 100) dX12_readLawLine_100 rfl rfl ?_
        refine V_geti (pc := 101) fk_X12_181 rfl dX12_readLawLine_101 kc_171 rfl ?_
        refine V_iast (pc := 104) (n := 2172) dX12_readLawLine_104 kc_172 lc_172 (fun s104 => ?_)
        refine V_aload_n (pc := 105) dX12_readLawLine_105 rfl rfl ?_
        refine V_iconst (pc := 106) (v := (0 : Int32)) dX12_readLawLine_106 rfl ?_
        refine V_puti (pc := 107) fp_X12_205 rfl dX12_readLawLine_107 kc_171 rfl (fun s107 => ?_)
        refine V_aload_n (pc := 110) dX12_readLawLine_110 rfl rfl ?_
        refine V_ldcS (pc := 111) (i := 22) (tx := "if") dX12_readLawLine_111 rfl (by decide +kernel) ?_
        refine V_callVi (pc := 113) (As := [.ref (wS w 22)]) (rest := []) (c_X12_passes w n 22 (by decide) s107) cw_X12_213 rfl rfl dX12_readLawLine_113 kc_171 rfl ⟨Nat.le_of_ble_eq_true rfl, Nat.le_of_ble_eq_true rfl⟩ rfl rfl (Nat.le_of_ble_eq_true rfl) (Nat.le_of_ble_eq_true rfl) (Nat.le_of_ble_eq_true rfl) rfl (fun q113 => ?_)
        refine V_if_eq (pc := 116) (tgt := 128) dX12_readLawLine_116 (by decide) ?_ ?_
        · exact hJ128 v2 q113.2
        · refine V_aload_n (pc := 119) dX12_readLawLine_119 rfl rfl ?_
          refine V_callVi (pc := 120) (As := []) (rest := []) (c_X12_readCond w n  q113.2) cw_X12_208 rfl rfl dX12_readLawLine_120 kc_171 rfl ⟨Nat.le_of_ble_eq_true rfl, Nat.le_of_ble_eq_true rfl⟩ rfl rfl (Nat.le_of_ble_eq_true rfl) (Nat.le_of_ble_eq_true rfl) (Nat.le_of_ble_eq_true rfl) rfl (fun q120 => ?_)
          refine V_if_ne (pc := 123) (tgt := 128) dX12_readLawLine_123 (by decide) ?_ ?_
          · exact hJ128 v2 q120.2
          · refine V_iconst (pc := 126) (v := (0 : Int32)) dX12_readLawLine_126 rfl ?_
            exact V_iretz (pc := 127) dX12_readLawLine_127 rfl rfl (hk := fun h => h)
      · refine V_iconst (pc := 91) (v := (0 : Int32)) dX12_readLawLine_91 rfl ?_
        exact V_iretz (pc := 92) dX12_readLawLine_92 rfl rfl (hk := fun h => h)
    · refine V_iconst (pc := 63) (v := (0 : Int32)) dX12_readLawLine_63 rfl ?_
      exact V_iretz (pc := 64) dX12_readLawLine_64 rfl rfl (hk := fun h => h)
  refine V_sipush (pc := 0) (v := (1324 : Int32)) dX12_readLawLine_0 rfl ?_
  refine V_iconst (pc := 3) (v := (4 : Int32)) dX12_readLawLine_3 rfl ?_
  refine V_iload_n (pc := 4) dX12_readLawLine_4 rfl rfl ?_
  refine V_imul (pc := 5) dX12_readLawLine_5 ?_
  refine V_iadd (pc := 6) dX12_readLawLine_6 ?_
  refine V_istore_n (pc := 7) (vs' := [some (.ref (wB w + 171)), some (.int p1), some (.int ((1324 : Int32) + ((4 : Int32) * p1)))]) dX12_readLawLine_7 rfl (Nat.le_of_ble_eq_true rfl) (Nat.le_of_ble_eq_true rfl) rfl ?_
  refine V_aload_n (pc := 8) dX12_readLawLine_8 rfl rfl ?_
  refine V_getr (pc := 9) (t := 172) fk_X12_13 rfl dX12_readLawLine_9 kc_171 rfl ?_
  refine V_iload_n (pc := 12) dX12_readLawLine_12 rfl rfl ?_
  refine V_aload_n (pc := 13) dX12_readLawLine_13 rfl rfl ?_
  refine V_ldcS (pc := 14) (i := 19) (tx := "bind") dX12_readLawLine_14 rfl (by decide +kernel) ?_
  refine V_callVpi (pc := 16) (As := [.ref (wS w 19)]) (rest := [.int ((1324 : Int32) + ((4 : Int32) * p1)), .ref (wB w + 172)]) (c_X12_isWord w n 19 (by decide) σ) cw_X12_114 rfl rfl dX12_readLawLine_16 kc_171 rfl ⟨Nat.le_of_ble_eq_true rfl, Nat.le_of_ble_eq_true rfl⟩ rfl rfl (Nat.le_of_ble_eq_true rfl) (Nat.le_of_ble_eq_true rfl) (Nat.le_of_ble_eq_true rfl) rfl (fun q16 => ?_)
  refine V_if_eq (pc := 19) (tgt := 26) dX12_readLawLine_19 (by decide) ?_ ?_
  · refine V_aload_n (pc := 26) dX12_readLawLine_26 rfl rfl ?_
    refine V_ldcS (pc := 27) (i := 20) (tx := "last") dX12_readLawLine_27 rfl (by decide +kernel) ?_
    refine V_callVpi (pc := 29) (As := [.ref (wS w 20)]) (rest := [.int ((1324 : Int32) + ((4 : Int32) * p1)), .ref (wB w + 172)]) (c_X12_isWord w n 20 (by decide) σ) cw_X12_114 rfl rfl dX12_readLawLine_29 kc_171 rfl ⟨Nat.le_of_ble_eq_true rfl, Nat.le_of_ble_eq_true rfl⟩ rfl rfl (Nat.le_of_ble_eq_true rfl) (Nat.le_of_ble_eq_true rfl) (Nat.le_of_ble_eq_true rfl) rfl (fun q29 => ?_)
    refine V_if_eq (pc := 32) (tgt := 39) dX12_readLawLine_32 (by decide) ?_ ?_
    · refine V_aload_n (pc := 39) dX12_readLawLine_39 rfl rfl ?_
      refine V_ldcS (pc := 40) (i := 21) (tx := "suspect") dX12_readLawLine_40 rfl (by decide +kernel) ?_
      refine V_callVpi (pc := 42) (As := [.ref (wS w 21)]) (rest := [.int ((1324 : Int32) + ((4 : Int32) * p1)), .ref (wB w + 172)]) (c_X12_isWord w n 21 (by decide) σ) cw_X12_114 rfl rfl dX12_readLawLine_42 kc_171 rfl ⟨Nat.le_of_ble_eq_true rfl, Nat.le_of_ble_eq_true rfl⟩ rfl rfl (Nat.le_of_ble_eq_true rfl) (Nat.le_of_ble_eq_true rfl) (Nat.le_of_ble_eq_true rfl) rfl (fun q42 => ?_)
      refine V_if_eq (pc := 45) (tgt := 52) dX12_readLawLine_45 (by decide) ?_ ?_
      · refine V_iconst (pc := 52) (v := (-1 : Int32)) dX12_readLawLine_52 rfl ?_
        refine V_sub (vs' := [some (.ref (wB w + 171)), none, some (.int ((1324 : Int32) + ((4 : Int32) * p1)))]) (show vless _ _ from ⟨rfl, ⟨rfl, trivial⟩⟩) rfl ?_
        exact hJ53 ((1324 : Int32) + ((4 : Int32) * p1)) (-1 : Int32) ((1324 : Int32) + ((4 : Int32) * p1)) σ
      · refine V_iconst (pc := 48) (v := (2 : Int32)) dX12_readLawLine_48 rfl ?_
        refine V_goto (pc := 49) (tgt := 53) dX12_readLawLine_49 (by decide) ?_
        refine V_sub (vs' := [some (.ref (wB w + 171)), none, some (.int ((1324 : Int32) + ((4 : Int32) * p1)))]) (show vless _ _ from ⟨rfl, ⟨rfl, trivial⟩⟩) rfl ?_
        exact hJ53 ((1324 : Int32) + ((4 : Int32) * p1)) (2 : Int32) ((1324 : Int32) + ((4 : Int32) * p1)) σ
    · refine V_iconst (pc := 35) (v := (1 : Int32)) dX12_readLawLine_35 rfl ?_
      refine V_goto (pc := 36) (tgt := 53) dX12_readLawLine_36 (by decide) ?_
      refine V_sub (vs' := [some (.ref (wB w + 171)), none, some (.int ((1324 : Int32) + ((4 : Int32) * p1)))]) (show vless _ _ from ⟨rfl, ⟨rfl, trivial⟩⟩) rfl ?_
      exact hJ53 ((1324 : Int32) + ((4 : Int32) * p1)) (1 : Int32) ((1324 : Int32) + ((4 : Int32) * p1)) σ
  · refine V_iconst (pc := 22) (v := (0 : Int32)) dX12_readLawLine_22 rfl ?_
    refine V_goto (pc := 23) (tgt := 53) dX12_readLawLine_23 (by decide) ?_
    refine V_sub (vs' := [some (.ref (wB w + 171)), none, some (.int ((1324 : Int32) + ((4 : Int32) * p1)))]) (show vless _ _ from ⟨rfl, ⟨rfl, trivial⟩⟩) rfl ?_
    exact hJ53 ((1324 : Int32) + ((4 : Int32) * p1)) (0 : Int32) ((1324 : Int32) + ((4 : Int32) * p1)) σ
def J_X12_readLine_46 (n : Nat) (t0 : Int32) (σ : MS) : Option (Int32 × MS) := (if t0 = 0 ∨ t0 = 1 then some (t0, σ) else none)
def J_X12_readLine_45 (n : Nat)  (σ : MS) : Option (Int32 × MS) := J_X12_readLine_46 n (0 : Int32) σ
def J_X12_readLine_41 (n : Nat)  (σ : MS) : Option (Int32 × MS) := J_X12_readLine_46 n (1 : Int32) σ
def J_X12_readLine_16 (n : Nat) (v1 : Int32) (v2 : Int32) (t0 : Int32) (t1 : Int32) (σ : MS) : Option (Int32 × MS) := (if t0 ≤ t1 then J_X12_readLine_45 n  σ else (if v1 = 0 then ((f_X12_readLawLine n v2 σ).bind (fun q35 => (if q35.1 = 0 then J_X12_readLine_45 n  q35.2 else J_X12_readLine_41 n  q35.2))) else ((f_X12_readHouseLine n  σ).bind (fun q24 => (if q24.1 = 0 then J_X12_readLine_45 n  q24.2 else J_X12_readLine_41 n  q24.2)))))
def f_X12_readLine (n : Nat) (p1 : Int32) (p2 : Int32) (σ : MS) : Option (Int32 × MS) := ((f_X12_letters n  σ).bind (fun q1 => (if p1 = 0 then J_X12_readLine_16 n p1 p2 (12 : Int32) p2 q1.2 else J_X12_readLine_16 n p1 p2 (14 : Int32) p2 q1.2)))
set_option maxRecDepth 20000 in
set_option maxHeartbeats 2000000 in
theorem c_X12_readLine (w : TG) (n : Nat) (p1 : Int32) (p2 : Int32) (σ : MS) : MC m_X12_readLine w [.ref (wB w + 171), .int p1, .int p2] σ (f_X12_readLine n p1 p2 σ) := by
  refine V_meth (by decide +kernel) (Nat.le_of_ble_eq_true rfl) (by intro v hv; simp only [List.mem_cons, List.not_mem_nil, or_false] at hv; rcases hv with rfl | rfl | rfl <;> rfl) (fun g x => ?_)
  show VV m_X12_readLine w g 0 0 (QM m_X12_readLine w g x) (fun b : Int32 × MS => b = x) 0 [some (.ref (wB w + 171)), some (.int p1), some (.int p2)] [] σ (f_X12_readLine n p1 p2 σ)
  have hJ46 : ∀ (t0 : Int32) (σ : MS), VV m_X12_readLine w g 0 0 (QM m_X12_readLine w g x) (fun b : Int32 × MS => b = x) 46 [none, none, none] [.int t0] σ (J_X12_readLine_46 n t0 σ) := by
    intro t0 σ
    exact V_iretZ (pc := 46) dX12_readLine_46 rfl (hk := fun h => h)
  have hJ45 : ∀ (σ : MS), VV m_X12_readLine w g 0 0 (QM m_X12_readLine w g x) (fun b : Int32 × MS => b = x) 45 [none, none, none] [] σ (J_X12_readLine_45 n  σ) := by
    intro σ
    refine V_iconst (pc := 45) (v := (0 : Int32)) dX12_readLine_45 rfl ?_
    exact hJ46 (0 : Int32) σ
  have hJ41 : ∀ (σ : MS), VV m_X12_readLine w g 0 0 (QM m_X12_readLine w g x) (fun b : Int32 × MS => b = x) 41 [none, none, none] [] σ (J_X12_readLine_41 n  σ) := by
    intro σ
    refine V_iconst (pc := 41) (v := (1 : Int32)) dX12_readLine_41 rfl ?_
    refine V_goto (pc := 42) (tgt := 46) dX12_readLine_42 (by decide) ?_
    exact hJ46 (1 : Int32) σ
  have hJ16 : ∀ (t0 : Int32) (t1 : Int32) (σ : MS), VV m_X12_readLine w g 0 0 (QM m_X12_readLine w g x) (fun b : Int32 × MS => b = x) 16 [some (.ref (wB w + 171)), some (.int p1), some (.int p2)] [.int t0, .int t1] σ (J_X12_readLine_16 n p1 p2 t0 t1 σ) := by
    intro t0 t1 σ
    refine V_icmp_ge (pc := 16) (tgt := 45) dX12_readLine_16 (by decide) ?_ ?_
    · refine V_sub (vs' := [none, none, none]) (show vless _ _ from trivial) rfl ?_
      exact hJ45 σ
    · refine V_iload_n (pc := 19) dX12_readLine_19 rfl rfl ?_
      refine V_if_eq (pc := 20) (tgt := 33) dX12_readLine_20 (by decide) ?_ ?_
      · refine V_aload_n (pc := 33) dX12_readLine_33 rfl rfl ?_
        refine V_iload_n (pc := 34) dX12_readLine_34 rfl rfl ?_
        refine V_callVi (pc := 35) (As := [.int p2]) (rest := []) (c_X12_readLawLine w n p2 σ) cw_X12_243 rfl rfl dX12_readLine_35 kc_171 rfl ⟨Nat.le_of_ble_eq_true rfl, Nat.le_of_ble_eq_true rfl⟩ rfl rfl (Nat.le_of_ble_eq_true rfl) (Nat.le_of_ble_eq_true rfl) (Nat.le_of_ble_eq_true rfl) rfl (fun q35 => ?_)
        refine V_if_eq (pc := 38) (tgt := 45) dX12_readLine_38 (by decide) ?_ ?_
        · refine V_sub (vs' := [none, none, none]) (show vless _ _ from trivial) rfl ?_
          exact hJ45 q35.2
        · refine V_sub (vs' := [none, none, none]) (show vless _ _ from trivial) rfl ?_
          exact hJ41 q35.2
      · refine V_aload_n (pc := 23) dX12_readLine_23 rfl rfl ?_
        refine V_callVi (pc := 24) (As := []) (rest := []) (c_X12_readHouseLine w n  σ) cw_X12_240 rfl rfl dX12_readLine_24 kc_171 rfl ⟨Nat.le_of_ble_eq_true rfl, Nat.le_of_ble_eq_true rfl⟩ rfl rfl (Nat.le_of_ble_eq_true rfl) (Nat.le_of_ble_eq_true rfl) (Nat.le_of_ble_eq_true rfl) rfl (fun q24 => ?_)
        refine V_if_eq (pc := 27) (tgt := 45) dX12_readLine_27 (by decide) ?_ ?_
        · refine V_sub (vs' := [none, none, none]) (show vless _ _ from trivial) rfl ?_
          exact hJ45 q24.2
        · refine V_goto (pc := 30) (tgt := 41) dX12_readLine_30 (by decide) ?_
          refine V_sub (vs' := [none, none, none]) (show vless _ _ from trivial) rfl ?_
          exact hJ41 q24.2
  refine V_aload_n (pc := 0) dX12_readLine_0 rfl rfl ?_
  refine V_callVv (pc := 1) (As := []) (rest := []) (c_X12_letters w n  σ) cw_X12_111 rfl rfl dX12_readLine_1 kc_171 rfl ⟨Nat.le_of_ble_eq_true rfl, Nat.le_of_ble_eq_true rfl⟩ rfl rfl (Nat.le_of_ble_eq_true rfl) (Nat.le_of_ble_eq_true rfl) (Nat.le_of_ble_eq_true rfl) rfl (fun q1 => ?_)
  refine V_iload_n (pc := 4) dX12_readLine_4 rfl rfl ?_
  refine V_iload_n (pc := 5) dX12_readLine_5 rfl rfl ?_
  refine V_if_eq (pc := 6) (tgt := 14) dX12_readLine_6 (by decide) ?_ ?_
  · refine V_bipush (pc := 14) (v := (12 : Int32)) dX12_readLine_14 rfl ?_
    exact hJ16 (12 : Int32) p2 q1.2
  · refine V_bipush (pc := 9) (v := (14 : Int32)) dX12_readLine_9 rfl ?_
    refine V_goto (pc := 11) (tgt := 16) dX12_readLine_11 (by decide) ?_
    exact hJ16 (14 : Int32) p2 q1.2
def L_X12_readAll_28 (n : Nat) (v1 : Int32) (σ : MS) (a28 : Int32 × MS) : Option ((Int32 × MS) ⊕ (Int32 × MS)) := ((f_X12_readLine n v1 a28.1 a28.2).bind (fun q31 => (if q31.1 = 0 then (some ((-1 : Int32), q31.2)).map Sum.inr else ((f_X12_blanks n  q31.2).bind (fun q40 => (if (q40.2 171 10) = (q40.2 171 11) then (some ((a28.1 + (1 : Int32)), q40.2)).map Sum.inr else ((f_X12_isAt (59 : Int32) (59 : Int32) q40.2).bind (fun q63 => (if q63 = 0 then (some ((-1 : Int32), q40.2)).map Sum.inr else (ltM (mu q40.2 171 10 ((q40.2 171 10) + (1 : Int32))) (fun s78 => some (.inl ((a28.1 + (1 : Int32)), s78)))))))))))))
def f_X12_readAll (n : Nat) (p1 : Int32) (σ : MS) : Option (Int32 × MS) := ((f_X12_uses  σ).bind (fun q1 => (ltM (mu q1.2 171 16 (0 : Int32)) (fun s6 => ((f_X12_blanks n  s6).bind (fun q10 => (if (q10.2 171 10) = (q10.2 171 11) then some ((0 : Int32), q10.2) else itr (L_X12_readAll_28 n p1 σ) n ((0 : Int32), q10.2))))))))
set_option maxRecDepth 20000 in
set_option maxHeartbeats 2000000 in
theorem c_X12_readAll (w : TG) (n : Nat) (p1 : Int32) (σ : MS) : MC m_X12_readAll w [.ref (wB w + 171), .int p1] σ (f_X12_readAll n p1 σ) := by
  refine V_meth (by decide +kernel) (Nat.le_of_ble_eq_true rfl) (by intro v hv; simp only [List.mem_cons, List.not_mem_nil, or_false] at hv; rcases hv with rfl | rfl <;> rfl) (fun g x => ?_)
  show VV m_X12_readAll w g 0 0 (QM m_X12_readAll w g x) (fun b : Int32 × MS => b = x) 0 [some (.ref (wB w + 171)), some (.int p1), none] [] σ (f_X12_readAll n p1 σ)
  have hL28 : ∀  (n0 : Nat) (a : Int32 × MS), VV m_X12_readAll w g 0 0 (QM m_X12_readAll w g x) (fun b : Int32 × MS => b = x) 28 [some (.ref (wB w + 171)), some (.int p1), some (.int a.1)] [] a.2 (itr (L_X12_readAll_28 n p1 σ) n0 a) := by
    refine V_itr (vf := fun a : Int32 × MS => [some (.ref (wB w + 171)), some (.int p1), some (.int a.1)]) (sf := fun a : Int32 × MS => a.2) (fun κ28 b28 r28 a28 => ?_)
    show VV m_X12_readAll w g 0 0 (QM m_X12_readAll w g x) κ28 28 [some (.ref (wB w + 171)), some (.int p1), some (.int a28.1)] [] a28.2 (L_X12_readAll_28 n p1 σ a28)
    refine V_aload_n (pc := 28) dX12_readAll_28 rfl rfl ?_
    refine V_iload_n (pc := 29) dX12_readAll_29 rfl rfl ?_
    refine V_iload_n (pc := 30) dX12_readAll_30 rfl rfl ?_
    refine V_callVi (pc := 31) (As := [.int p1, .int a28.1]) (rest := []) (c_X12_readLine w n p1 a28.1 a28.2) cw_X12_249 rfl rfl dX12_readAll_31 kc_171 rfl ⟨Nat.le_of_ble_eq_true rfl, Nat.le_of_ble_eq_true rfl⟩ rfl rfl (Nat.le_of_ble_eq_true rfl) (Nat.le_of_ble_eq_true rfl) (Nat.le_of_ble_eq_true rfl) rfl (fun q31 => ?_)
    refine V_if_ne (pc := 34) (tgt := 39) dX12_readAll_34 (by decide) ?_ ?_
    · refine V_aload_n (pc := 39) dX12_readAll_39 rfl rfl ?_
      refine V_callVv (pc := 40) (As := []) (rest := []) (c_X12_blanks w n  q31.2) cw_X12_99 rfl rfl dX12_readAll_40 kc_171 rfl ⟨Nat.le_of_ble_eq_true rfl, Nat.le_of_ble_eq_true rfl⟩ rfl rfl (Nat.le_of_ble_eq_true rfl) (Nat.le_of_ble_eq_true rfl) (Nat.le_of_ble_eq_true rfl) rfl (fun q40 => ?_)
      refine V_aload_n (pc := 43) dX12_readAll_43 rfl rfl ?_
      refine V_geti (pc := 44) fk_X12_87 rfl dX12_readAll_44 kc_171 rfl ?_
      refine V_aload_n (pc := 47) dX12_readAll_47 rfl rfl ?_
      refine V_geti (pc := 48) fk_X12_90 rfl dX12_readAll_48 kc_171 rfl ?_
      refine V_icmp_ne (pc := 51) (tgt := 58) dX12_readAll_51 (by decide) ?_ ?_
      · refine V_aload_n (pc := 58) dX12_readAll_58 rfl rfl ?_
        refine V_bipush (pc := 59) (v := (59 : Int32)) dX12_readAll_59 rfl ?_
        refine V_bipush (pc := 61) (v := (59 : Int32)) dX12_readAll_61 rfl ?_
        refine V_callVpi (pc := 63) (As := [.int (59 : Int32), .int (59 : Int32)]) (rest := []) (c_X12_isAt w (59 : Int32) (59 : Int32) q40.2) cw_X12_93 rfl rfl dX12_readAll_63 kc_171 rfl ⟨Nat.le_of_ble_eq_true rfl, Nat.le_of_ble_eq_true rfl⟩ rfl rfl (Nat.le_of_ble_eq_true rfl) (Nat.le_of_ble_eq_true rfl) (Nat.le_of_ble_eq_true rfl) rfl (fun q63 => ?_)
        refine V_if_ne (pc := 66) (tgt := 71) dX12_readAll_66 (by decide) ?_ ?_
        · refine V_aload_n (pc := 71) dX12_readAll_71 rfl rfl ?_
          refine V_dup (pc := 72) dX12_readAll_72 rfl ?_
          refine V_geti (pc := 73) fk_X12_87 rfl dX12_readAll_73 kc_171 rfl ?_
          refine V_iconst (pc := 76) (v := (1 : Int32)) dX12_readAll_76 rfl ?_
          refine V_iadd (pc := 77) dX12_readAll_77 ?_
          refine V_puti (pc := 78) fp_X12_87 rfl dX12_readAll_78 kc_171 rfl (fun s78 => ?_)
          refine V_iinc (pc := 81) (v := (a28.1 + (1 : Int32))) (vs' := [some (.ref (wB w + 171)), some (.int p1), some (.int (a28.1 + (1 : Int32)))]) dX12_readAll_81 (Nat.le_of_ble_eq_true rfl) rfl rfl rfl ?_
          refine V_goto (pc := 84) (tgt := 28) dX12_readAll_84 (by decide) ?_
          exact V_back (b28 ((a28.1 + (1 : Int32)), s78))
        · refine V_exit r28 ?_
          refine V_iconst (pc := 69) (v := (-1 : Int32)) dX12_readAll_69 rfl ?_
          exact V_ireti (pc := 70) dX12_readAll_70 rfl (hk := fun h => h)
      · refine V_exit r28 ?_
        refine V_iload_n (pc := 54) dX12_readAll_54 rfl rfl ?_
        refine V_iconst (pc := 55) (v := (1 : Int32)) dX12_readAll_55 rfl ?_
        refine V_iadd (pc := 56) dX12_readAll_56 ?_
        exact V_ireti (pc := 57) dX12_readAll_57 rfl (hk := fun h => h)
    · refine V_exit r28 ?_
      refine V_iconst (pc := 37) (v := (-1 : Int32)) dX12_readAll_37 rfl ?_
      exact V_ireti (pc := 38) dX12_readAll_38 rfl (hk := fun h => h)
  refine V_aload_n (pc := 0) dX12_readAll_0 rfl rfl ?_
  refine V_callVv (pc := 1) (As := []) (rest := []) (c_X12_uses w  σ) cw_X12_246 rfl rfl dX12_readAll_1 kc_171 rfl ⟨Nat.le_of_ble_eq_true rfl, Nat.le_of_ble_eq_true rfl⟩ rfl rfl (Nat.le_of_ble_eq_true rfl) (Nat.le_of_ble_eq_true rfl) (Nat.le_of_ble_eq_true rfl) rfl (fun q1 => ?_)
  refine V_aload_n (pc := 4) dX12_readAll_4 rfl rfl ?_
  refine V_iconst (pc := 5) (v := (0 : Int32)) dX12_readAll_5 rfl ?_
  refine V_puti (pc := 6) fp_X12_181 rfl dX12_readAll_6 kc_171 rfl (fun s6 => ?_)
  refine V_aload_n (pc := 9) dX12_readAll_9 rfl rfl ?_
  refine V_callVv (pc := 10) (As := []) (rest := []) (c_X12_blanks w n  s6) cw_X12_99 rfl rfl dX12_readAll_10 kc_171 rfl ⟨Nat.le_of_ble_eq_true rfl, Nat.le_of_ble_eq_true rfl⟩ rfl rfl (Nat.le_of_ble_eq_true rfl) (Nat.le_of_ble_eq_true rfl) (Nat.le_of_ble_eq_true rfl) rfl (fun q10 => ?_)
  refine V_aload_n (pc := 13) dX12_readAll_13 rfl rfl ?_
  refine V_geti (pc := 14) fk_X12_87 rfl dX12_readAll_14 kc_171 rfl ?_
  refine V_aload_n (pc := 17) dX12_readAll_17 rfl rfl ?_
  refine V_geti (pc := 18) fk_X12_90 rfl dX12_readAll_18 kc_171 rfl ?_
  refine V_icmp_ne (pc := 21) (tgt := 26) dX12_readAll_21 (by decide) ?_ ?_
  · refine V_iconst (pc := 26) (v := (0 : Int32)) dX12_readAll_26 rfl ?_
    refine V_istore_n (pc := 27) (vs' := [some (.ref (wB w + 171)), some (.int p1), some (.int (0 : Int32))]) dX12_readAll_27 rfl (Nat.le_of_ble_eq_true rfl) (Nat.le_of_ble_eq_true rfl) rfl ?_
    exact hL28 n ((0 : Int32), q10.2)
  · refine V_iconst (pc := 24) (v := (0 : Int32)) dX12_readAll_24 rfl ?_
    exact V_ireti (pc := 25) dX12_readAll_25 rfl (hk := fun h => h)
def L_X12_house_92 (n : Nat)  (σ : MS) (a92 : Int32 × MS) : Option ((Int32 × MS) ⊕ (Int32 × MS)) := (if (1323 : Int32) ≤ a92.1 then (some ((0 : Int32), a92.2)).map Sum.inr else (if inb a92.1 1323 then (if inb a92.1 2172 then ltM (mu a92.2 172 (ix a92.1) (a92.2 174 (ix a92.1))) (fun s110 => some (.inl ((a92.1 + (1 : Int32)), s110))) else none) else none))
def J_X12_house_90 (n : Nat)  (σ : MS) : Option (Int32 × MS) := itr (L_X12_house_92 n  σ) n ((0 : Int32), σ)
def J_X12_house_83 (n : Nat) (t0 : Int32) (σ : MS) : Option (Int32 × MS) := ((f_X12_throwsIf t0 (2 : Int32) σ).bind (fun q84 => (if q84.1 = 0 then (ltM (mu q84.2 172 1 ((q84.2 172 1) + (1 : Int32))) (fun s128 => (ltM (mu s128 171 7 (0 : Int32)) (fun s131 => some ((s131 172 1), s131))))) else J_X12_house_90 n  q84.2)))
def J_X12_house_59 (n : Nat) (t0 : Int32) (σ : MS) : Option (Int32 × MS) := ((f_X12_throwsIf t0 (1 : Int32) σ).bind (fun q60 => (if q60.1 = 0 then (if (q60.2 172 1) = (12 : Int32) then J_X12_house_83 n (1 : Int32) q60.2 else J_X12_house_83 n (0 : Int32) q60.2) else J_X12_house_90 n  q60.2)))
def J_X12_house_46 (n : Nat) (v1 : Int32) (t0 : Int32) (σ : MS) : Option (Int32 × MS) := (ltM (mu σ 171 14 t0) (fun s46 => (if 0 ≤ v1 then J_X12_house_59 n (0 : Int32) s46 else J_X12_house_59 n (1 : Int32) s46)))
def L_X12_house_2 (n : Nat)  (σ : MS) (a2 : Int32 × MS) : Option ((Int32 × MS) ⊕ (Int32 × MS)) := (if (1323 : Int32) ≤ a2.1 then (((f_X12_readAll n (1 : Int32) a2.2).bind (fun q29 => (if 0 ≤ q29.1 then J_X12_house_46 n q29.1 (-1 : Int32) q29.2 else J_X12_house_46 n q29.1 (q29.2 171 12) q29.2)))).map Sum.inr else (if inb a2.1 2172 then (if inb a2.1 1323 then ltM (mu a2.2 174 (ix a2.1) (a2.2 172 (ix a2.1))) (fun s20 => some (.inl ((a2.1 + (1 : Int32)), s20))) else none) else none))
def f_X12_house (n : Nat)  (σ : MS) : Option (Int32 × MS) := itr (L_X12_house_2 n  σ) n ((0 : Int32), σ)
set_option maxRecDepth 20000 in
set_option maxHeartbeats 2000000 in
theorem c_X12_house (w : TG) (n : Nat)  (σ : MS) : MC m_X12_house w [.ref (wB w + 171)] σ (f_X12_house n  σ) := by
  refine V_meth (by decide +kernel) (Nat.le_of_ble_eq_true rfl) (by intro v hv; simp only [List.mem_cons, List.not_mem_nil, or_false] at hv; subst hv; rfl) (fun g x => ?_)
  show VV m_X12_house w g 0 0 (QM m_X12_house w g x) (fun b : Int32 × MS => b = x) 0 [some (.ref (wB w + 171)), none, none] [] σ (f_X12_house n  σ)
  have hL92 : ∀  (n0 : Nat) (a : Int32 × MS), VV m_X12_house w g 0 0 (QM m_X12_house w g x) (fun b : Int32 × MS => b = x) 92 [some (.ref (wB w + 171)), none, some (.int a.1)] [] a.2 (itr (L_X12_house_92 n  σ) n0 a) := by
    refine V_itr (vf := fun a : Int32 × MS => [some (.ref (wB w + 171)), none, some (.int a.1)]) (sf := fun a : Int32 × MS => a.2) (fun κ92 b92 r92 a92 => ?_)
    show VV m_X12_house w g 0 0 (QM m_X12_house w g x) κ92 92 [some (.ref (wB w + 171)), none, some (.int a92.1)] [] a92.2 (L_X12_house_92 n  σ a92)
    refine V_iload_n (pc := 92) dX12_house_92 rfl rfl ?_
    refine V_sipush (pc := 93) (v := (1323 : Int32)) dX12_house_93 rfl ?_
    refine V_icmp_ge (pc := 96) (tgt := 117) dX12_house_96 (by decide) ?_ ?_
    · refine V_exit r92 ?_
      refine V_iconst (pc := 117) (v := (0 : Int32)) dX12_house_117 rfl ?_
      exact V_ireti (pc := 118) dX12_house_118 rfl (hk := fun h => h)
    · refine V_aload_n (pc := 99) dX12_house_99 rfl rfl ?_
      refine V_getr (pc := 100) (t := 172) fk_X12_13 rfl dX12_house_100 kc_171 rfl ?_
      refine V_iload_n (pc := 103) dX12_house_103 rfl rfl ?_
      refine V_aload_n (pc := 104) dX12_house_104 rfl rfl ?_
      refine V_getr (pc := 105) (t := 174) fk_X12_20 rfl dX12_house_105 kc_171 rfl ?_
      refine V_iload_n (pc := 108) dX12_house_108 rfl rfl ?_
      refine V_iald (pc := 109) (n := 1323) dX12_house_109 kc_174 lc_174 ?_
      refine V_iast (pc := 110) (n := 2172) dX12_house_110 kc_172 lc_172 (fun s110 => ?_)
      refine V_iinc (pc := 111) (v := (a92.1 + (1 : Int32))) (vs' := [some (.ref (wB w + 171)), none, some (.int (a92.1 + (1 : Int32)))]) dX12_house_111 (Nat.le_of_ble_eq_true rfl) rfl rfl rfl ?_
      refine V_goto (pc := 114) (tgt := 92) dX12_house_114 (by decide) ?_
      exact V_back (b92 ((a92.1 + (1 : Int32)), s110))
  have hJ90 : ∀ (σ : MS), VV m_X12_house w g 0 0 (QM m_X12_house w g x) (fun b : Int32 × MS => b = x) 90 [some (.ref (wB w + 171)), none, none] [] σ (J_X12_house_90 n  σ) := by
    intro σ
    refine V_iconst (pc := 90) (v := (0 : Int32)) dX12_house_90 rfl ?_
    refine V_istore_n (pc := 91) (vs' := [some (.ref (wB w + 171)), none, some (.int (0 : Int32))]) dX12_house_91 rfl (Nat.le_of_ble_eq_true rfl) (Nat.le_of_ble_eq_true rfl) rfl ?_
    exact hL92 n ((0 : Int32), σ)
  have hJ83 : ∀ (t0 : Int32) (σ : MS), VV m_X12_house w g 0 0 (QM m_X12_house w g x) (fun b : Int32 × MS => b = x) 83 [some (.ref (wB w + 171)), none, none] [.int t0, .ref (wB w + 171)] σ (J_X12_house_83 n t0 σ) := by
    intro t0 σ
    refine V_iconst (pc := 83) (v := (2 : Int32)) dX12_house_83 rfl ?_
    refine V_callVi (pc := 84) (As := [.int t0, .int (2 : Int32)]) (rest := []) (c_X12_throwsIf w t0 (2 : Int32) σ) cw_X12_257 rfl rfl dX12_house_84 kc_171 rfl ⟨Nat.le_of_ble_eq_true rfl, Nat.le_of_ble_eq_true rfl⟩ rfl rfl (Nat.le_of_ble_eq_true rfl) (Nat.le_of_ble_eq_true rfl) (Nat.le_of_ble_eq_true rfl) rfl (fun q84 => ?_)
    refine V_if_eq (pc := 87) (tgt := 119) dX12_house_87 (by decide) ?_ ?_
    · refine V_aload_n (pc := 119) dX12_house_119 rfl rfl ?_
      refine V_getr (pc := 120) (t := 172) fk_X12_13 rfl dX12_house_120 kc_171 rfl ?_
      refine V_iconst (pc := 123) (v := (1 : Int32)) dX12_house_123 rfl ?_
      refine V_dup2 (pc := 124) dX12_house_124 rfl rfl ?_
      refine V_ialdC (pc := 125) (n := 2172) dX12_house_125 kc_172 lc_172 (by decide) ?_
      refine V_iconst (pc := 126) (v := (1 : Int32)) dX12_house_126 rfl ?_
      refine V_iadd (pc := 127) dX12_house_127 ?_
      refine V_iastC (pc := 128) (n := 2172) dX12_house_128 kc_172 lc_172 (by decide) (fun s128 => ?_)
      refine V_aload_n (pc := 129) dX12_house_129 rfl rfl ?_
      refine V_iconst (pc := 130) (v := (0 : Int32)) dX12_house_130 rfl ?_
      refine V_puti (pc := 131) fp_X12_55 rfl dX12_house_131 kc_171 rfl (fun s131 => ?_)
      refine V_aload_n (pc := 134) dX12_house_134 rfl rfl ?_
      refine V_getr (pc := 135) (t := 172) fk_X12_13 rfl dX12_house_135 kc_171 rfl ?_
      refine V_iconst (pc := 138) (v := (1 : Int32)) dX12_house_138 rfl ?_
      refine V_ialdC (pc := 139) (n := 2172) dX12_house_139 kc_172 lc_172 (by decide) ?_
      exact V_ireti (pc := 140) dX12_house_140 rfl (hk := fun h => h)
    · exact hJ90 q84.2
  have hJ59 : ∀ (t0 : Int32) (σ : MS), VV m_X12_house w g 0 0 (QM m_X12_house w g x) (fun b : Int32 × MS => b = x) 59 [some (.ref (wB w + 171)), none, none] [.int t0, .ref (wB w + 171)] σ (J_X12_house_59 n t0 σ) := by
    intro t0 σ
    refine V_iconst (pc := 59) (v := (1 : Int32)) dX12_house_59 rfl ?_
    refine V_callVi (pc := 60) (As := [.int t0, .int (1 : Int32)]) (rest := []) (c_X12_throwsIf w t0 (1 : Int32) σ) cw_X12_257 rfl rfl dX12_house_60 kc_171 rfl ⟨Nat.le_of_ble_eq_true rfl, Nat.le_of_ble_eq_true rfl⟩ rfl rfl (Nat.le_of_ble_eq_true rfl) (Nat.le_of_ble_eq_true rfl) (Nat.le_of_ble_eq_true rfl) rfl (fun q60 => ?_)
    refine V_if_ne (pc := 63) (tgt := 90) dX12_house_63 (by decide) ?_ ?_
    · exact hJ90 q60.2
    · refine V_aload_n (pc := 66) dX12_house_66 rfl rfl ?_
      refine V_aload_n (pc := 67) dX12_house_67 rfl rfl ?_
      refine V_getr (pc := 68) (t := 172) fk_X12_13 rfl dX12_house_68 kc_171 rfl ?_
      refine V_iconst (pc := 71) (v := (1 : Int32)) dX12_house_71 rfl ?_
      refine V_ialdC (pc := 72) (n := 2172) dX12_house_72 kc_172 lc_172 (by decide) ?_
      refine V_bipush (pc := 73) (v := (12 : Int32)) dX12_house_73 rfl ?_
      refine V_icmp_ne (pc := 75) (tgt := 82) dX12_house_75 (by decide) ?_ ?_
      · refine V_iconst (pc := 82) (v := (0 : Int32)) dX12_house_82 rfl ?_
        exact hJ83 (0 : Int32) q60.2
      · refine V_iconst (pc := 78) (v := (1 : Int32)) dX12_house_78 rfl ?_
        refine V_goto (pc := 79) (tgt := 83) dX12_house_79 (by decide) ?_
        exact hJ83 (1 : Int32) q60.2
  have hJ46 : ∀ (v1 : Int32) (t0 : Int32) (σ : MS), VV m_X12_house w g 0 0 (QM m_X12_house w g x) (fun b : Int32 × MS => b = x) 46 [some (.ref (wB w + 171)), some (.int v1), none] [.int t0, .ref (wB w + 171)] σ (J_X12_house_46 n v1 t0 σ) := by
    intro v1 t0 σ
    refine V_puti (pc := 46) fp_X12_33 rfl dX12_house_46 kc_171 rfl (fun s46 => ?_)
    refine V_aload_n (pc := 49) dX12_house_49 rfl rfl ?_
    refine V_iload_n (pc := 50) dX12_house_50 rfl rfl ?_
    refine V_if_ge (pc := 51) (tgt := 58) dX12_house_51 (by decide) ?_ ?_
    · refine V_iconst (pc := 58) (v := (0 : Int32)) dX12_house_58 rfl ?_
      refine V_sub (vs' := [some (.ref (wB w + 171)), none, none]) (show vless _ _ from ⟨rfl, trivial⟩) rfl ?_
      exact hJ59 (0 : Int32) s46
    · refine V_iconst (pc := 54) (v := (1 : Int32)) dX12_house_54 rfl ?_
      refine V_goto (pc := 55) (tgt := 59) dX12_house_55 (by decide) ?_
      refine V_sub (vs' := [some (.ref (wB w + 171)), none, none]) (show vless _ _ from ⟨rfl, trivial⟩) rfl ?_
      exact hJ59 (1 : Int32) s46
  have hL2 : ∀  (n0 : Nat) (a : Int32 × MS), VV m_X12_house w g 0 0 (QM m_X12_house w g x) (fun b : Int32 × MS => b = x) 2 [some (.ref (wB w + 171)), some (.int a.1), none] [] a.2 (itr (L_X12_house_2 n  σ) n0 a) := by
    refine V_itr (vf := fun a : Int32 × MS => [some (.ref (wB w + 171)), some (.int a.1), none]) (sf := fun a : Int32 × MS => a.2) (fun κ2 b2 r2 a2 => ?_)
    show VV m_X12_house w g 0 0 (QM m_X12_house w g x) κ2 2 [some (.ref (wB w + 171)), some (.int a2.1), none] [] a2.2 (L_X12_house_2 n  σ a2)
    refine V_iload_n (pc := 2) dX12_house_2 rfl rfl ?_
    refine V_sipush (pc := 3) (v := (1323 : Int32)) dX12_house_3 rfl ?_
    refine V_icmp_ge (pc := 6) (tgt := 27) dX12_house_6 (by decide) ?_ ?_
    · refine V_exit r2 ?_
      refine V_aload_n (pc := 27) dX12_house_27 rfl rfl ?_
      refine V_iconst (pc := 28) (v := (1 : Int32)) dX12_house_28 rfl ?_
      refine V_callVi (pc := 29) (As := [.int (1 : Int32)]) (rest := []) (c_X12_readAll w n (1 : Int32) a2.2) cw_X12_253 rfl rfl dX12_house_29 kc_171 rfl ⟨Nat.le_of_ble_eq_true rfl, Nat.le_of_ble_eq_true rfl⟩ rfl rfl (Nat.le_of_ble_eq_true rfl) (Nat.le_of_ble_eq_true rfl) (Nat.le_of_ble_eq_true rfl) rfl (fun q29 => ?_)
      refine V_istore_n (pc := 32) (vs' := [some (.ref (wB w + 171)), some (.int q29.1), none]) dX12_house_32 rfl (Nat.le_of_ble_eq_true rfl) (Nat.le_of_ble_eq_true rfl) rfl ?_
      refine V_aload_n (pc := 33) dX12_house_33 rfl rfl ?_
      refine V_iload_n (pc := 34) dX12_house_34 rfl rfl ?_
      refine V_if_ge (pc := 35) (tgt := 45) dX12_house_35 (by decide) ?_ ?_
      · refine V_iconst (pc := 45) (v := (-1 : Int32)) dX12_house_45 rfl ?_
        exact hJ46 q29.1 (-1 : Int32) q29.2
      · refine V_aload_n (pc := 38) dX12_house_38 rfl rfl ?_
        refine V_geti (pc := 39) fk_X12_96 rfl dX12_house_39 kc_171 rfl ?_
        refine V_goto (pc := 42) (tgt := 46) dX12_house_42 (by decide) ?_
        exact hJ46 q29.1 (q29.2 171 12) q29.2
    · refine V_aload_n (pc := 9) dX12_house_9 rfl rfl ?_
      refine V_getr (pc := 10) (t := 174) fk_X12_20 rfl dX12_house_10 kc_171 rfl ?_
      refine V_iload_n (pc := 13) dX12_house_13 rfl rfl ?_
      refine V_aload_n (pc := 14) dX12_house_14 rfl rfl ?_
      refine V_getr (pc := 15) (t := 172) fk_X12_13 rfl dX12_house_15 kc_171 rfl ?_
      refine V_iload_n (pc := 18) dX12_house_18 rfl rfl ?_
      refine V_iald (pc := 19) (n := 2172) dX12_house_19 kc_172 lc_172 ?_
      refine V_iast (pc := 20) (n := 1323) dX12_house_20 kc_174 lc_174 (fun s20 => ?_)
      refine V_iinc (pc := 21) (v := (a2.1 + (1 : Int32))) (vs' := [some (.ref (wB w + 171)), some (.int (a2.1 + (1 : Int32))), none]) dX12_house_21 (Nat.le_of_ble_eq_true rfl) rfl rfl rfl ?_
      refine V_goto (pc := 24) (tgt := 2) dX12_house_24 (by decide) ?_
      exact V_back (b2 ((a2.1 + (1 : Int32)), s20))
  refine V_iconst (pc := 0) (v := (0 : Int32)) dX12_house_0 rfl ?_
  refine V_istore_n (pc := 1) (vs' := [some (.ref (wB w + 171)), some (.int (0 : Int32)), none]) dX12_house_1 rfl (Nat.le_of_ble_eq_true rfl) (Nat.le_of_ble_eq_true rfl) rfl ?_
  exact hL2 n ((0 : Int32), σ)
def L_X12_law_52 (n : Nat) (v1 : Int32) (σ : MS) (a52 : Int32 × MS) : Option ((Int32 × MS) ⊕ (Int32 × MS)) := (if (849 : Int32) ≤ a52.1 then ((ltM (mu a52.2 172 2 (1 : Int32)) (fun s91 => (ltM (mu s91 171 7 (0 : Int32)) (fun s94 => some (v1, s94)))))).map Sum.inr else (if inb ((1323 : Int32) + a52.1) 2172 then (if inb ((474 : Int32) + a52.1) 2172 then ltM (mu a52.2 172 (ix ((474 : Int32) + a52.1)) (a52.2 172 (ix ((1323 : Int32) + a52.1)))) (fun s78 => some (.inl ((a52.1 + (1 : Int32)), s78))) else none) else none))
def J_X12_law_32 (n : Nat) (v1 : Int32) (t0 : Int32) (σ : MS) : Option (Int32 × MS) := ((f_X12_throwsIf t0 (1 : Int32) σ).bind (fun q33 => (if q33.1 = 0 then (ltM (mu q33.2 172 1323 v1) (fun s49 => itr (L_X12_law_52 n v1 σ) n ((0 : Int32), s49))) else some ((0 : Int32), q33.2))))
def J_X12_law_19 (n : Nat) (v1 : Int32) (t0 : Int32) (σ : MS) : Option (Int32 × MS) := (ltM (mu σ 171 14 t0) (fun s19 => (if 0 ≤ v1 then J_X12_law_32 n v1 (0 : Int32) s19 else J_X12_law_32 n v1 (1 : Int32) s19)))
def f_X12_law (n : Nat)  (σ : MS) : Option (Int32 × MS) := ((f_X12_readAll n (0 : Int32) σ).bind (fun q2 => (if 0 ≤ q2.1 then J_X12_law_19 n q2.1 (-1 : Int32) q2.2 else J_X12_law_19 n q2.1 (q2.2 171 12) q2.2)))
set_option maxRecDepth 20000 in
set_option maxHeartbeats 2000000 in
theorem c_X12_law (w : TG) (n : Nat)  (σ : MS) : MC m_X12_law w [.ref (wB w + 171)] σ (f_X12_law n  σ) := by
  refine V_meth (by decide +kernel) (Nat.le_of_ble_eq_true rfl) (by intro v hv; simp only [List.mem_cons, List.not_mem_nil, or_false] at hv; subst hv; rfl) (fun g x => ?_)
  show VV m_X12_law w g 0 0 (QM m_X12_law w g x) (fun b : Int32 × MS => b = x) 0 [some (.ref (wB w + 171)), none, none] [] σ (f_X12_law n  σ)
  have hL52 : ∀ (v1 : Int32) (n0 : Nat) (a : Int32 × MS), VV m_X12_law w g 0 0 (QM m_X12_law w g x) (fun b : Int32 × MS => b = x) 52 [some (.ref (wB w + 171)), some (.int v1), some (.int a.1)] [] a.2 (itr (L_X12_law_52 n v1 σ) n0 a) := by
    intro v1
    refine V_itr (vf := fun a : Int32 × MS => [some (.ref (wB w + 171)), some (.int v1), some (.int a.1)]) (sf := fun a : Int32 × MS => a.2) (fun κ52 b52 r52 a52 => ?_)
    show VV m_X12_law w g 0 0 (QM m_X12_law w g x) κ52 52 [some (.ref (wB w + 171)), some (.int v1), some (.int a52.1)] [] a52.2 (L_X12_law_52 n v1 σ a52)
    refine V_iload_n (pc := 52) dX12_law_52 rfl rfl ?_
    refine V_sipush (pc := 53) (v := (849 : Int32)) dX12_law_53 rfl ?_
    refine V_icmp_ge (pc := 56) (tgt := 85) dX12_law_56 (by decide) ?_ ?_
    · refine V_exit r52 ?_
      refine V_aload_n (pc := 85) dX12_law_85 rfl rfl ?_
      refine V_getr (pc := 86) (t := 172) fk_X12_13 rfl dX12_law_86 kc_171 rfl ?_
      refine V_iconst (pc := 89) (v := (2 : Int32)) dX12_law_89 rfl ?_
      refine V_iconst (pc := 90) (v := (1 : Int32)) dX12_law_90 rfl ?_
      refine V_iastC (pc := 91) (n := 2172) dX12_law_91 kc_172 lc_172 (by decide) (fun s91 => ?_)
      refine V_aload_n (pc := 92) dX12_law_92 rfl rfl ?_
      refine V_iconst (pc := 93) (v := (0 : Int32)) dX12_law_93 rfl ?_
      refine V_puti (pc := 94) fp_X12_55 rfl dX12_law_94 kc_171 rfl (fun s94 => ?_)
      refine V_iload_n (pc := 97) dX12_law_97 rfl rfl ?_
      exact V_ireti (pc := 98) dX12_law_98 rfl (hk := fun h => h)
    · refine V_aload_n (pc := 59) dX12_law_59 rfl rfl ?_
      refine V_getr (pc := 60) (t := 172) fk_X12_13 rfl dX12_law_60 kc_171 rfl ?_
      refine V_sipush (pc := 63) (v := (474 : Int32)) dX12_law_63 rfl ?_
      refine V_iload_n (pc := 66) dX12_law_66 rfl rfl ?_
      refine V_iadd (pc := 67) dX12_law_67 ?_
      refine V_aload_n (pc := 68) dX12_law_68 rfl rfl ?_
      refine V_getr (pc := 69) (t := 172) fk_X12_13 rfl dX12_law_69 kc_171 rfl ?_
      refine V_sipush (pc := 72) (v := (1323 : Int32)) dX12_law_72 rfl ?_
      refine V_iload_n (pc := 75) dX12_law_75 rfl rfl ?_
      refine V_iadd (pc := 76) dX12_law_76 ?_
      refine V_iald (pc := 77) (n := 2172) dX12_law_77 kc_172 lc_172 ?_
      refine V_iast (pc := 78) (n := 2172) dX12_law_78 kc_172 lc_172 (fun s78 => ?_)
      refine V_iinc (pc := 79) (v := (a52.1 + (1 : Int32))) (vs' := [some (.ref (wB w + 171)), some (.int v1), some (.int (a52.1 + (1 : Int32)))]) dX12_law_79 (Nat.le_of_ble_eq_true rfl) rfl rfl rfl ?_
      refine V_goto (pc := 82) (tgt := 52) dX12_law_82 (by decide) ?_
      exact V_back (b52 ((a52.1 + (1 : Int32)), s78))
  have hJ32 : ∀ (v1 : Int32) (t0 : Int32) (σ : MS), VV m_X12_law w g 0 0 (QM m_X12_law w g x) (fun b : Int32 × MS => b = x) 32 [some (.ref (wB w + 171)), some (.int v1), none] [.int t0, .ref (wB w + 171)] σ (J_X12_law_32 n v1 t0 σ) := by
    intro v1 t0 σ
    refine V_iconst (pc := 32) (v := (1 : Int32)) dX12_law_32 rfl ?_
    refine V_callVi (pc := 33) (As := [.int t0, .int (1 : Int32)]) (rest := []) (c_X12_throwsIf w t0 (1 : Int32) σ) cw_X12_257 rfl rfl dX12_law_33 kc_171 rfl ⟨Nat.le_of_ble_eq_true rfl, Nat.le_of_ble_eq_true rfl⟩ rfl rfl (Nat.le_of_ble_eq_true rfl) (Nat.le_of_ble_eq_true rfl) (Nat.le_of_ble_eq_true rfl) rfl (fun q33 => ?_)
    refine V_if_eq (pc := 36) (tgt := 41) dX12_law_36 (by decide) ?_ ?_
    · refine V_aload_n (pc := 41) dX12_law_41 rfl rfl ?_
      refine V_getr (pc := 42) (t := 172) fk_X12_13 rfl dX12_law_42 kc_171 rfl ?_
      refine V_sipush (pc := 45) (v := (1323 : Int32)) dX12_law_45 rfl ?_
      refine V_iload_n (pc := 48) dX12_law_48 rfl rfl ?_
      refine V_iastC (pc := 49) (n := 2172) dX12_law_49 kc_172 lc_172 (by decide) (fun s49 => ?_)
      refine V_iconst (pc := 50) (v := (0 : Int32)) dX12_law_50 rfl ?_
      refine V_istore_n (pc := 51) (vs' := [some (.ref (wB w + 171)), some (.int v1), some (.int (0 : Int32))]) dX12_law_51 rfl (Nat.le_of_ble_eq_true rfl) (Nat.le_of_ble_eq_true rfl) rfl ?_
      exact hL52 v1 n ((0 : Int32), s49)
    · refine V_iconst (pc := 39) (v := (0 : Int32)) dX12_law_39 rfl ?_
      exact V_ireti (pc := 40) dX12_law_40 rfl (hk := fun h => h)
  have hJ19 : ∀ (v1 : Int32) (t0 : Int32) (σ : MS), VV m_X12_law w g 0 0 (QM m_X12_law w g x) (fun b : Int32 × MS => b = x) 19 [some (.ref (wB w + 171)), some (.int v1), none] [.int t0, .ref (wB w + 171)] σ (J_X12_law_19 n v1 t0 σ) := by
    intro v1 t0 σ
    refine V_puti (pc := 19) fp_X12_33 rfl dX12_law_19 kc_171 rfl (fun s19 => ?_)
    refine V_aload_n (pc := 22) dX12_law_22 rfl rfl ?_
    refine V_iload_n (pc := 23) dX12_law_23 rfl rfl ?_
    refine V_if_ge (pc := 24) (tgt := 31) dX12_law_24 (by decide) ?_ ?_
    · refine V_iconst (pc := 31) (v := (0 : Int32)) dX12_law_31 rfl ?_
      exact hJ32 v1 (0 : Int32) s19
    · refine V_iconst (pc := 27) (v := (1 : Int32)) dX12_law_27 rfl ?_
      refine V_goto (pc := 28) (tgt := 32) dX12_law_28 (by decide) ?_
      exact hJ32 v1 (1 : Int32) s19
  refine V_aload_n (pc := 0) dX12_law_0 rfl rfl ?_
  refine V_iconst (pc := 1) (v := (0 : Int32)) dX12_law_1 rfl ?_
  refine V_callVi (pc := 2) (As := [.int (0 : Int32)]) (rest := []) (c_X12_readAll w n (0 : Int32) σ) cw_X12_253 rfl rfl dX12_law_2 kc_171 rfl ⟨Nat.le_of_ble_eq_true rfl, Nat.le_of_ble_eq_true rfl⟩ rfl rfl (Nat.le_of_ble_eq_true rfl) (Nat.le_of_ble_eq_true rfl) (Nat.le_of_ble_eq_true rfl) rfl (fun q2 => ?_)
  refine V_istore_n (pc := 5) (vs' := [some (.ref (wB w + 171)), some (.int q2.1), none]) dX12_law_5 rfl (Nat.le_of_ble_eq_true rfl) (Nat.le_of_ble_eq_true rfl) rfl ?_
  refine V_aload_n (pc := 6) dX12_law_6 rfl rfl ?_
  refine V_iload_n (pc := 7) dX12_law_7 rfl rfl ?_
  refine V_if_ge (pc := 8) (tgt := 18) dX12_law_8 (by decide) ?_ ?_
  · refine V_iconst (pc := 18) (v := (-1 : Int32)) dX12_law_18 rfl ?_
    exact hJ19 q2.1 (-1 : Int32) q2.2
  · refine V_aload_n (pc := 11) dX12_law_11 rfl rfl ?_
    refine V_geti (pc := 12) fk_X12_96 rfl dX12_law_12 kc_171 rfl ?_
    refine V_goto (pc := 15) (tgt := 19) dX12_law_15 (by decide) ?_
    exact hJ19 q2.1 (q2.2 171 12) q2.2
def J_X12_factOf_142 (t0 : Int32) (σ : MS) : Option (Int32) := some t0
def J_X12_factOf_121 (t0 : Int32) (σ : MS) : Option (Int32) := some t0
def f_X12_factOf (p1 : Int32) (p2 : Int32) (σ : MS) : Option (Int32) := (if p1 = (0 : Int32) then some (σ 171 18) else (if p1 = (1 : Int32) then some (σ 171 19) else (if p1 = (2 : Int32) then some (σ 171 20) else (if p1 = (3 : Int32) then some (σ 171 21) else (if p1 = (4 : Int32) then ((f_X12_likes (σ 171 18) (σ 171 19) σ).bind (fun q77 => ((f_X12_likes (σ 171 19) (σ 171 18) σ).bind (fun q89 => some (q77 + q89))))) else (if p1 = (5 : Int32) then some (σ 172 3) else (if p1 = (6 : Int32) then ((f_X12_areWed (σ 171 18) (σ 171 19) σ).bind (fun q110 => (if q110 = 0 then J_X12_factOf_121 (0 : Int32) σ else J_X12_factOf_121 (1 : Int32) σ))) else (if p1 = (7 : Int32) then ((f_X12_holds (σ 171 18) (σ 171 19) σ).bind (fun q131 => (if q131 = 0 then J_X12_factOf_142 (0 : Int32) σ else J_X12_factOf_142 (1 : Int32) σ))) else some p2))))))))
set_option maxRecDepth 20000 in
set_option maxHeartbeats 2000000 in
theorem c_X12_factOf (w : TG) (p1 : Int32) (p2 : Int32) (σ : MS) : MC m_X12_factOf w [.ref (wB w + 171), .int p1, .int p2] σ ((f_X12_factOf p1 p2 σ).map (fun r => (r, σ))) := by
  refine V_methp (by decide +kernel) (Nat.le_of_ble_eq_true rfl) (by intro v hv; simp only [List.mem_cons, List.not_mem_nil, or_false] at hv; rcases hv with rfl | rfl | rfl <;> rfl) (fun g x => ?_)
  show VV m_X12_factOf w g 0 0 (QM m_X12_factOf w g x) (fun b : Int32 => (b, σ) = x) 0 [some (.ref (wB w + 171)), some (.int p1), some (.int p2)] [] σ (f_X12_factOf p1 p2 σ)
  have hJ142 : ∀ (t0 : Int32), VV m_X12_factOf w g 0 0 (QM m_X12_factOf w g x) (fun b : Int32 => (b, σ) = x) 142 [none, none, none] [.int t0] σ (J_X12_factOf_142 t0 σ) := by
    intro t0
    exact V_ireti (pc := 142) dX12_factOf_142 rfl (hk := fun h => h)
  have hJ121 : ∀ (t0 : Int32), VV m_X12_factOf w g 0 0 (QM m_X12_factOf w g x) (fun b : Int32 => (b, σ) = x) 121 [none, none, none] [.int t0] σ (J_X12_factOf_121 t0 σ) := by
    intro t0
    exact V_ireti (pc := 121) dX12_factOf_121 rfl (hk := fun h => h)
  refine V_iload_n (pc := 0) dX12_factOf_0 rfl rfl ?_
  refine V_ite (c := p1 = (0 : Int32)) (fun hx => ?_) (fun hx0 => ?_)
  · refine V_tabIn (pc := 1) (x := p1) (tgt := 48) dX12_factOf_1 (by rw [hx]; decide) (by rw [hx]; decide) (by rw [hx]; rfl) (by decide) ?_
    refine V_aload_n (pc := 48) dX12_factOf_48 rfl rfl ?_
    refine V_geti (pc := 49) fk_X12_260 rfl dX12_factOf_49 kc_171 rfl ?_
    exact V_ireti (pc := 52) dX12_factOf_52 rfl (hk := fun h => h)
  refine V_ite (c := p1 = (1 : Int32)) (fun hx => ?_) (fun hx1 => ?_)
  · refine V_tabIn (pc := 1) (x := p1) (tgt := 53) dX12_factOf_1 (by rw [hx]; decide) (by rw [hx]; decide) (by rw [hx]; rfl) (by decide) ?_
    refine V_aload_n (pc := 53) dX12_factOf_53 rfl rfl ?_
    refine V_geti (pc := 54) fk_X12_263 rfl dX12_factOf_54 kc_171 rfl ?_
    exact V_ireti (pc := 57) dX12_factOf_57 rfl (hk := fun h => h)
  refine V_ite (c := p1 = (2 : Int32)) (fun hx => ?_) (fun hx2 => ?_)
  · refine V_tabIn (pc := 1) (x := p1) (tgt := 58) dX12_factOf_1 (by rw [hx]; decide) (by rw [hx]; decide) (by rw [hx]; rfl) (by decide) ?_
    refine V_aload_n (pc := 58) dX12_factOf_58 rfl rfl ?_
    refine V_geti (pc := 59) fk_X12_266 rfl dX12_factOf_59 kc_171 rfl ?_
    exact V_ireti (pc := 62) dX12_factOf_62 rfl (hk := fun h => h)
  refine V_ite (c := p1 = (3 : Int32)) (fun hx => ?_) (fun hx3 => ?_)
  · refine V_tabIn (pc := 1) (x := p1) (tgt := 63) dX12_factOf_1 (by rw [hx]; decide) (by rw [hx]; decide) (by rw [hx]; rfl) (by decide) ?_
    refine V_aload_n (pc := 63) dX12_factOf_63 rfl rfl ?_
    refine V_geti (pc := 64) fk_X12_269 rfl dX12_factOf_64 kc_171 rfl ?_
    exact V_ireti (pc := 67) dX12_factOf_67 rfl (hk := fun h => h)
  refine V_ite (c := p1 = (4 : Int32)) (fun hx => ?_) (fun hx4 => ?_)
  · refine V_tabIn (pc := 1) (x := p1) (tgt := 68) dX12_factOf_1 (by rw [hx]; decide) (by rw [hx]; decide) (by rw [hx]; rfl) (by decide) ?_
    refine V_aload_n (pc := 68) dX12_factOf_68 rfl rfl ?_
    refine V_aload_n (pc := 69) dX12_factOf_69 rfl rfl ?_
    refine V_geti (pc := 70) fk_X12_260 rfl dX12_factOf_70 kc_171 rfl ?_
    refine V_aload_n (pc := 73) dX12_factOf_73 rfl rfl ?_
    refine V_geti (pc := 74) fk_X12_263 rfl dX12_factOf_74 kc_171 rfl ?_
    refine V_callVpi (pc := 77) (As := [.int (σ 171 18), .int (σ 171 19)]) (rest := []) (c_X12_likes w (σ 171 18) (σ 171 19) σ) cw_X12_272 rfl rfl dX12_factOf_77 kc_171 rfl ⟨Nat.le_of_ble_eq_true rfl, Nat.le_of_ble_eq_true rfl⟩ rfl rfl (Nat.le_of_ble_eq_true rfl) (Nat.le_of_ble_eq_true rfl) (Nat.le_of_ble_eq_true rfl) rfl (fun q77 => ?_)
    refine V_aload_n (pc := 80) dX12_factOf_80 rfl rfl ?_
    refine V_aload_n (pc := 81) dX12_factOf_81 rfl rfl ?_
    refine V_geti (pc := 82) fk_X12_263 rfl dX12_factOf_82 kc_171 rfl ?_
    refine V_aload_n (pc := 85) dX12_factOf_85 rfl rfl ?_
    refine V_geti (pc := 86) fk_X12_260 rfl dX12_factOf_86 kc_171 rfl ?_
    refine V_callVpi (pc := 89) (As := [.int (σ 171 19), .int (σ 171 18)]) (rest := [.int q77]) (c_X12_likes w (σ 171 19) (σ 171 18) σ) cw_X12_272 rfl rfl dX12_factOf_89 kc_171 rfl ⟨Nat.le_of_ble_eq_true rfl, Nat.le_of_ble_eq_true rfl⟩ rfl rfl (Nat.le_of_ble_eq_true rfl) (Nat.le_of_ble_eq_true rfl) (Nat.le_of_ble_eq_true rfl) rfl (fun q89 => ?_)
    refine V_iadd (pc := 92) dX12_factOf_92 ?_
    exact V_ireti (pc := 93) dX12_factOf_93 rfl (hk := fun h => h)
  refine V_ite (c := p1 = (5 : Int32)) (fun hx => ?_) (fun hx5 => ?_)
  · refine V_tabIn (pc := 1) (x := p1) (tgt := 94) dX12_factOf_1 (by rw [hx]; decide) (by rw [hx]; decide) (by rw [hx]; rfl) (by decide) ?_
    refine V_aload_n (pc := 94) dX12_factOf_94 rfl rfl ?_
    refine V_getr (pc := 95) (t := 172) fk_X12_13 rfl dX12_factOf_95 kc_171 rfl ?_
    refine V_iconst (pc := 98) (v := (3 : Int32)) dX12_factOf_98 rfl ?_
    refine V_ialdC (pc := 99) (n := 2172) dX12_factOf_99 kc_172 lc_172 (by decide) ?_
    exact V_ireti (pc := 100) dX12_factOf_100 rfl (hk := fun h => h)
  refine V_ite (c := p1 = (6 : Int32)) (fun hx => ?_) (fun hx6 => ?_)
  · refine V_tabIn (pc := 1) (x := p1) (tgt := 101) dX12_factOf_1 (by rw [hx]; decide) (by rw [hx]; decide) (by rw [hx]; rfl) (by decide) ?_
    refine V_aload_n (pc := 101) dX12_factOf_101 rfl rfl ?_
    refine V_aload_n (pc := 102) dX12_factOf_102 rfl rfl ?_
    refine V_geti (pc := 103) fk_X12_260 rfl dX12_factOf_103 kc_171 rfl ?_
    refine V_aload_n (pc := 106) dX12_factOf_106 rfl rfl ?_
    refine V_geti (pc := 107) fk_X12_263 rfl dX12_factOf_107 kc_171 rfl ?_
    refine V_callVpi (pc := 110) (As := [.int (σ 171 18), .int (σ 171 19)]) (rest := []) (c_X12_areWed w (σ 171 18) (σ 171 19) σ) cw_X12_274 rfl rfl dX12_factOf_110 kc_171 rfl ⟨Nat.le_of_ble_eq_true rfl, Nat.le_of_ble_eq_true rfl⟩ rfl rfl (Nat.le_of_ble_eq_true rfl) (Nat.le_of_ble_eq_true rfl) (Nat.le_of_ble_eq_true rfl) rfl (fun q110 => ?_)
    refine V_if_eq (pc := 113) (tgt := 120) dX12_factOf_113 (by decide) ?_ ?_
    · refine V_iconst (pc := 120) (v := (0 : Int32)) dX12_factOf_120 rfl ?_
      refine V_sub (vs' := [none, none, none]) (show vless _ _ from trivial) rfl ?_
      exact hJ121 (0 : Int32)
    · refine V_iconst (pc := 116) (v := (1 : Int32)) dX12_factOf_116 rfl ?_
      refine V_goto (pc := 117) (tgt := 121) dX12_factOf_117 (by decide) ?_
      refine V_sub (vs' := [none, none, none]) (show vless _ _ from trivial) rfl ?_
      exact hJ121 (1 : Int32)
  refine V_ite (c := p1 = (7 : Int32)) (fun hx => ?_) (fun hx7 => ?_)
  · refine V_tabIn (pc := 1) (x := p1) (tgt := 122) dX12_factOf_1 (by rw [hx]; decide) (by rw [hx]; decide) (by rw [hx]; rfl) (by decide) ?_
    refine V_aload_n (pc := 122) dX12_factOf_122 rfl rfl ?_
    refine V_aload_n (pc := 123) dX12_factOf_123 rfl rfl ?_
    refine V_geti (pc := 124) fk_X12_260 rfl dX12_factOf_124 kc_171 rfl ?_
    refine V_aload_n (pc := 127) dX12_factOf_127 rfl rfl ?_
    refine V_geti (pc := 128) fk_X12_263 rfl dX12_factOf_128 kc_171 rfl ?_
    refine V_callVpi (pc := 131) (As := [.int (σ 171 18), .int (σ 171 19)]) (rest := []) (c_X12_holds w (σ 171 18) (σ 171 19) σ) cw_X12_69 rfl rfl dX12_factOf_131 kc_171 rfl ⟨Nat.le_of_ble_eq_true rfl, Nat.le_of_ble_eq_true rfl⟩ rfl rfl (Nat.le_of_ble_eq_true rfl) (Nat.le_of_ble_eq_true rfl) (Nat.le_of_ble_eq_true rfl) rfl (fun q131 => ?_)
    refine V_if_eq (pc := 134) (tgt := 141) dX12_factOf_134 (by decide) ?_ ?_
    · refine V_iconst (pc := 141) (v := (0 : Int32)) dX12_factOf_141 rfl ?_
      refine V_sub (vs' := [none, none, none]) (show vless _ _ from trivial) rfl ?_
      exact hJ142 (0 : Int32)
    · refine V_iconst (pc := 137) (v := (1 : Int32)) dX12_factOf_137 rfl ?_
      refine V_goto (pc := 138) (tgt := 142) dX12_factOf_138 (by decide) ?_
      refine V_sub (vs' := [none, none, none]) (show vless _ _ from trivial) rfl ?_
      exact hJ142 (1 : Int32)
  refine V_tabOut (pc := 1) (tgt := 143) dX12_factOf_1 (tabout p1 0 7 (by decide) (by decide) (fun k h1 h2 => ?_)) (by decide) ?_
  · rcases (show k = 0 ∨ k = 1 ∨ k = 2 ∨ k = 3 ∨ k = 4 ∨ k = 5 ∨ k = 6 ∨ k = 7 by omega) with rfl | rfl | rfl | rfl | rfl | rfl | rfl | rfl
    · exact hx0
    · exact hx1
    · exact hx2
    · exact hx3
    · exact hx4
    · exact hx5
    · exact hx6
    · exact hx7
  · refine V_iload_n (pc := 143) dX12_factOf_143 rfl rfl ?_
    exact V_ireti (pc := 144) dX12_factOf_144 rfl (hk := fun h => h)
