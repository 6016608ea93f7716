def m_X12_holdsLine : MD := (yX12_holdsLine, cX12_holdsLine, 9, (some .boolean), 4, 87, 0, 0)
def m_X12_sumOf : MD := (yX12_sumOf, cX12_sumOf, 4, (some .int), 5, 115, 0, 0)
def m_X12_looks : MD := (yX12_looks, cX12_looks, 5, none, 4, 200, 0, 0)
def m_X12_bindsBy : MD := (yX12_bindsBy, cX12_bindsBy, 1, (some .int), 6, 200, 0, 0)
def m_X12_lastsFor : MD := (yX12_lastsFor, cX12_lastsFor, 1, (some .int), 6, 138, 0, 0)
def m_X12_suspectsBy : MD := (yX12_suspectsBy, cX12_suspectsBy, 1, (some .int), 6, 138, 0, 0)
def m_X12_sipBinds : MD := (yX12_sipBinds, cX12_sipBinds, 2, (some .int), 7, 220, 0, 0)
def m_X12_noBoth : MD := (yX12_noBoth, cX12_noBoth, 3, (some .boolean), 2, 43, 0, 0)
def m_X12_told : MD := (yX12_told, cX12_told, 6, (some .int), 7, 224, 0, 0)
def m_X12_sips : MD := (yX12_sips, cX12_sips, 10, (some .boolean), 8, 241, 0, 0)
def m_X12_shares : MD := (yX12_shares, cX12_shares, 6, (some .int), 9, 270, 0, 0)
def m_X12_noCup : MD := (yX12_noCup, cX12_noCup, 3, (some .boolean), 2, 40, 0, 0)
def m_X12_keepsAll : MD := (yX12_keepsAll, cX12_keepsAll, 2, none, 0, 0, 0, 0)
def m_X12_bringsBack : MD := (yX12_bringsBack, cX12_bringsBack, 2, none, 0, 0, 0, 0)
def m_X12_share : MD := (yX12_share, cX12_share, 3, (some .int), 10, 295, 0, 0)
def m_X12_would : MD := (yX12_would, cX12_would, 4, (some .int), 10, 295, 0, 0)
def m_X12_bondsThatHold : MD := (yX12_bondsThatHold, cX12_bondsThatHold, 4, (some .int), 2, 43, 0, 0)
def m_X12_widest : MD := (yX12_widest, cX12_widest, 7, (some .int), 10, 295, 0, 0)
def m_X12_boundTo : MD := (yX12_boundTo, cX12_boundTo, 4, (some .int), 2, 43, 0, 0)
def m_X12_mostOf : MD := (yX12_mostOf, cX12_mostOf, 6, (some .int), 4, 200, 0, 0)
def m_X12_widened : MD := (yX12_widened, cX12_widened, 4, (some .int), 3, 66, 0, 0)
def m_X12_circleOf : MD := (yX12_circleOf, cX12_circleOf, 4, (some .int), 4, 89, 0, 0)
def m_X12_likesMost : MD := (yX12_likesMost, cX12_likesMost, 3, (some .int), 5, 225, 0, 0)
def m_X12_isGladder : MD := (yX12_isGladder, cX12_isGladder, 3, (some .boolean), 6, 247, 0, 0)
def m_X12_gladderBy : MD := (yX12_gladderBy, cX12_gladderBy, 4, (some .int), 7, 269, 0, 0)
def m_X12_person : MD := (yX12_person, cX12_person, 3, (some .int), 8, 292, 0, 0)
def m_X12_liking : MD := (yX12_liking, cX12_liking, 3, (some .int), 3, 65, 0, 0)
theorem fk_X12_39 : fk RX12 39 12 17 := ⟨_, _, _, rfl, in_12, by decide, rfl, by decide, gm (by decide +kernel) (by decide +kernel)⟩
theorem cw_X12_277 : cwp RX12 277 m_X12_factOf 2 := ⟨goodIn_of _ (by decide +kernel), by decide +kernel, by decide +kernel, by decide +kernel⟩
theorem cw_X12_280 : cwp RX12 280 m_X12_holdsLine 1 := ⟨goodIn_of _ (by decide +kernel), by decide +kernel, by decide +kernel, by decide +kernel⟩
theorem mw_X12_283 : Cond.methodLink RX12 283 Lib.Math.min.name ∈ gtb ∧ Cond.static Lib.Math.min.name ∈ gtb ∧ Cond.initialized "java/lang/Math" ∈ gtb ∧ Cond.code Lib.Math.min.name Lib.Math.min.code 2 (some .int) ∈ gtb := ⟨gm (by decide +kernel) (by decide +kernel), math_min⟩
theorem fp_X12_260 : fp RX12 260 12 18 .int := ⟨_, _, _, tyX12, rfl, in_12, by decide, rfl, by decide, gm (by decide +kernel) (by decide +kernel), rfl, by decide +kernel, tyX12_ok, nmX12⟩
theorem mw_X12_288 : Cond.methodLink RX12 288 Lib.Math.max.name ∈ gtb ∧ Cond.static Lib.Math.max.name ∈ gtb ∧ Cond.initialized "java/lang/Math" ∈ gtb ∧ Cond.code Lib.Math.max.name Lib.Math.max.code 2 (some .int) ∈ gtb := ⟨gm (by decide +kernel) (by decide +kernel), math_max⟩
theorem fp_X12_263 : fp RX12 263 12 19 .int := ⟨_, _, _, tyX12, rfl, in_12, by decide, rfl, by decide, gm (by decide +kernel) (by decide +kernel), rfl, by decide +kernel, tyX12_ok, nmX12⟩
theorem fp_X12_266 : fp RX12 266 12 20 .int := ⟨_, _, _, tyX12, rfl, in_12, by decide, rfl, by decide, gm (by decide +kernel) (by decide +kernel), rfl, by decide +kernel, tyX12_ok, nmX12⟩
theorem fp_X12_269 : fp RX12 269 12 21 .int := ⟨_, _, _, tyX12, rfl, in_12, by decide, rfl, by decide, gm (by decide +kernel) (by decide +kernel), rfl, by decide +kernel, tyX12_ok, nmX12⟩
theorem cw_X12_291 : cwp RX12 291 m_X12_sumOf 1 := ⟨goodIn_of _ (by decide +kernel), by decide +kernel, by decide +kernel, by decide +kernel⟩
theorem cw_X12_294 : cwp RX12 294 m_X12_bindsBy 0 := ⟨goodIn_of _ (by decide +kernel), by decide +kernel, by decide +kernel, by decide +kernel⟩
theorem cw_X12_297 : cwp RX12 297 m_X12_noPerson 1 := ⟨goodIn_of _ (by decide +kernel), by decide +kernel, by decide +kernel, by decide +kernel⟩
theorem cw_X12_303 : cwp RX12 303 m_X12_looks 4 := ⟨goodIn_of _ (by decide +kernel), by decide +kernel, by decide +kernel, by decide +kernel⟩
theorem cw_X12_309 : cwp RX12 309 m_X12_suspectsBy 0 := ⟨goodIn_of _ (by decide +kernel), by decide +kernel, by decide +kernel, by decide +kernel⟩
theorem cw_X12_306 : cwp RX12 306 m_X12_lastsFor 0 := ⟨goodIn_of _ (by decide +kernel), by decide +kernel, by decide +kernel, by decide +kernel⟩
theorem cw_X12_300 : cwp RX12 300 m_X12_noBoth 2 := ⟨goodIn_of _ (by decide +kernel), by decide +kernel, by decide +kernel, by decide +kernel⟩
theorem cw_X12_312 : cwp RX12 312 m_X12_sipBinds 0 := ⟨goodIn_of _ (by decide +kernel), by decide +kernel, by decide +kernel, by decide +kernel⟩
theorem cw_X12_315 : cwp RX12 315 m_X12_bondOf 2 := ⟨goodIn_of _ (by decide +kernel), by decide +kernel, by decide +kernel, by decide +kernel⟩
theorem cs_X12_318 : csp RX12 318 m_J6_bitCount_0f7a4 1 := ⟨goodIn_of _ (by decide +kernel), by decide +kernel, by decide +kernel, by decide +kernel⟩
theorem cw_X12_323 : cwp RX12 323 m_X12_sips 4 := ⟨goodIn_of _ (by decide +kernel), by decide +kernel, by decide +kernel, by decide +kernel⟩
theorem cw_X12_327 : cwp RX12 327 m_X12_everybody 0 := ⟨goodIn_of _ (by decide +kernel), by decide +kernel, by decide +kernel, by decide +kernel⟩
theorem fk_X12_23 : fk RX12 23 12 4 := ⟨_, _, _, rfl, in_12, by decide, rfl, by decide, gm (by decide +kernel) (by decide +kernel)⟩
theorem cw_X12_330 : cwp RX12 330 m_X12_noCup 2 := ⟨goodIn_of _ (by decide +kernel), by decide +kernel, by decide +kernel, by decide +kernel⟩
theorem cw_X12_333 : cwp RX12 333 m_X12_remembers 0 := ⟨goodIn_of _ (by decide +kernel), by decide +kernel, by decide +kernel, by decide +kernel⟩
theorem cw_X12_336 : cwp RX12 336 m_X12_shares 2 := ⟨goodIn_of _ (by decide +kernel), by decide +kernel, by decide +kernel, by decide +kernel⟩
theorem cw_X12_339 : cwp RX12 339 m_X12_keepsAll 0 := ⟨goodIn_of _ (by decide +kernel), by decide +kernel, by decide +kernel, by decide +kernel⟩
theorem cw_X12_342 : cwp RX12 342 m_X12_bringsBack 0 := ⟨goodIn_of _ (by decide +kernel), by decide +kernel, by decide +kernel, by decide +kernel⟩
theorem cw_X12_345 : cwp RX12 345 m_X12_bondsThatHold 0 := ⟨goodIn_of _ (by decide +kernel), by decide +kernel, by decide +kernel, by decide +kernel⟩
theorem cw_X12_348 : cwp RX12 348 m_X12_boundTo 1 := ⟨goodIn_of _ (by decide +kernel), by decide +kernel, by decide +kernel, by decide +kernel⟩
theorem cw_X12_351 : cwp RX12 351 m_X12_widened 1 := ⟨goodIn_of _ (by decide +kernel), by decide +kernel, by decide +kernel, by decide +kernel⟩
theorem cw_X12_354 : cwp RX12 354 m_X12_mostOf 1 := ⟨goodIn_of _ (by decide +kernel), by decide +kernel, by decide +kernel, by decide +kernel⟩
theorem cw_X12_357 : cwp RX12 357 m_X12_likesMost 1 := ⟨goodIn_of _ (by decide +kernel), by decide +kernel, by decide +kernel, by decide +kernel⟩
theorem cw_X12_360 : cwp RX12 360 m_X12_isGladder 2 := ⟨goodIn_of _ (by decide +kernel), by decide +kernel, by decide +kernel, by decide +kernel⟩
theorem cw_X12_363 : cwp RX12 363 m_X12_circleOf 1 := ⟨goodIn_of _ (by decide +kernel), by decide +kernel, by decide +kernel, by decide +kernel⟩
theorem cw_X12_366 : cwp RX12 366 m_X12_gladderBy 1 := ⟨goodIn_of _ (by decide +kernel), by decide +kernel, by decide +kernel, by decide +kernel⟩
def J_X12_holdsLine_278 (n : Nat) (t0 : Int32) (σ : MS) : Option (Int32 × MS) := (if t0 = 0 ∨ t0 = 1 then some (t0, σ) else none)
def J_X12_holdsLine_273 (n : Nat)  (σ : MS) : Option (Int32 × MS) := J_X12_holdsLine_278 n (1 : Int32) σ
def J_X12_holdsLine_253 (n : Nat) (v3 : Int32) (v2 : Int32) (v4 : Int32) (σ : MS) : Option ((Int32 × Int32 × MS) ⊕ (Int32 × MS)) := some (.inl (v2, (v4 + (1 : Int32)), σ))
def J_X12_holdsLine_252 (n : Nat) (v3 : Int32) (v2 : Int32) (v4 : Int32) (t0 : Int32) (t1 : Int32) (σ : MS) : Option ((Int32 × Int32 × MS) ⊕ (Int32 × MS)) := (if inb t1 400 then ltM (mu σ 179 (ix t1) t0) (fun s252 => J_X12_holdsLine_253 n v3 v2 v4 s252) else none)
def J_X12_holdsLine_218 (n : Nat) (v3 : Int32) (v2 : Int32) (v4 : Int32) (v5 : Int32) (v6 : Int32) (v7 : Int32) (t0 : Int32) (σ : MS) : Option ((Int32 × Int32 × MS) ⊕ (Int32 × MS)) := (if v5 = (9 : Int32) then J_X12_holdsLine_252 n v3 v2 v4 (v6 + v7) (v2 - (1 : Int32)) σ else (if t0 = 0 then J_X12_holdsLine_252 n v3 v2 v4 (0 : Int32) (v2 - (1 : Int32)) σ else J_X12_holdsLine_252 n v3 v2 v4 (1 : Int32) (v2 - (1 : Int32)) σ))
def L_X12_holdsLine_20 (n : Nat) (v3 : Int32) (σ : MS) (a20 : Int32 × Int32 × MS) : Option ((Int32 × Int32 × MS) ⊕ (Int32 × MS)) := (if inb (v3 + (3 : Int32)) 2172 then (if (a20.2.2 172 (ix (v3 + (3 : Int32)))) ≤ a20.2.1 then ((if a20.1 = 0 then J_X12_holdsLine_273 n  a20.2.2 else (if (a20.2.2 179 0) = (1 : Int32) then J_X12_holdsLine_273 n  a20.2.2 else J_X12_holdsLine_278 n (0 : Int32) a20.2.2))).map Sum.inr else (if inb ((523 : Int32) + ((2 : Int32) * a20.2.1)) 2172 then (if (8 : Int32) < (a20.2.2 172 (ix ((523 : Int32) + ((2 : Int32) * a20.2.1)))) then (if (a20.2.2 172 (ix ((523 : Int32) + ((2 : Int32) * a20.2.1)))) = (12 : Int32) then (if inb (a20.1 - (1 : Int32)) 400 then (if inb (a20.1 - (1 : Int32)) 400 then ltM (mu a20.2.2 179 (ix (a20.1 - (1 : Int32))) ((1 : Int32) - (a20.2.2 179 (ix (a20.1 - (1 : Int32)))))) (fun s112 => J_X12_holdsLine_253 n v3 a20.1 a20.2.1 s112) else none) else none) else (if inb ((a20.1 + (-1 : Int32)) - (1 : Int32)) 400 then (if inb (a20.1 + (-1 : Int32)) 400 then (if (a20.2.2 172 (ix ((523 : Int32) + ((2 : Int32) * a20.2.1)))) = (10 : Int32) then (if (a20.2.2 179 (ix (a20.1 + (-1 : Int32)))) ≤ (a20.2.2 179 (ix ((a20.1 + (-1 : Int32)) - (1 : Int32)))) then J_X12_holdsLine_218 n v3 (a20.1 + (-1 : Int32)) a20.2.1 (a20.2.2 172 (ix ((523 : Int32) + ((2 : Int32) * a20.2.1)))) (a20.2.2 179 (ix ((a20.1 + (-1 : Int32)) - (1 : Int32)))) (a20.2.2 179 (ix (a20.1 + (-1 : Int32)))) (0 : Int32) a20.2.2 else J_X12_holdsLine_218 n v3 (a20.1 + (-1 : Int32)) a20.2.1 (a20.2.2 172 (ix ((523 : Int32) + ((2 : Int32) * a20.2.1)))) (a20.2.2 179 (ix ((a20.1 + (-1 : Int32)) - (1 : Int32)))) (a20.2.2 179 (ix (a20.1 + (-1 : Int32)))) (1 : Int32) a20.2.2) else (if (a20.2.2 172 (ix ((523 : Int32) + ((2 : Int32) * a20.2.1)))) = (11 : Int32) then (if (a20.2.2 179 (ix ((a20.1 + (-1 : Int32)) - (1 : Int32)))) ≤ (a20.2.2 179 (ix (a20.1 + (-1 : Int32)))) then J_X12_holdsLine_218 n v3 (a20.1 + (-1 : Int32)) a20.2.1 (a20.2.2 172 (ix ((523 : Int32) + ((2 : Int32) * a20.2.1)))) (a20.2.2 179 (ix ((a20.1 + (-1 : Int32)) - (1 : Int32)))) (a20.2.2 179 (ix (a20.1 + (-1 : Int32)))) (0 : Int32) a20.2.2 else J_X12_holdsLine_218 n v3 (a20.1 + (-1 : Int32)) a20.2.1 (a20.2.2 172 (ix ((523 : Int32) + ((2 : Int32) * a20.2.1)))) (a20.2.2 179 (ix ((a20.1 + (-1 : Int32)) - (1 : Int32)))) (a20.2.2 179 (ix (a20.1 + (-1 : Int32)))) (1 : Int32) a20.2.2) else (if (a20.2.2 172 (ix ((523 : Int32) + ((2 : Int32) * a20.2.1)))) = (13 : Int32) then (if ((a20.2.2 179 (ix ((a20.1 + (-1 : Int32)) - (1 : Int32)))) + (a20.2.2 179 (ix (a20.1 + (-1 : Int32))))) = (2 : Int32) then J_X12_holdsLine_218 n v3 (a20.1 + (-1 : Int32)) a20.2.1 (a20.2.2 172 (ix ((523 : Int32) + ((2 : Int32) * a20.2.1)))) (a20.2.2 179 (ix ((a20.1 + (-1 : Int32)) - (1 : Int32)))) (a20.2.2 179 (ix (a20.1 + (-1 : Int32)))) (1 : Int32) a20.2.2 else J_X12_holdsLine_218 n v3 (a20.1 + (-1 : Int32)) a20.2.1 (a20.2.2 172 (ix ((523 : Int32) + ((2 : Int32) * a20.2.1)))) (a20.2.2 179 (ix ((a20.1 + (-1 : Int32)) - (1 : Int32)))) (a20.2.2 179 (ix (a20.1 + (-1 : Int32)))) (0 : Int32) a20.2.2) else (if ((a20.2.2 179 (ix ((a20.1 + (-1 : Int32)) - (1 : Int32)))) + (a20.2.2 179 (ix (a20.1 + (-1 : Int32))))) ≤ 0 then J_X12_holdsLine_218 n v3 (a20.1 + (-1 : Int32)) a20.2.1 (a20.2.2 172 (ix ((523 : Int32) + ((2 : Int32) * a20.2.1)))) (a20.2.2 179 (ix ((a20.1 + (-1 : Int32)) - (1 : Int32)))) (a20.2.2 179 (ix (a20.1 + (-1 : Int32)))) (0 : Int32) a20.2.2 else J_X12_holdsLine_218 n v3 (a20.1 + (-1 : Int32)) a20.2.1 (a20.2.2 172 (ix ((523 : Int32) + ((2 : Int32) * a20.2.1)))) (a20.2.2 179 (ix ((a20.1 + (-1 : Int32)) - (1 : Int32)))) (a20.2.2 179 (ix (a20.1 + (-1 : Int32)))) (1 : Int32) a20.2.2)))) else none) else none)) else (if inb (((523 : Int32) + ((2 : Int32) * a20.2.1)) + (1 : Int32)) 2172 then ((f_X12_factOf (a20.2.2 172 (ix ((523 : Int32) + ((2 : Int32) * a20.2.1)))) (a20.2.2 172 (ix (((523 : Int32) + ((2 : Int32) * a20.2.1)) + (1 : Int32)))) a20.2.2).bind (fun q78 => (if inb a20.1 400 then ltM (mu a20.2.2 179 (ix a20.1) q78) (fun s81 => J_X12_holdsLine_253 n v3 (a20.1 + (1 : Int32)) a20.2.1 s81) else none))) else none)) else none)) else none)
def f_X12_holdsLine (n : Nat) (p1 : Int32) (σ : MS) : Option (Int32 × MS) := (if inb (((475 : Int32) + ((4 : Int32) * p1)) + (2 : Int32)) 2172 then itr (L_X12_holdsLine_20 n ((475 : Int32) + ((4 : Int32) * p1)) σ) n ((0 : Int32), (σ 172 (ix (((475 : Int32) + ((4 : Int32) * p1)) + (2 : Int32)))), σ) else none)
set_option maxRecDepth 20000 in
set_option maxHeartbeats 2000000 in
theorem c_X12_holdsLine (w : TG) (n : Nat) (p1 : Int32) (σ : MS) : MC m_X12_holdsLine w [.ref (wB w + 171), .int p1] σ (f_X12_holdsLine n p1 σ) := by
  refine V_meth (by decide +kernel) (Nat.le_of_ble_eq_true rfl) (by intro v hv; simp only [List.mem_cons, List.not_mem_nil, or_false] at hv; rcases hv with rfl | rfl <;> rfl) (fun g x => ?_)
  show VV m_X12_holdsLine w g 0 0 (QM m_X12_holdsLine w g x) (fun b : Int32 × MS => b = x) 0 [some (.ref (wB w + 171)), some (.int p1), none, none, none, none, none, none, none] [] σ (f_X12_holdsLine n p1 σ)
  have hJ278 : ∀ (t0 : Int32) (σ : MS), VV m_X12_holdsLine w g 0 0 (QM m_X12_holdsLine w g x) (fun b : Int32 × MS => b = x) 278 [none, none, none, none, none, none, none, none, none] [.int t0] σ (J_X12_holdsLine_278 n t0 σ) := by
    intro t0 σ
    exact V_iretZ (pc := 278) dX12_holdsLine_278 rfl (hk := fun h => h)
  have hJ273 : ∀ (σ : MS), VV m_X12_holdsLine w g 0 0 (QM m_X12_holdsLine w g x) (fun b : Int32 × MS => b = x) 273 [none, none, none, none, none, none, none, none, none] [] σ (J_X12_holdsLine_273 n  σ) := by
    intro σ
    refine V_iconst (pc := 273) (v := (1 : Int32)) dX12_holdsLine_273 rfl ?_
    refine V_goto (pc := 274) (tgt := 278) dX12_holdsLine_274 (by decide) ?_
    exact hJ278 (1 : Int32) σ
  have hL20 : ∀ (v3 : Int32) (n0 : Nat) (a : Int32 × Int32 × MS), VV m_X12_holdsLine w g 0 0 (QM m_X12_holdsLine w g x) (fun b : Int32 × MS => b = x) 20 [some (.ref (wB w + 171)), none, some (.int a.1), some (.int v3), some (.int a.2.1), none, none, none, none] [] a.2.2 (itr (L_X12_holdsLine_20 n v3 σ) n0 a) := by
    intro v3
    refine V_itr (vf := fun a : Int32 × Int32 × MS => [some (.ref (wB w + 171)), none, some (.int a.1), some (.int v3), some (.int a.2.1), none, none, none, none]) (sf := fun a : Int32 × Int32 × MS => a.2.2) (fun κ20 b20 r20 a20 => ?_)
    show VV m_X12_holdsLine w g 0 0 (QM m_X12_holdsLine w g x) κ20 20 [some (.ref (wB w + 171)), none, some (.int a20.1), some (.int v3), some (.int a20.2.1), none, none, none, none] [] a20.2.2 (L_X12_holdsLine_20 n v3 σ a20)
    have hJ253 : ∀ (v2 : Int32) (v4 : Int32) (σ : MS), VV m_X12_holdsLine w g 0 0 (QM m_X12_holdsLine w g x) κ20 253 [some (.ref (wB w + 171)), none, some (.int v2), some (.int v3), some (.int v4), none, none, none, none] [] σ (J_X12_holdsLine_253 n v3 v2 v4 σ) := by
      intro v2 v4 σ
      refine V_iinc (pc := 253) (v := (v4 + (1 : Int32))) (vs' := [some (.ref (wB w + 171)), none, some (.int v2), some (.int v3), some (.int (v4 + (1 : Int32))), none, none, none, none]) dX12_holdsLine_253 (Nat.le_of_ble_eq_true rfl) rfl rfl rfl ?_
      refine V_goto (pc := 256) (tgt := 20) dX12_holdsLine_256 (by decide) ?_
      exact V_back (b20 (v2, (v4 + (1 : Int32)), σ))
    have hJ252 : ∀ (v2 : Int32) (v4 : Int32) (t0 : Int32) (t1 : Int32) (σ : MS), VV m_X12_holdsLine w g 0 0 (QM m_X12_holdsLine w g x) κ20 252 [some (.ref (wB w + 171)), none, some (.int v2), some (.int v3), some (.int v4), none, none, none, none] [.int t0, .int t1, .ref (wB w + 179)] σ (J_X12_holdsLine_252 n v3 v2 v4 t0 t1 σ) := by
      intro v2 v4 t0 t1 σ
      refine V_iast (pc := 252) (n := 400) dX12_holdsLine_252 kc_179 lc_179 (fun s252 => ?_)
      exact hJ253 v2 v4 s252
    have hJ218 : ∀ (v2 : Int32) (v4 : Int32) (v5 : Int32) (v6 : Int32) (v7 : Int32) (t0 : Int32) (σ : MS), VV m_X12_holdsLine w g 0 0 (QM m_X12_holdsLine w g x) κ20 218 [some (.ref (wB w + 171)), none, some (.int v2), some (.int v3), some (.int v4), some (.int v5), some (.int v6), some (.int v7), none] [.int t0] σ (J_X12_holdsLine_218 n v3 v2 v4 v5 v6 v7 t0 σ) := by
      intro v2 v4 v5 v6 v7 t0 σ
      refine V_istore (pc := 218) (vs' := [some (.ref (wB w + 171)), none, some (.int v2), some (.int v3), some (.int v4), some (.int v5), some (.int v6), some (.int v7), some (.int t0)]) dX12_holdsLine_218 (Nat.le_of_ble_eq_true rfl) (Nat.le_of_ble_eq_true rfl) rfl ?_
      refine V_aload_n (pc := 220) dX12_holdsLine_220 rfl rfl ?_
      refine V_getr (pc := 221) (t := 179) fk_X12_39 rfl dX12_holdsLine_221 kc_171 rfl ?_
      refine V_iload_n (pc := 224) dX12_holdsLine_224 rfl rfl ?_
      refine V_iconst (pc := 225) (v := (1 : Int32)) dX12_holdsLine_225 rfl ?_
      refine V_isub (pc := 226) dX12_holdsLine_226 ?_
      refine V_iload (pc := 227) dX12_holdsLine_227 rfl ?_
      refine V_bipush (pc := 229) (v := (9 : Int32)) dX12_holdsLine_229 rfl ?_
      refine V_icmp_ne (pc := 231) (tgt := 242) dX12_holdsLine_231 (by decide) ?_ ?_
      · refine V_iload (pc := 242) dX12_holdsLine_242 rfl ?_
        refine V_if_eq (pc := 244) (tgt := 251) dX12_holdsLine_244 (by decide) ?_ ?_
        · refine V_iconst (pc := 251) (v := (0 : Int32)) dX12_holdsLine_251 rfl ?_
          refine V_sub (vs' := [some (.ref (wB w + 171)), none, some (.int v2), some (.int v3), some (.int v4), none, none, none, none]) (show vless _ _ from ⟨rfl, ⟨rfl, ⟨rfl, ⟨rfl, trivial⟩⟩⟩⟩) rfl ?_
          exact hJ252 v2 v4 (0 : Int32) (v2 - (1 : Int32)) σ
        · refine V_iconst (pc := 247) (v := (1 : Int32)) dX12_holdsLine_247 rfl ?_
          refine V_goto (pc := 248) (tgt := 252) dX12_holdsLine_248 (by decide) ?_
          refine V_sub (vs' := [some (.ref (wB w + 171)), none, some (.int v2), some (.int v3), some (.int v4), none, none, none, none]) (show vless _ _ from ⟨rfl, ⟨rfl, ⟨rfl, ⟨rfl, trivial⟩⟩⟩⟩) rfl ?_
          exact hJ252 v2 v4 (1 : Int32) (v2 - (1 : Int32)) σ
      · refine V_iload (pc := 234) dX12_holdsLine_234 rfl ?_
        refine V_iload (pc := 236) dX12_holdsLine_236 rfl ?_
        refine V_iadd (pc := 238) dX12_holdsLine_238 ?_
        refine V_goto (pc := 239) (tgt := 252) dX12_holdsLine_239 (by decide) ?_
        refine V_sub (vs' := [some (.ref (wB w + 171)), none, some (.int v2), some (.int v3), some (.int v4), none, none, none, none]) (show vless _ _ from ⟨rfl, ⟨rfl, ⟨rfl, ⟨rfl, trivial⟩⟩⟩⟩) rfl ?_
        exact hJ252 v2 v4 (v6 + v7) (v2 - (1 : Int32)) σ
    refine V_iload (pc := 20) dX12_holdsLine_20 rfl ?_
    refine V_aload_n (pc := 22) dX12_holdsLine_22 rfl rfl ?_
    refine V_getr (pc := 23) (t := 172) fk_X12_13 rfl dX12_holdsLine_23 kc_171 rfl ?_
    refine V_iload_n (pc := 26) dX12_holdsLine_26 rfl rfl ?_
    refine V_iconst (pc := 27) (v := (3 : Int32)) dX12_holdsLine_27 rfl ?_
    refine V_iadd (pc := 28) dX12_holdsLine_28 ?_
    refine V_iald (pc := 29) (n := 2172) dX12_holdsLine_29 kc_172 lc_172 ?_
    refine V_icmp_ge (pc := 30) (tgt := 259) dX12_holdsLine_30 (by decide) ?_ ?_
    · refine V_exit r20 ?_
      refine V_iload_n (pc := 259) dX12_holdsLine_259 rfl rfl ?_
      refine V_if_eq (pc := 260) (tgt := 273) dX12_holdsLine_260 (by decide) ?_ ?_
      · refine V_sub (vs' := [none, none, none, none, none, none, none, none, none]) (show vless _ _ from trivial) rfl ?_
        exact hJ273 a20.2.2
      · refine V_aload_n (pc := 263) dX12_holdsLine_263 rfl rfl ?_
        refine V_getr (pc := 264) (t := 179) fk_X12_39 rfl dX12_holdsLine_264 kc_171 rfl ?_
        refine V_iconst (pc := 267) (v := (0 : Int32)) dX12_holdsLine_267 rfl ?_
        refine V_ialdC (pc := 268) (n := 400) dX12_holdsLine_268 kc_179 lc_179 (by decide) ?_
        refine V_iconst (pc := 269) (v := (1 : Int32)) dX12_holdsLine_269 rfl ?_
        refine V_icmp_ne (pc := 270) (tgt := 277) dX12_holdsLine_270 (by decide) ?_ ?_
        · refine V_iconst (pc := 277) (v := (0 : Int32)) dX12_holdsLine_277 rfl ?_
          refine V_sub (vs' := [none, none, none, none, none, none, none, none, none]) (show vless _ _ from trivial) rfl ?_
          exact hJ278 (0 : Int32) a20.2.2
        · refine V_sub (vs' := [none, none, none, none, none, none, none, none, none]) (show vless _ _ from trivial) rfl ?_
          exact hJ273 a20.2.2
    · refine V_aload_n (pc := 33) dX12_holdsLine_33 rfl rfl ?_
      refine V_getr (pc := 34) (t := 172) fk_X12_13 rfl dX12_holdsLine_34 kc_171 rfl ?_
      refine V_sipush (pc := 37) (v := (523 : Int32)) dX12_holdsLine_37 rfl ?_
      refine V_iconst (pc := 40) (v := (2 : Int32)) dX12_holdsLine_40 rfl ?_
      refine V_iload (pc := 41) dX12_holdsLine_41 rfl ?_
      refine V_imul (pc := 43) dX12_holdsLine_43 ?_
      refine V_iadd (pc := 44) dX12_holdsLine_44 ?_
      refine V_iald (pc := 45) (n := 2172) dX12_holdsLine_45 kc_172 lc_172 ?_
      refine V_istore (pc := 46) (vs' := [some (.ref (wB w + 171)), none, some (.int a20.1), some (.int v3), some (.int a20.2.1), some (.int (a20.2.2 172 (ix ((523 : Int32) + ((2 : Int32) * a20.2.1))))), none, none, none]) dX12_holdsLine_46 (Nat.le_of_ble_eq_true rfl) (Nat.le_of_ble_eq_true rfl) rfl ?_
      refine V_iload (pc := 48) dX12_holdsLine_48 rfl ?_
      refine V_bipush (pc := 50) (v := (8 : Int32)) dX12_holdsLine_50 rfl ?_
      refine V_icmp_gt (pc := 52) (tgt := 88) dX12_holdsLine_52 (by decide) ?_ ?_
      · refine V_iload (pc := 88) dX12_holdsLine_88 rfl ?_
        refine V_bipush (pc := 90) (v := (12 : Int32)) dX12_holdsLine_90 rfl ?_
        refine V_icmp_ne (pc := 92) (tgt := 116) dX12_holdsLine_92 (by decide) ?_ ?_
        · refine V_iinc (pc := 116) (v := (a20.1 + (-1 : Int32))) (vs' := [some (.ref (wB w + 171)), none, some (.int (a20.1 + (-1 : Int32))), some (.int v3), some (.int a20.2.1), some (.int (a20.2.2 172 (ix ((523 : Int32) + ((2 : Int32) * a20.2.1))))), none, none, none]) dX12_holdsLine_116 (Nat.le_of_ble_eq_true rfl) rfl rfl rfl ?_
          refine V_aload_n (pc := 119) dX12_holdsLine_119 rfl rfl ?_
          refine V_getr (pc := 120) (t := 179) fk_X12_39 rfl dX12_holdsLine_120 kc_171 rfl ?_
          refine V_iload_n (pc := 123) dX12_holdsLine_123 rfl rfl ?_
          refine V_iconst (pc := 124) (v := (1 : Int32)) dX12_holdsLine_124 rfl ?_
          refine V_isub (pc := 125) dX12_holdsLine_125 ?_
          refine V_iald (pc := 126) (n := 400) dX12_holdsLine_126 kc_179 lc_179 ?_
          refine V_istore (pc := 127) (vs' := [some (.ref (wB w + 171)), none, some (.int (a20.1 + (-1 : Int32))), some (.int v3), some (.int a20.2.1), some (.int (a20.2.2 172 (ix ((523 : Int32) + ((2 : Int32) * a20.2.1))))), some (.int (a20.2.2 179 (ix ((a20.1 + (-1 : Int32)) - (1 : Int32))))), none, none]) dX12_holdsLine_127 (Nat.le_of_ble_eq_true rfl) (Nat.le_of_ble_eq_true rfl) rfl ?_
          refine V_aload_n (pc := 129) dX12_holdsLine_129 rfl rfl ?_
          refine V_getr (pc := 130) (t := 179) fk_X12_39 rfl dX12_holdsLine_130 kc_171 rfl ?_
          refine V_iload_n (pc := 133) dX12_holdsLine_133 rfl rfl ?_
          refine V_iald (pc := 134) (n := 400) dX12_holdsLine_134 kc_179 lc_179 ?_
          refine V_istore (pc := 135) (vs' := [some (.ref (wB w + 171)), none, some (.int (a20.1 + (-1 : Int32))), some (.int v3), some (.int a20.2.1), some (.int (a20.2.2 172 (ix ((523 : Int32) + ((2 : Int32) * a20.2.1))))), some (.int (a20.2.2 179 (ix ((a20.1 + (-1 : Int32)) - (1 : Int32))))), some (.int (a20.2.2 179 (ix (a20.1 + (-1 : Int32))))), none]) dX12_holdsLine_135 (Nat.le_of_ble_eq_true rfl) (Nat.le_of_ble_eq_true rfl) rfl ?_
          refine V_iload (pc := 137) dX12_holdsLine_137 rfl ?_
          refine V_bipush (pc := 139) (v := (10 : Int32)) dX12_holdsLine_139 rfl ?_
          refine V_icmp_ne (pc := 141) (tgt := 159) dX12_holdsLine_141 (by decide) ?_ ?_
          · refine V_iload (pc := 159) dX12_holdsLine_159 rfl ?_
            refine V_bipush (pc := 161) (v := (11 : Int32)) dX12_holdsLine_161 rfl ?_
            refine V_icmp_ne (pc := 163) (tgt := 181) dX12_holdsLine_163 (by decide) ?_ ?_
            · refine V_iload (pc := 181) dX12_holdsLine_181 rfl ?_
              refine V_bipush (pc := 183) (v := (13 : Int32)) dX12_holdsLine_183 rfl ?_
              refine V_icmp_ne (pc := 185) (tgt := 205) dX12_holdsLine_185 (by decide) ?_ ?_
              · refine V_iload (pc := 205) dX12_holdsLine_205 rfl ?_
                refine V_iload (pc := 207) dX12_holdsLine_207 rfl ?_
                refine V_iadd (pc := 209) dX12_holdsLine_209 ?_
                refine V_if_le (pc := 210) (tgt := 217) dX12_holdsLine_210 (by decide) ?_ ?_
                · refine V_iconst (pc := 217) (v := (0 : Int32)) dX12_holdsLine_217 rfl ?_
                  exact hJ218 (a20.1 + (-1 : Int32)) a20.2.1 (a20.2.2 172 (ix ((523 : Int32) + ((2 : Int32) * a20.2.1)))) (a20.2.2 179 (ix ((a20.1 + (-1 : Int32)) - (1 : Int32)))) (a20.2.2 179 (ix (a20.1 + (-1 : Int32)))) (0 : Int32) a20.2.2
                · refine V_iconst (pc := 213) (v := (1 : Int32)) dX12_holdsLine_213 rfl ?_
                  refine V_goto (pc := 214) (tgt := 218) dX12_holdsLine_214 (by decide) ?_
                  exact hJ218 (a20.1 + (-1 : Int32)) a20.2.1 (a20.2.2 172 (ix ((523 : Int32) + ((2 : Int32) * a20.2.1)))) (a20.2.2 179 (ix ((a20.1 + (-1 : Int32)) - (1 : Int32)))) (a20.2.2 179 (ix (a20.1 + (-1 : Int32)))) (1 : Int32) a20.2.2
              · refine V_iload (pc := 188) dX12_holdsLine_188 rfl ?_
                refine V_iload (pc := 190) dX12_holdsLine_190 rfl ?_
                refine V_iadd (pc := 192) dX12_holdsLine_192 ?_
                refine V_iconst (pc := 193) (v := (2 : Int32)) dX12_holdsLine_193 rfl ?_
                refine V_icmp_ne (pc := 194) (tgt := 201) dX12_holdsLine_194 (by decide) ?_ ?_
                · refine V_iconst (pc := 201) (v := (0 : Int32)) dX12_holdsLine_201 rfl ?_
                  refine V_goto (pc := 202) (tgt := 218) dX12_holdsLine_202 (by decide) ?_
                  exact hJ218 (a20.1 + (-1 : Int32)) a20.2.1 (a20.2.2 172 (ix ((523 : Int32) + ((2 : Int32) * a20.2.1)))) (a20.2.2 179 (ix ((a20.1 + (-1 : Int32)) - (1 : Int32)))) (a20.2.2 179 (ix (a20.1 + (-1 : Int32)))) (0 : Int32) a20.2.2
                · refine V_iconst (pc := 197) (v := (1 : Int32)) dX12_holdsLine_197 rfl ?_
                  refine V_goto (pc := 198) (tgt := 218) dX12_holdsLine_198 (by decide) ?_
                  exact hJ218 (a20.1 + (-1 : Int32)) a20.2.1 (a20.2.2 172 (ix ((523 : Int32) + ((2 : Int32) * a20.2.1)))) (a20.2.2 179 (ix ((a20.1 + (-1 : Int32)) - (1 : Int32)))) (a20.2.2 179 (ix (a20.1 + (-1 : Int32)))) (1 : Int32) a20.2.2
            · refine V_iload (pc := 166) dX12_holdsLine_166 rfl ?_
              refine V_iload (pc := 168) dX12_holdsLine_168 rfl ?_
              refine V_icmp_le (pc := 170) (tgt := 177) dX12_holdsLine_170 (by decide) ?_ ?_
              · refine V_iconst (pc := 177) (v := (0 : Int32)) dX12_holdsLine_177 rfl ?_
                refine V_goto (pc := 178) (tgt := 218) dX12_holdsLine_178 (by decide) ?_
                exact hJ218 (a20.1 + (-1 : Int32)) a20.2.1 (a20.2.2 172 (ix ((523 : Int32) + ((2 : Int32) * a20.2.1)))) (a20.2.2 179 (ix ((a20.1 + (-1 : Int32)) - (1 : Int32)))) (a20.2.2 179 (ix (a20.1 + (-1 : Int32)))) (0 : Int32) a20.2.2
              · refine V_iconst (pc := 173) (v := (1 : Int32)) dX12_holdsLine_173 rfl ?_
                refine V_goto (pc := 174) (tgt := 218) dX12_holdsLine_174 (by decide) ?_
                exact hJ218 (a20.1 + (-1 : Int32)) a20.2.1 (a20.2.2 172 (ix ((523 : Int32) + ((2 : Int32) * a20.2.1)))) (a20.2.2 179 (ix ((a20.1 + (-1 : Int32)) - (1 : Int32)))) (a20.2.2 179 (ix (a20.1 + (-1 : Int32)))) (1 : Int32) a20.2.2
          · refine V_iload (pc := 144) dX12_holdsLine_144 rfl ?_
            refine V_iload (pc := 146) dX12_holdsLine_146 rfl ?_
            refine V_icmp_ge (pc := 148) (tgt := 155) dX12_holdsLine_148 (by decide) ?_ ?_
            · refine V_iconst (pc := 155) (v := (0 : Int32)) dX12_holdsLine_155 rfl ?_
              refine V_goto (pc := 156) (tgt := 218) dX12_holdsLine_156 (by decide) ?_
              exact hJ218 (a20.1 + (-1 : Int32)) a20.2.1 (a20.2.2 172 (ix ((523 : Int32) + ((2 : Int32) * a20.2.1)))) (a20.2.2 179 (ix ((a20.1 + (-1 : Int32)) - (1 : Int32)))) (a20.2.2 179 (ix (a20.1 + (-1 : Int32)))) (0 : Int32) a20.2.2
            · refine V_iconst (pc := 151) (v := (1 : Int32)) dX12_holdsLine_151 rfl ?_
              refine V_goto (pc := 152) (tgt := 218) dX12_holdsLine_152 (by decide) ?_
              exact hJ218 (a20.1 + (-1 : Int32)) a20.2.1 (a20.2.2 172 (ix ((523 : Int32) + ((2 : Int32) * a20.2.1)))) (a20.2.2 179 (ix ((a20.1 + (-1 : Int32)) - (1 : Int32)))) (a20.2.2 179 (ix (a20.1 + (-1 : Int32)))) (1 : Int32) a20.2.2
        · refine V_aload_n (pc := 95) dX12_holdsLine_95 rfl rfl ?_
          refine V_getr (pc := 96) (t := 179) fk_X12_39 rfl dX12_holdsLine_96 kc_171 rfl ?_
          refine V_iload_n (pc := 99) dX12_holdsLine_99 rfl rfl ?_
          refine V_iconst (pc := 100) (v := (1 : Int32)) dX12_holdsLine_100 rfl ?_
          refine V_isub (pc := 101) dX12_holdsLine_101 ?_
          refine V_iconst (pc := 102) (v := (1 : Int32)) dX12_holdsLine_102 rfl ?_
          refine V_aload_n (pc := 103) dX12_holdsLine_103 rfl rfl ?_
          refine V_getr (pc := 104) (t := 179) fk_X12_39 rfl dX12_holdsLine_104 kc_171 rfl ?_
          refine V_iload_n (pc := 107) dX12_holdsLine_107 rfl rfl ?_
          refine V_iconst (pc := 108) (v := (1 : Int32)) dX12_holdsLine_108 rfl ?_
          refine V_isub (pc := 109) dX12_holdsLine_109 ?_
          refine V_iald (pc := 110) (n := 400) dX12_holdsLine_110 kc_179 lc_179 ?_
          refine V_isub (pc := 111) dX12_holdsLine_111 ?_
          refine V_iast (pc := 112) (n := 400) dX12_holdsLine_112 kc_179 lc_179 (fun s112 => ?_)
          refine V_goto (pc := 113) (tgt := 253) dX12_holdsLine_113 (by decide) ?_
          refine V_sub (vs' := [some (.ref (wB w + 171)), none, some (.int a20.1), some (.int v3), some (.int a20.2.1), none, none, none, none]) (show vless _ _ from ⟨rfl, ⟨rfl, ⟨rfl, ⟨rfl, trivial⟩⟩⟩⟩) rfl ?_
          exact hJ253 a20.1 a20.2.1 s112
      · refine V_aload_n (pc := 55) dX12_holdsLine_55 rfl rfl ?_
        refine V_getr (pc := 56) (t := 179) fk_X12_39 rfl dX12_holdsLine_56 kc_171 rfl ?_
        refine V_iload_n (pc := 59) dX12_holdsLine_59 rfl rfl ?_
        refine V_aload_n (pc := 60) dX12_holdsLine_60 rfl rfl ?_
        refine V_iload (pc := 61) dX12_holdsLine_61 rfl ?_
        refine V_aload_n (pc := 63) dX12_holdsLine_63 rfl rfl ?_
        refine V_getr (pc := 64) (t := 172) fk_X12_13 rfl dX12_holdsLine_64 kc_171 rfl ?_
        refine V_sipush (pc := 67) (v := (523 : Int32)) dX12_holdsLine_67 rfl ?_
        refine V_iconst (pc := 70) (v := (2 : Int32)) dX12_holdsLine_70 rfl ?_
        refine V_iload (pc := 71) dX12_holdsLine_71 rfl ?_
        refine V_imul (pc := 73) dX12_holdsLine_73 ?_
        refine V_iadd (pc := 74) dX12_holdsLine_74 ?_
        refine V_iconst (pc := 75) (v := (1 : Int32)) dX12_holdsLine_75 rfl ?_
        refine V_iadd (pc := 76) dX12_holdsLine_76 ?_
        refine V_iald (pc := 77) (n := 2172) dX12_holdsLine_77 kc_172 lc_172 ?_
        refine V_callVpi (pc := 78) (As := [.int (a20.2.2 172 (ix ((523 : Int32) + ((2 : Int32) * a20.2.1)))), .int (a20.2.2 172 (ix (((523 : Int32) + ((2 : Int32) * a20.2.1)) + (1 : Int32))))]) (rest := [.int a20.1, .ref (wB w + 179)]) (c_X12_factOf w (a20.2.2 172 (ix ((523 : Int32) + ((2 : Int32) * a20.2.1)))) (a20.2.2 172 (ix (((523 : Int32) + ((2 : Int32) * a20.2.1)) + (1 : Int32)))) a20.2.2) cw_X12_277 rfl rfl dX12_holdsLine_78 kc_171 rfl ⟨Nat.le_of_ble_eq_true rfl, Nat.le_of_ble_eq_true rfl⟩ rfl rfl (Nat.le_of_ble_eq_true rfl) (Nat.le_of_ble_eq_true rfl) (Nat.le_of_ble_eq_true rfl) rfl (fun q78 => ?_)
        refine V_iast (pc := 81) (n := 400) dX12_holdsLine_81 kc_179 lc_179 (fun s81 => ?_)
        refine V_iinc (pc := 82) (v := (a20.1 + (1 : Int32))) (vs' := [some (.ref (wB w + 171)), none, some (.int (a20.1 + (1 : Int32))), some (.int v3), some (.int a20.2.1), some (.int (a20.2.2 172 (ix ((523 : Int32) + ((2 : Int32) * a20.2.1))))), none, none, none]) dX12_holdsLine_82 (Nat.le_of_ble_eq_true rfl) rfl rfl rfl ?_
        refine V_goto (pc := 85) (tgt := 253) dX12_holdsLine_85 (by decide) ?_
        refine V_sub (vs' := [some (.ref (wB w + 171)), none, some (.int (a20.1 + (1 : Int32))), some (.int v3), some (.int a20.2.1), none, none, none, none]) (show vless _ _ from ⟨rfl, ⟨rfl, ⟨rfl, ⟨rfl, trivial⟩⟩⟩⟩) rfl ?_
        exact hJ253 (a20.1 + (1 : Int32)) a20.2.1 s81
  refine V_iconst (pc := 0) (v := (0 : Int32)) dX12_holdsLine_0 rfl ?_
  refine V_istore_n (pc := 1) (vs' := [some (.ref (wB w + 171)), some (.int p1), some (.int (0 : Int32)), none, none, none, none, none, none]) dX12_holdsLine_1 rfl (Nat.le_of_ble_eq_true rfl) (Nat.le_of_ble_eq_true rfl) rfl ?_
  refine V_sipush (pc := 2) (v := (475 : Int32)) dX12_holdsLine_2 rfl ?_
  refine V_iconst (pc := 5) (v := (4 : Int32)) dX12_holdsLine_5 rfl ?_
  refine V_iload_n (pc := 6) dX12_holdsLine_6 rfl rfl ?_
  refine V_imul (pc := 7) dX12_holdsLine_7 ?_
  refine V_iadd (pc := 8) dX12_holdsLine_8 ?_
  refine V_istore_n (pc := 9) (vs' := [some (.ref (wB w + 171)), some (.int p1), some (.int (0 : Int32)), some (.int ((475 : Int32) + ((4 : Int32) * p1))), none, none, none, none, none]) dX12_holdsLine_9 rfl (Nat.le_of_ble_eq_true rfl) (Nat.le_of_ble_eq_true rfl) rfl ?_
  refine V_aload_n (pc := 10) dX12_holdsLine_10 rfl rfl ?_
  refine V_getr (pc := 11) (t := 172) fk_X12_13 rfl dX12_holdsLine_11 kc_171 rfl ?_
  refine V_iload_n (pc := 14) dX12_holdsLine_14 rfl rfl ?_
  refine V_iconst (pc := 15) (v := (2 : Int32)) dX12_holdsLine_15 rfl ?_
  refine V_iadd (pc := 16) dX12_holdsLine_16 ?_
  refine V_iald (pc := 17) (n := 2172) dX12_holdsLine_17 kc_172 lc_172 ?_
  refine V_istore (pc := 18) (vs' := [some (.ref (wB w + 171)), some (.int p1), some (.int (0 : Int32)), some (.int ((475 : Int32) + ((4 : Int32) * p1))), some (.int (σ 172 (ix (((475 : Int32) + ((4 : Int32) * p1)) + (2 : Int32))))), none, none, none, none]) dX12_holdsLine_18 (Nat.le_of_ble_eq_true rfl) (Nat.le_of_ble_eq_true rfl) rfl ?_
  refine V_sub (vs' := [some (.ref (wB w + 171)), none, some (.int (0 : Int32)), some (.int ((475 : Int32) + ((4 : Int32) * p1))), some (.int (σ 172 (ix (((475 : Int32) + ((4 : Int32) * p1)) + (2 : Int32))))), none, none, none, none]) (show vless _ _ from ⟨rfl, ⟨rfl, ⟨rfl, ⟨rfl, trivial⟩⟩⟩⟩) rfl ?_
  exact hL20 ((475 : Int32) + ((4 : Int32) * p1)) n ((0 : Int32), (σ 172 (ix (((475 : Int32) + ((4 : Int32) * p1)) + (2 : Int32)))), σ)
def J_X12_sumOf_73 (n : Nat) (v2 : Int32) (σ : MS) : Option (Int32 × MS) := some (v2, σ)
def J_X12_sumOf_67 (n : Nat) (v1 : Int32) (v2 : Int32) (v3 : Int32) (σ : MS) : Option ((Int32 × Int32 × MS) ⊕ (Int32 × MS)) := some (.inl (v2, (v3 + (1 : Int32)), σ))
def L_X12_sumOf_4 (n : Nat) (v1 : Int32) (σ : MS) (a4 : Int32 × Int32 × MS) : Option ((Int32 × Int32 × MS) ⊕ (Int32 × MS)) := (if (a4.2.2 172 2) = (1 : Int32) then (if (a4.2.2 172 474) ≤ a4.2.1 then (J_X12_sumOf_73 n a4.1 a4.2.2).map Sum.inr else (if inb ((475 : Int32) + ((4 : Int32) * a4.2.1)) 2172 then (if (a4.2.2 172 (ix ((475 : Int32) + ((4 : Int32) * a4.2.1)))) = v1 then ((f_X12_holdsLine n a4.2.1 a4.2.2).bind (fun q44 => (if q44.1 = 0 then J_X12_sumOf_67 n v1 a4.1 a4.2.1 q44.2 else (if inb (((475 : Int32) + ((4 : Int32) * a4.2.1)) + (1 : Int32)) 2172 then J_X12_sumOf_67 n v1 (a4.1 + (q44.2 172 (ix (((475 : Int32) + ((4 : Int32) * a4.2.1)) + (1 : Int32))))) a4.2.1 q44.2 else none)))) else J_X12_sumOf_67 n v1 a4.1 a4.2.1 a4.2.2) else none)) else (J_X12_sumOf_73 n a4.1 a4.2.2).map Sum.inr)
def f_X12_sumOf (n : Nat) (p1 : Int32) (σ : MS) : Option (Int32 × MS) := itr (L_X12_sumOf_4 n p1 σ) n ((0 : Int32), (0 : Int32), σ)
set_option maxRecDepth 20000 in
set_option maxHeartbeats 2000000 in
theorem c_X12_sumOf (w : TG) (n : Nat) (p1 : Int32) (σ : MS) : MC m_X12_sumOf w [.ref (wB w + 171), .int p1] σ (f_X12_sumOf n p1 σ) := by
  refine V_meth (by decide +kernel) (Nat.le_of_ble_eq_true rfl) (by intro v hv; simp only [List.mem_cons, List.not_mem_nil, or_false] at hv; rcases hv with rfl | rfl <;> rfl) (fun g x => ?_)
  show VV m_X12_sumOf w g 0 0 (QM m_X12_sumOf w g x) (fun b : Int32 × MS => b = x) 0 [some (.ref (wB w + 171)), some (.int p1), none, none] [] σ (f_X12_sumOf n p1 σ)
  have hJ73 : ∀ (v2 : Int32) (σ : MS), VV m_X12_sumOf w g 0 0 (QM m_X12_sumOf w g x) (fun b : Int32 × MS => b = x) 73 [none, none, some (.int v2), none] [] σ (J_X12_sumOf_73 n v2 σ) := by
    intro v2 σ
    refine V_iload_n (pc := 73) dX12_sumOf_73 rfl rfl ?_
    exact V_ireti (pc := 74) dX12_sumOf_74 rfl (hk := fun h => h)
  have hL4 : ∀  (n0 : Nat) (a : Int32 × Int32 × MS), VV m_X12_sumOf w g 0 0 (QM m_X12_sumOf w g x) (fun b : Int32 × MS => b = x) 4 [some (.ref (wB w + 171)), some (.int p1), some (.int a.1), some (.int a.2.1)] [] a.2.2 (itr (L_X12_sumOf_4 n p1 σ) n0 a) := by
    refine V_itr (vf := fun a : Int32 × Int32 × MS => [some (.ref (wB w + 171)), some (.int p1), some (.int a.1), some (.int a.2.1)]) (sf := fun a : Int32 × Int32 × MS => a.2.2) (fun κ4 b4 r4 a4 => ?_)
    show VV m_X12_sumOf w g 0 0 (QM m_X12_sumOf w g x) κ4 4 [some (.ref (wB w + 171)), some (.int p1), some (.int a4.1), some (.int a4.2.1)] [] a4.2.2 (L_X12_sumOf_4 n p1 σ a4)
    have hJ67 : ∀ (v2 : Int32) (v3 : Int32) (σ : MS), VV m_X12_sumOf w g 0 0 (QM m_X12_sumOf w g x) κ4 67 [some (.ref (wB w + 171)), some (.int p1), some (.int v2), some (.int v3)] [] σ (J_X12_sumOf_67 n p1 v2 v3 σ) := by
      intro v2 v3 σ
      refine V_iinc (pc := 67) (v := (v3 + (1 : Int32))) (vs' := [some (.ref (wB w + 171)), some (.int p1), some (.int v2), some (.int (v3 + (1 : Int32)))]) dX12_sumOf_67 (Nat.le_of_ble_eq_true rfl) rfl rfl rfl ?_
      refine V_goto (pc := 70) (tgt := 4) dX12_sumOf_70 (by decide) ?_
      exact V_back (b4 (v2, (v3 + (1 : Int32)), σ))
    refine V_aload_n (pc := 4) dX12_sumOf_4 rfl rfl ?_
    refine V_getr (pc := 5) (t := 172) fk_X12_13 rfl dX12_sumOf_5 kc_171 rfl ?_
    refine V_iconst (pc := 8) (v := (2 : Int32)) dX12_sumOf_8 rfl ?_
    refine V_ialdC (pc := 9) (n := 2172) dX12_sumOf_9 kc_172 lc_172 (by decide) ?_
    refine V_iconst (pc := 10) (v := (1 : Int32)) dX12_sumOf_10 rfl ?_
    refine V_icmp_ne (pc := 11) (tgt := 73) dX12_sumOf_11 (by decide) ?_ ?_
    · refine V_exit r4 ?_
      refine V_sub (vs' := [none, none, some (.int a4.1), none]) (show vless _ _ from ⟨rfl, trivial⟩) rfl ?_
      exact hJ73 a4.1 a4.2.2
    · refine V_iload_n (pc := 14) dX12_sumOf_14 rfl rfl ?_
      refine V_aload_n (pc := 15) dX12_sumOf_15 rfl rfl ?_
      refine V_getr (pc := 16) (t := 172) fk_X12_13 rfl dX12_sumOf_16 kc_171 rfl ?_
      refine V_sipush (pc := 19) (v := (474 : Int32)) dX12_sumOf_19 rfl ?_
      refine V_ialdC (pc := 22) (n := 2172) dX12_sumOf_22 kc_172 lc_172 (by decide) ?_
      refine V_icmp_ge (pc := 23) (tgt := 73) dX12_sumOf_23 (by decide) ?_ ?_
      · refine V_exit r4 ?_
        refine V_sub (vs' := [none, none, some (.int a4.1), none]) (show vless _ _ from ⟨rfl, trivial⟩) rfl ?_
        exact hJ73 a4.1 a4.2.2
      · refine V_aload_n (pc := 26) dX12_sumOf_26 rfl rfl ?_
        refine V_getr (pc := 27) (t := 172) fk_X12_13 rfl dX12_sumOf_27 kc_171 rfl ?_
        refine V_sipush (pc := 30) (v := (475 : Int32)) dX12_sumOf_30 rfl ?_
        refine V_iconst (pc := 33) (v := (4 : Int32)) dX12_sumOf_33 rfl ?_
        refine V_iload_n (pc := 34) dX12_sumOf_34 rfl rfl ?_
        refine V_imul (pc := 35) dX12_sumOf_35 ?_
        refine V_iadd (pc := 36) dX12_sumOf_36 ?_
        refine V_iald (pc := 37) (n := 2172) dX12_sumOf_37 kc_172 lc_172 ?_
        refine V_iload_n (pc := 38) dX12_sumOf_38 rfl rfl ?_
        refine V_icmp_ne (pc := 39) (tgt := 67) dX12_sumOf_39 (by decide) ?_ ?_
        · exact hJ67 a4.1 a4.2.1 a4.2.2
        · refine V_aload_n (pc := 42) dX12_sumOf_42 rfl rfl ?_
          refine V_iload_n (pc := 43) dX12_sumOf_43 rfl rfl ?_
          refine V_callVi (pc := 44) (As := [.int a4.2.1]) (rest := []) (c_X12_holdsLine w n a4.2.1 a4.2.2) cw_X12_280 rfl rfl dX12_sumOf_44 kc_171 rfl ⟨Nat.le_of_ble_eq_true rfl, Nat.le_of_ble_eq_true rfl⟩ rfl rfl (Nat.le_of_ble_eq_true rfl) (Nat.le_of_ble_eq_true rfl) (Nat.le_of_ble_eq_true rfl) rfl (fun q44 => ?_)
          refine V_if_eq (pc := 47) (tgt := 67) dX12_sumOf_47 (by decide) ?_ ?_
          · exact hJ67 a4.1 a4.2.1 q44.2
          · refine V_iload_n (pc := 50) dX12_sumOf_50 rfl rfl ?_
            refine V_aload_n (pc := 51) dX12_sumOf_51 rfl rfl ?_
            refine V_getr (pc := 52) (t := 172) fk_X12_13 rfl dX12_sumOf_52 kc_171 rfl ?_
            refine V_sipush (pc := 55) (v := (475 : Int32)) dX12_sumOf_55 rfl ?_
            refine V_iconst (pc := 58) (v := (4 : Int32)) dX12_sumOf_58 rfl ?_
            refine V_iload_n (pc := 59) dX12_sumOf_59 rfl rfl ?_
            refine V_imul (pc := 60) dX12_sumOf_60 ?_
            refine V_iadd (pc := 61) dX12_sumOf_61 ?_
            refine V_iconst (pc := 62) (v := (1 : Int32)) dX12_sumOf_62 rfl ?_
            refine V_iadd (pc := 63) dX12_sumOf_63 ?_
            refine V_iald (pc := 64) (n := 2172) dX12_sumOf_64 kc_172 lc_172 ?_
            refine V_iadd (pc := 65) dX12_sumOf_65 ?_
            refine V_istore_n (pc := 66) (vs' := [some (.ref (wB w + 171)), some (.int p1), some (.int (a4.1 + (q44.2 172 (ix (((475 : Int32) + ((4 : Int32) * a4.2.1)) + (1 : Int32)))))), some (.int a4.2.1)]) dX12_sumOf_66 rfl (Nat.le_of_ble_eq_true rfl) (Nat.le_of_ble_eq_true rfl) rfl ?_
            exact hJ67 (a4.1 + (q44.2 172 (ix (((475 : Int32) + ((4 : Int32) * a4.2.1)) + (1 : Int32))))) a4.2.1 q44.2
  refine V_iconst (pc := 0) (v := (0 : Int32)) dX12_sumOf_0 rfl ?_
  refine V_istore_n (pc := 1) (vs' := [some (.ref (wB w + 171)), some (.int p1), some (.int (0 : Int32)), none]) dX12_sumOf_1 rfl (Nat.le_of_ble_eq_true rfl) (Nat.le_of_ble_eq_true rfl) rfl ?_
  refine V_iconst (pc := 2) (v := (0 : Int32)) dX12_sumOf_2 rfl ?_
  refine V_istore_n (pc := 3) (vs' := [some (.ref (wB w + 171)), some (.int p1), some (.int (0 : Int32)), some (.int (0 : Int32))]) dX12_sumOf_3 rfl (Nat.le_of_ble_eq_true rfl) (Nat.le_of_ble_eq_true rfl) rfl ?_
  exact hL4 n ((0 : Int32), (0 : Int32), σ)
def f_X12_looks (p1 : Int32) (p2 : Int32) (p3 : Int32) (p4 : Int32) (σ : MS) : Option (Int32 × MS) := (ltM (mu σ 171 18 (mnI p1 p2)) (fun s6 => (ltM (mu s6 171 19 (mxI p1 p2)) (fun s15 => (ltM (mu s15 171 20 p3) (fun s20 => (ltM (mu s20 171 21 p4) (fun s26 => some (0, s26)))))))))
set_option maxRecDepth 20000 in
set_option maxHeartbeats 2000000 in
theorem c_X12_looks (w : TG) (p1 : Int32) (p2 : Int32) (p3 : Int32) (p4 : Int32) (σ : MS) : MC m_X12_looks w [.ref (wB w + 171), .int p1, .int p2, .int p3, .int p4] σ (f_X12_looks p1 p2 p3 p4 σ) := by
  refine V_meth (by decide +kernel) (Nat.le_of_ble_eq_true rfl) (by intro v hv; simp only [List.mem_cons, List.not_mem_nil, or_false] at hv; rcases hv with rfl | rfl | rfl | rfl | rfl <;> rfl) (fun g x => ?_)
  show VV m_X12_looks w g 0 0 (QM m_X12_looks w g x) (fun b : Int32 × MS => b = x) 0 [some (.ref (wB w + 171)), some (.int p1), some (.int p2), some (.int p3), some (.int p4)] [] σ (f_X12_looks p1 p2 p3 p4 σ)
  refine V_aload_n (pc := 0) dX12_looks_0 rfl rfl ?_
  refine V_iload_n (pc := 1) dX12_looks_1 rfl rfl ?_
  refine V_iload_n (pc := 2) dX12_looks_2 rfl rfl ?_
  refine V_mmin (pc := 3) dX12_looks_3 rfl mw_X12_283 (Nat.le_of_ble_eq_true rfl) (Nat.le_of_ble_eq_true rfl) (Nat.le_of_ble_eq_true rfl) (Nat.le_of_ble_eq_true rfl) ?_
  refine V_puti (pc := 6) fp_X12_260 rfl dX12_looks_6 kc_171 rfl (fun s6 => ?_)
  refine V_aload_n (pc := 9) dX12_looks_9 rfl rfl ?_
  refine V_iload_n (pc := 10) dX12_looks_10 rfl rfl ?_
  refine V_iload_n (pc := 11) dX12_looks_11 rfl rfl ?_
  refine V_mmax (pc := 12) dX12_looks_12 rfl mw_X12_288 (Nat.le_of_ble_eq_true rfl) (Nat.le_of_ble_eq_true rfl) (Nat.le_of_ble_eq_true rfl) (Nat.le_of_ble_eq_true rfl) ?_
  refine V_puti (pc := 15) fp_X12_263 rfl dX12_looks_15 kc_171 rfl (fun s15 => ?_)
  refine V_aload_n (pc := 18) dX12_looks_18 rfl rfl ?_
  refine V_iload_n (pc := 19) dX12_looks_19 rfl rfl ?_
  refine V_puti (pc := 20) fp_X12_266 rfl dX12_looks_20 kc_171 rfl (fun s20 => ?_)
  refine V_aload_n (pc := 23) dX12_looks_23 rfl rfl ?_
  refine V_iload (pc := 24) dX12_looks_24 rfl ?_
  refine V_puti (pc := 26) fp_X12_269 rfl dX12_looks_26 kc_171 rfl (fun s26 => ?_)
  exact V_ret (pc := 29) dX12_looks_29 rfl (hk := fun h => h)
def f_X12_bindsBy (n : Nat)  (σ : MS) : Option (Int32 × MS) := ((f_X12_sumOf n (0 : Int32) σ).bind (fun q10 => some ((mnI (9 : Int32) ((σ 172 5) + q10.1)), q10.2)))
set_option maxRecDepth 20000 in
set_option maxHeartbeats 2000000 in
theorem c_X12_bindsBy (w : TG) (n : Nat)  (σ : MS) : MC m_X12_bindsBy w [.ref (wB w + 171)] σ (f_X12_bindsBy n  σ) := by
  refine V_meth (by decide +kernel) (Nat.le_of_ble_eq_true rfl) (by intro v hv; simp only [List.mem_cons, List.not_mem_nil, or_false] at hv; subst hv; rfl) (fun g x => ?_)
  show VV m_X12_bindsBy w g 0 0 (QM m_X12_bindsBy w g x) (fun b : Int32 × MS => b = x) 0 [some (.ref (wB w + 171))] [] σ (f_X12_bindsBy n  σ)
  refine V_bipush (pc := 0) (v := (9 : Int32)) dX12_bindsBy_0 rfl ?_
  refine V_aload_n (pc := 2) dX12_bindsBy_2 rfl rfl ?_
  refine V_getr (pc := 3) (t := 172) fk_X12_13 rfl dX12_bindsBy_3 kc_171 rfl ?_
  refine V_iconst (pc := 6) (v := (5 : Int32)) dX12_bindsBy_6 rfl ?_
  refine V_ialdC (pc := 7) (n := 2172) dX12_bindsBy_7 kc_172 lc_172 (by decide) ?_
  refine V_aload_n (pc := 8) dX12_bindsBy_8 rfl rfl ?_
  refine V_iconst (pc := 9) (v := (0 : Int32)) dX12_bindsBy_9 rfl ?_
  refine V_callVi (pc := 10) (As := [.int (0 : Int32)]) (rest := [.int (σ 172 5), .int (9 : Int32)]) (c_X12_sumOf w n (0 : Int32) σ) cw_X12_291 rfl rfl dX12_bindsBy_10 kc_171 rfl ⟨Nat.le_of_ble_eq_true rfl, Nat.le_of_ble_eq_true rfl⟩ rfl rfl (Nat.le_of_ble_eq_true rfl) (Nat.le_of_ble_eq_true rfl) (Nat.le_of_ble_eq_true rfl) rfl (fun q10 => ?_)
  refine V_iadd (pc := 13) dX12_bindsBy_13 ?_
  refine V_mmin (pc := 14) dX12_bindsBy_14 rfl mw_X12_283 (Nat.le_of_ble_eq_true rfl) (Nat.le_of_ble_eq_true rfl) (Nat.le_of_ble_eq_true rfl) (Nat.le_of_ble_eq_true rfl) ?_
  exact V_ireti (pc := 17) dX12_bindsBy_17 rfl (hk := fun h => h)
def f_X12_lastsFor (n : Nat)  (σ : MS) : Option (Int32 × MS) := ((f_X12_sumOf n (1 : Int32) σ).bind (fun q9 => some (((σ 172 6) + q9.1), q9.2)))
set_option maxRecDepth 20000 in
set_option maxHeartbeats 2000000 in
theorem c_X12_lastsFor (w : TG) (n : Nat)  (σ : MS) : MC m_X12_lastsFor w [.ref (wB w + 171)] σ (f_X12_lastsFor n  σ) := by
  refine V_meth (by decide +kernel) (Nat.le_of_ble_eq_true rfl) (by intro v hv; simp only [List.mem_cons, List.not_mem_nil, or_false] at hv; subst hv; rfl) (fun g x => ?_)
  show VV m_X12_lastsFor w g 0 0 (QM m_X12_lastsFor w g x) (fun b : Int32 × MS => b = x) 0 [some (.ref (wB w + 171))] [] σ (f_X12_lastsFor n  σ)
  refine V_aload_n (pc := 0) dX12_lastsFor_0 rfl rfl ?_
  refine V_getr (pc := 1) (t := 172) fk_X12_13 rfl dX12_lastsFor_1 kc_171 rfl ?_
  refine V_bipush (pc := 4) (v := (6 : Int32)) dX12_lastsFor_4 rfl ?_
  refine V_ialdC (pc := 6) (n := 2172) dX12_lastsFor_6 kc_172 lc_172 (by decide) ?_
  refine V_aload_n (pc := 7) dX12_lastsFor_7 rfl rfl ?_
  refine V_iconst (pc := 8) (v := (1 : Int32)) dX12_lastsFor_8 rfl ?_
  refine V_callVi (pc := 9) (As := [.int (1 : Int32)]) (rest := [.int (σ 172 6)]) (c_X12_sumOf w n (1 : Int32) σ) cw_X12_291 rfl rfl dX12_lastsFor_9 kc_171 rfl ⟨Nat.le_of_ble_eq_true rfl, Nat.le_of_ble_eq_true rfl⟩ rfl rfl (Nat.le_of_ble_eq_true rfl) (Nat.le_of_ble_eq_true rfl) (Nat.le_of_ble_eq_true rfl) rfl (fun q9 => ?_)
  refine V_iadd (pc := 12) dX12_lastsFor_12 ?_
  exact V_ireti (pc := 13) dX12_lastsFor_13 rfl (hk := fun h => h)
def J_X12_suspectsBy_19 (n : Nat) (t0 : Int32) (σ : MS) : Option (Int32 × MS) := some (t0, σ)
def f_X12_suspectsBy (n : Nat)  (σ : MS) : Option (Int32 × MS) := (if (σ 172 2) = (1 : Int32) then ((f_X12_sumOf n (2 : Int32) σ).bind (fun q12 => J_X12_suspectsBy_19 n q12.1 q12.2)) else J_X12_suspectsBy_19 n (5 : Int32) σ)
set_option maxRecDepth 20000 in
set_option maxHeartbeats 2000000 in
theorem c_X12_suspectsBy (w : TG) (n : Nat)  (σ : MS) : MC m_X12_suspectsBy w [.ref (wB w + 171)] σ (f_X12_suspectsBy n  σ) := by
  refine V_meth (by decide +kernel) (Nat.le_of_ble_eq_true rfl) (by intro v hv; simp only [List.mem_cons, List.not_mem_nil, or_false] at hv; subst hv; rfl) (fun g x => ?_)
  show VV m_X12_suspectsBy w g 0 0 (QM m_X12_suspectsBy w g x) (fun b : Int32 × MS => b = x) 0 [some (.ref (wB w + 171))] [] σ (f_X12_suspectsBy n  σ)
  have hJ19 : ∀ (t0 : Int32) (σ : MS), VV m_X12_suspectsBy w g 0 0 (QM m_X12_suspectsBy w g x) (fun b : Int32 × MS => b = x) 19 [none] [.int t0] σ (J_X12_suspectsBy_19 n t0 σ) := by
    intro t0 σ
    exact V_ireti (pc := 19) dX12_suspectsBy_19 rfl (hk := fun h => h)
  refine V_aload_n (pc := 0) dX12_suspectsBy_0 rfl rfl ?_
  refine V_getr (pc := 1) (t := 172) fk_X12_13 rfl dX12_suspectsBy_1 kc_171 rfl ?_
  refine V_iconst (pc := 4) (v := (2 : Int32)) dX12_suspectsBy_4 rfl ?_
  refine V_ialdC (pc := 5) (n := 2172) dX12_suspectsBy_5 kc_172 lc_172 (by decide) ?_
  refine V_iconst (pc := 6) (v := (1 : Int32)) dX12_suspectsBy_6 rfl ?_
  refine V_icmp_ne (pc := 7) (tgt := 18) dX12_suspectsBy_7 (by decide) ?_ ?_
  · refine V_iconst (pc := 18) (v := (5 : Int32)) dX12_suspectsBy_18 rfl ?_
    refine V_sub (vs' := [none]) (show vless _ _ from trivial) rfl ?_
    exact hJ19 (5 : Int32) σ
  · refine V_aload_n (pc := 10) dX12_suspectsBy_10 rfl rfl ?_
    refine V_iconst (pc := 11) (v := (2 : Int32)) dX12_suspectsBy_11 rfl ?_
    refine V_callVi (pc := 12) (As := [.int (2 : Int32)]) (rest := []) (c_X12_sumOf w n (2 : Int32) σ) cw_X12_291 rfl rfl dX12_suspectsBy_12 kc_171 rfl ⟨Nat.le_of_ble_eq_true rfl, Nat.le_of_ble_eq_true rfl⟩ rfl rfl (Nat.le_of_ble_eq_true rfl) (Nat.le_of_ble_eq_true rfl) (Nat.le_of_ble_eq_true rfl) rfl (fun q12 => ?_)
    refine V_goto (pc := 15) (tgt := 19) dX12_suspectsBy_15 (by decide) ?_
    refine V_sub (vs' := [none]) (show vless _ _ from trivial) rfl ?_
    exact hJ19 q12.1 q12.2
def J_X12_sipBinds_51 (n : Nat) (t0 : Int32) (σ : MS) : Option (Int32 × MS) := some (t0, σ)
def f_X12_sipBinds (n : Nat)  (σ : MS) : Option (Int32 × MS) := ((f_X12_bindsBy n  σ).bind (fun q1 => (if (q1.2 171 20) = (1 : Int32) then J_X12_sipBinds_51 n (q1.1 / (2 : Int32)) q1.2 else (if (q1.2 171 20) = (2 : Int32) then J_X12_sipBinds_51 n (mnI (9 : Int32) ((2 : Int32) * q1.1)) q1.2 else (if (q1.2 171 20) = (3 : Int32) then J_X12_sipBinds_51 n (0 : Int32) q1.2 else J_X12_sipBinds_51 n q1.1 q1.2)))))
set_option maxRecDepth 20000 in
set_option maxHeartbeats 2000000 in
theorem c_X12_sipBinds (w : TG) (n : Nat)  (σ : MS) : MC m_X12_sipBinds w [.ref (wB w + 171)] σ (f_X12_sipBinds n  σ) := by
  refine V_meth (by decide +kernel) (Nat.le_of_ble_eq_true rfl) (by intro v hv; simp only [List.mem_cons, List.not_mem_nil, or_false] at hv; subst hv; rfl) (fun g x => ?_)
  show VV m_X12_sipBinds w g 0 0 (QM m_X12_sipBinds w g x) (fun b : Int32 × MS => b = x) 0 [some (.ref (wB w + 171)), none] [] σ (f_X12_sipBinds n  σ)
  have hJ51 : ∀ (t0 : Int32) (σ : MS), VV m_X12_sipBinds w g 0 0 (QM m_X12_sipBinds w g x) (fun b : Int32 × MS => b = x) 51 [none, none] [.int t0] σ (J_X12_sipBinds_51 n t0 σ) := by
    intro t0 σ
    exact V_ireti (pc := 51) dX12_sipBinds_51 rfl (hk := fun h => h)
  refine V_aload_n (pc := 0) dX12_sipBinds_0 rfl rfl ?_
  refine V_callVi (pc := 1) (As := []) (rest := []) (c_X12_bindsBy w n  σ) cw_X12_294 rfl rfl dX12_sipBinds_1 kc_171 rfl ⟨Nat.le_of_ble_eq_true rfl, Nat.le_of_ble_eq_true rfl⟩ rfl rfl (Nat.le_of_ble_eq_true rfl) (Nat.le_of_ble_eq_true rfl) (Nat.le_of_ble_eq_true rfl) rfl (fun q1 => ?_)
  refine V_istore_n (pc := 4) (vs' := [some (.ref (wB w + 171)), some (.int q1.1)]) dX12_sipBinds_4 rfl (Nat.le_of_ble_eq_true rfl) (Nat.le_of_ble_eq_true rfl) rfl ?_
  refine V_aload_n (pc := 5) dX12_sipBinds_5 rfl rfl ?_
  refine V_geti (pc := 6) fk_X12_266 rfl dX12_sipBinds_6 kc_171 rfl ?_
  refine V_iconst (pc := 9) (v := (1 : Int32)) dX12_sipBinds_9 rfl ?_
  refine V_icmp_ne (pc := 10) (tgt := 19) dX12_sipBinds_10 (by decide) ?_ ?_
  · refine V_aload_n (pc := 19) dX12_sipBinds_19 rfl rfl ?_
    refine V_geti (pc := 20) fk_X12_266 rfl dX12_sipBinds_20 kc_171 rfl ?_
    refine V_iconst (pc := 23) (v := (2 : Int32)) dX12_sipBinds_23 rfl ?_
    refine V_icmp_ne (pc := 24) (tgt := 38) dX12_sipBinds_24 (by decide) ?_ ?_
    · refine V_aload_n (pc := 38) dX12_sipBinds_38 rfl rfl ?_
      refine V_geti (pc := 39) fk_X12_266 rfl dX12_sipBinds_39 kc_171 rfl ?_
      refine V_iconst (pc := 42) (v := (3 : Int32)) dX12_sipBinds_42 rfl ?_
      refine V_icmp_ne (pc := 43) (tgt := 50) dX12_sipBinds_43 (by decide) ?_ ?_
      · refine V_iload_n (pc := 50) dX12_sipBinds_50 rfl rfl ?_
        refine V_sub (vs' := [none, none]) (show vless _ _ from trivial) rfl ?_
        exact hJ51 q1.1 q1.2
      · refine V_iconst (pc := 46) (v := (0 : Int32)) dX12_sipBinds_46 rfl ?_
        refine V_goto (pc := 47) (tgt := 51) dX12_sipBinds_47 (by decide) ?_
        refine V_sub (vs' := [none, none]) (show vless _ _ from trivial) rfl ?_
        exact hJ51 (0 : Int32) q1.2
    · refine V_bipush (pc := 27) (v := (9 : Int32)) dX12_sipBinds_27 rfl ?_
      refine V_iconst (pc := 29) (v := (2 : Int32)) dX12_sipBinds_29 rfl ?_
      refine V_iload_n (pc := 30) dX12_sipBinds_30 rfl rfl ?_
      refine V_imul (pc := 31) dX12_sipBinds_31 ?_
      refine V_mmin (pc := 32) dX12_sipBinds_32 rfl mw_X12_283 (Nat.le_of_ble_eq_true rfl) (Nat.le_of_ble_eq_true rfl) (Nat.le_of_ble_eq_true rfl) (Nat.le_of_ble_eq_true rfl) ?_
      refine V_goto (pc := 35) (tgt := 51) dX12_sipBinds_35 (by decide) ?_
      refine V_sub (vs' := [none, none]) (show vless _ _ from trivial) rfl ?_
      exact hJ51 (mnI (9 : Int32) ((2 : Int32) * q1.1)) q1.2
  · refine V_iload_n (pc := 13) dX12_sipBinds_13 rfl rfl ?_
    refine V_iconst (pc := 14) (v := (2 : Int32)) dX12_sipBinds_14 rfl ?_
    refine V_idiv (pc := 15) dX12_sipBinds_15 (by decide) ?_
    refine V_goto (pc := 16) (tgt := 51) dX12_sipBinds_16 (by decide) ?_
    refine V_sub (vs' := [none, none]) (show vless _ _ from trivial) rfl ?_
    exact hJ51 (q1.1 / (2 : Int32)) q1.2
def J_X12_noBoth_21 (t0 : Int32) (σ : MS) : Option (Int32) := (if t0 = 0 ∨ t0 = 1 then some t0 else none)
def J_X12_noBoth_16  (σ : MS) : Option (Int32) := J_X12_noBoth_21 (1 : Int32) σ
def f_X12_noBoth (p1 : Int32) (p2 : Int32) (σ : MS) : Option (Int32) := ((f_X12_noPerson p1 σ).bind (fun q2 => (if q2 = 0 then ((f_X12_noPerson p2 σ).bind (fun q10 => (if q10 = 0 then J_X12_noBoth_21 (0 : Int32) σ else J_X12_noBoth_16  σ))) else J_X12_noBoth_16  σ)))
set_option maxRecDepth 20000 in
set_option maxHeartbeats 2000000 in
theorem c_X12_noBoth (w : TG) (p1 : Int32) (p2 : Int32) (σ : MS) : MC m_X12_noBoth w [.ref (wB w + 171), .int p1, .int p2] σ ((f_X12_noBoth p1 p2 σ).map (fun r => (r, σ))) := by
  refine V_methp (by decide +kernel) (Nat.le_of_ble_eq_true rfl) (by intro v hv; simp only [List.mem_cons, List.not_mem_nil, or_false] at hv; rcases hv with rfl | rfl | rfl <;> rfl) (fun g x => ?_)
  show VV m_X12_noBoth w g 0 0 (QM m_X12_noBoth w g x) (fun b : Int32 => (b, σ) = x) 0 [some (.ref (wB w + 171)), some (.int p1), some (.int p2)] [] σ (f_X12_noBoth p1 p2 σ)
  have hJ21 : ∀ (t0 : Int32), VV m_X12_noBoth w g 0 0 (QM m_X12_noBoth w g x) (fun b : Int32 => (b, σ) = x) 21 [none, none, none] [.int t0] σ (J_X12_noBoth_21 t0 σ) := by
    intro t0
    exact V_iretZ (pc := 21) dX12_noBoth_21 rfl (hk := fun h => h)
  have hJ16 : ∀ (_ : Unit), VV m_X12_noBoth w g 0 0 (QM m_X12_noBoth w g x) (fun b : Int32 => (b, σ) = x) 16 [none, none, none] [] σ (J_X12_noBoth_16  σ) := by
    intro _
    refine V_iconst (pc := 16) (v := (1 : Int32)) dX12_noBoth_16 rfl ?_
    refine V_goto (pc := 17) (tgt := 21) dX12_noBoth_17 (by decide) ?_
    exact hJ21 (1 : Int32)
  refine V_aload_n (pc := 0) dX12_noBoth_0 rfl rfl ?_
  refine V_iload_n (pc := 1) dX12_noBoth_1 rfl rfl ?_
  refine V_callVpi (pc := 2) (As := [.int p1]) (rest := []) (c_X12_noPerson w p1 σ) cw_X12_297 rfl rfl dX12_noBoth_2 kc_171 rfl ⟨Nat.le_of_ble_eq_true rfl, Nat.le_of_ble_eq_true rfl⟩ rfl rfl (Nat.le_of_ble_eq_true rfl) (Nat.le_of_ble_eq_true rfl) (Nat.le_of_ble_eq_true rfl) rfl (fun q2 => ?_)
  refine V_if_ne (pc := 5) (tgt := 16) dX12_noBoth_5 (by decide) ?_ ?_
  · refine V_sub (vs' := [none, none, none]) (show vless _ _ from trivial) rfl ?_
    exact hJ16 ()
  · refine V_aload_n (pc := 8) dX12_noBoth_8 rfl rfl ?_
    refine V_iload_n (pc := 9) dX12_noBoth_9 rfl rfl ?_
    refine V_callVpi (pc := 10) (As := [.int p2]) (rest := []) (c_X12_noPerson w p2 σ) cw_X12_297 rfl rfl dX12_noBoth_10 kc_171 rfl ⟨Nat.le_of_ble_eq_true rfl, Nat.le_of_ble_eq_true rfl⟩ rfl rfl (Nat.le_of_ble_eq_true rfl) (Nat.le_of_ble_eq_true rfl) (Nat.le_of_ble_eq_true rfl) rfl (fun q10 => ?_)
    refine V_if_eq (pc := 13) (tgt := 20) dX12_noBoth_13 (by decide) ?_ ?_
    · refine V_iconst (pc := 20) (v := (0 : Int32)) dX12_noBoth_20 rfl ?_
      refine V_sub (vs' := [none, none, none]) (show vless _ _ from trivial) rfl ?_
      exact hJ21 (0 : Int32)
    · refine V_sub (vs' := [none, none, none]) (show vless _ _ from trivial) rfl ?_
      exact hJ16 ()
def J_X12_told_140 (n : Nat) (t0 : Int32) (σ : MS) : Option (Int32 × MS) := some (t0, σ)
def J_X12_told_108 (n : Nat) (v5 : Int32) (t0 : Int32) (t1 : Int32) (t2 : Int32) (t3 : Int32) (σ : MS) : Option (Int32 × MS) := ((f_X12_looks t3 t2 t1 t0 σ).bind (fun q108 => (if v5 = 0 then ((f_X12_bindsBy n  q108.2).bind (fun q117 => J_X12_told_140 n q117.1 q117.2)) else (if v5 = (1 : Int32) then ((f_X12_lastsFor n  q108.2).bind (fun q130 => J_X12_told_140 n q130.1 q130.2)) else ((f_X12_suspectsBy n  q108.2).bind (fun q137 => J_X12_told_140 n q137.1 q137.2))))))
def J_X12_told_96 (n : Nat) (v4 : Int32) (v5 : Int32) (t0 : Int32) (t1 : Int32) (t2 : Int32) (σ : MS) : Option (Int32 × MS) := (if v5 = (2 : Int32) then J_X12_told_108 n v5 (0 : Int32) t0 t1 t2 σ else J_X12_told_108 n v5 v4 t0 t1 t2 σ)
def J_X12_told_80 (n : Nat)  (σ : MS) : Option (Int32 × MS) := some ((0 : Int32), σ)
def J_X12_told_73 (n : Nat) (v1 : Int32) (v2 : Int32) (v3 : Int32) (v4 : Int32) (v5 : Int32) (t0 : Int32) (σ : MS) : Option (Int32 × MS) := ((f_X12_throwsIf t0 (3 : Int32) σ).bind (fun q74 => (if q74.1 = 0 then (if v5 = (2 : Int32) then J_X12_told_96 n v4 v5 (0 : Int32) v2 v1 q74.2 else J_X12_told_96 n v4 v5 v3 v2 v1 q74.2) else J_X12_told_80 n  q74.2)))
def J_X12_told_50 (n : Nat) (v1 : Int32) (v2 : Int32) (v3 : Int32) (v4 : Int32) (v5 : Int32) (t0 : Int32) (σ : MS) : Option (Int32 × MS) := ((f_X12_throwsIf t0 (2 : Int32) σ).bind (fun q51 => (if q51.1 = 0 then ((f_X12_in v5 (0 : Int32) (2 : Int32) q51.2).bind (fun q62 => (if q62 = 0 then J_X12_told_73 n v1 v2 v3 v4 v5 (1 : Int32) q51.2 else J_X12_told_73 n v1 v2 v3 v4 v5 (0 : Int32) q51.2))) else J_X12_told_80 n  q51.2)))
def J_X12_told_45 (n : Nat) (v1 : Int32) (v2 : Int32) (v3 : Int32) (v4 : Int32) (v5 : Int32) (σ : MS) : Option (Int32 × MS) := J_X12_told_50 n v1 v2 v3 v4 v5 (1 : Int32) σ
def f_X12_told (n : Nat) (p1 : Int32) (p2 : Int32) (p3 : Int32) (p4 : Int32) (p5 : Int32) (σ : MS) : Option (Int32 × MS) := (ltM (mu σ 171 0 (0 : Int32)) (fun s2 => ((f_X12_noBoth p1 p2 s2).bind (fun q9 => ((f_X12_throwsIf q9 (1 : Int32) s2).bind (fun q13 => (if q13.1 = 0 then (if p1 = p2 then J_X12_told_45 n p1 p2 p3 p4 p5 q13.2 else ((f_X12_in p3 (0 : Int32) (3 : Int32) q13.2).bind (fun q28 => (if q28 = 0 then J_X12_told_45 n p1 p2 p3 p4 p5 q13.2 else ((f_X12_in p4 (2 : Int32) (8 : Int32) q13.2).bind (fun q39 => (if q39 = 0 then J_X12_told_45 n p1 p2 p3 p4 p5 q13.2 else J_X12_told_50 n p1 p2 p3 p4 p5 (0 : Int32) q13.2))))))) else J_X12_told_80 n  q13.2)))))))
set_option maxRecDepth 20000 in
set_option maxHeartbeats 2000000 in
theorem c_X12_told (w : TG) (n : Nat) (p1 : Int32) (p2 : Int32) (p3 : Int32) (p4 : Int32) (p5 : Int32) (σ : MS) : MC m_X12_told w [.ref (wB w + 171), .int p1, .int p2, .int p3, .int p4, .int p5] σ (f_X12_told n p1 p2 p3 p4 p5 σ) := by
  refine V_meth (by decide +kernel) (Nat.le_of_ble_eq_true rfl) (by intro v hv; simp only [List.mem_cons, List.not_mem_nil, or_false] at hv; rcases hv with rfl | rfl | rfl | rfl | rfl | rfl <;> rfl) (fun g x => ?_)
  show VV m_X12_told w g 0 0 (QM m_X12_told w g x) (fun b : Int32 × MS => b = x) 0 [some (.ref (wB w + 171)), some (.int p1), some (.int p2), some (.int p3), some (.int p4), some (.int p5)] [] σ (f_X12_told n p1 p2 p3 p4 p5 σ)
  have hJ140 : ∀ (t0 : Int32) (σ : MS), VV m_X12_told w g 0 0 (QM m_X12_told w g x) (fun b : Int32 × MS => b = x) 140 [none, none, none, none, none, none] [.int t0] σ (J_X12_told_140 n t0 σ) := by
    intro t0 σ
    exact V_ireti (pc := 140) dX12_told_140 rfl (hk := fun h => h)
  have hJ108 : ∀ (t0 : Int32) (t1 : Int32) (t2 : Int32) (t3 : Int32) (σ : MS), VV m_X12_told w g 0 0 (QM m_X12_told w g x) (fun b : Int32 × MS => b = x) 108 [some (.ref (wB w + 171)), none, none, none, none, some (.int p5)] [.int t0, .int t1, .int t2, .int t3, .ref (wB w + 171)] σ (J_X12_told_108 n p5 t0 t1 t2 t3 σ) := by
    intro t0 t1 t2 t3 σ
    refine V_callVv (pc := 108) (As := [.int t3, .int t2, .int t1, .int t0]) (rest := []) (c_X12_looks w t3 t2 t1 t0 σ) cw_X12_303 rfl rfl dX12_told_108 kc_171 rfl ⟨Nat.le_of_ble_eq_true rfl, Nat.le_of_ble_eq_true rfl⟩ rfl rfl (Nat.le_of_ble_eq_true rfl) (Nat.le_of_ble_eq_true rfl) (Nat.le_of_ble_eq_true rfl) rfl (fun q108 => ?_)
    refine V_iload (pc := 111) dX12_told_111 rfl ?_
    refine V_if_ne (pc := 113) (tgt := 123) dX12_told_113 (by decide) ?_ ?_
    · refine V_iload (pc := 123) dX12_told_123 rfl ?_
      refine V_iconst (pc := 125) (v := (1 : Int32)) dX12_told_125 rfl ?_
      refine V_icmp_ne (pc := 126) (tgt := 136) dX12_told_126 (by decide) ?_ ?_
      · refine V_aload_n (pc := 136) dX12_told_136 rfl rfl ?_
        refine V_callVi (pc := 137) (As := []) (rest := []) (c_X12_suspectsBy w n  q108.2) cw_X12_309 rfl rfl dX12_told_137 kc_171 rfl ⟨Nat.le_of_ble_eq_true rfl, Nat.le_of_ble_eq_true rfl⟩ rfl rfl (Nat.le_of_ble_eq_true rfl) (Nat.le_of_ble_eq_true rfl) (Nat.le_of_ble_eq_true rfl) rfl (fun q137 => ?_)
        refine V_sub (vs' := [none, none, none, none, none, none]) (show vless _ _ from trivial) rfl ?_
        exact hJ140 q137.1 q137.2
      · refine V_aload_n (pc := 129) dX12_told_129 rfl rfl ?_
        refine V_callVi (pc := 130) (As := []) (rest := []) (c_X12_lastsFor w n  q108.2) cw_X12_306 rfl rfl dX12_told_130 kc_171 rfl ⟨Nat.le_of_ble_eq_true rfl, Nat.le_of_ble_eq_true rfl⟩ rfl rfl (Nat.le_of_ble_eq_true rfl) (Nat.le_of_ble_eq_true rfl) (Nat.le_of_ble_eq_true rfl) rfl (fun q130 => ?_)
        refine V_goto (pc := 133) (tgt := 140) dX12_told_133 (by decide) ?_
        refine V_sub (vs' := [none, none, none, none, none, none]) (show vless _ _ from trivial) rfl ?_
        exact hJ140 q130.1 q130.2
    · refine V_aload_n (pc := 116) dX12_told_116 rfl rfl ?_
      refine V_callVi (pc := 117) (As := []) (rest := []) (c_X12_bindsBy w n  q108.2) cw_X12_294 rfl rfl dX12_told_117 kc_171 rfl ⟨Nat.le_of_ble_eq_true rfl, Nat.le_of_ble_eq_true rfl⟩ rfl rfl (Nat.le_of_ble_eq_true rfl) (Nat.le_of_ble_eq_true rfl) (Nat.le_of_ble_eq_true rfl) rfl (fun q117 => ?_)
      refine V_goto (pc := 120) (tgt := 140) dX12_told_120 (by decide) ?_
      refine V_sub (vs' := [none, none, none, none, none, none]) (show vless _ _ from trivial) rfl ?_
      exact hJ140 q117.1 q117.2
  have hJ96 : ∀ (t0 : Int32) (t1 : Int32) (t2 : Int32) (σ : MS), VV m_X12_told w g 0 0 (QM m_X12_told w g x) (fun b : Int32 × MS => b = x) 96 [some (.ref (wB w + 171)), none, none, none, some (.int p4), some (.int p5)] [.int t0, .int t1, .int t2, .ref (wB w + 171)] σ (J_X12_told_96 n p4 p5 t0 t1 t2 σ) := by
    intro t0 t1 t2 σ
    refine V_iload (pc := 96) dX12_told_96 rfl ?_
    refine V_iconst (pc := 98) (v := (2 : Int32)) dX12_told_98 rfl ?_
    refine V_icmp_ne (pc := 99) (tgt := 106) dX12_told_99 (by decide) ?_ ?_
    · refine V_iload (pc := 106) dX12_told_106 rfl ?_
      refine V_sub (vs' := [some (.ref (wB w + 171)), none, none, none, none, some (.int p5)]) (show vless _ _ from ⟨rfl, ⟨rfl, trivial⟩⟩) rfl ?_
      exact hJ108 p4 t0 t1 t2 σ
    · refine V_iconst (pc := 102) (v := (0 : Int32)) dX12_told_102 rfl ?_
      refine V_goto (pc := 103) (tgt := 108) dX12_told_103 (by decide) ?_
      refine V_sub (vs' := [some (.ref (wB w + 171)), none, none, none, none, some (.int p5)]) (show vless _ _ from ⟨rfl, ⟨rfl, trivial⟩⟩) rfl ?_
      exact hJ108 (0 : Int32) t0 t1 t2 σ
  have hJ80 : ∀ (σ : MS), VV m_X12_told w g 0 0 (QM m_X12_told w g x) (fun b : Int32 × MS => b = x) 80 [none, none, none, none, none, none] [] σ (J_X12_told_80 n  σ) := by
    intro σ
    refine V_iconst (pc := 80) (v := (0 : Int32)) dX12_told_80 rfl ?_
    exact V_ireti (pc := 81) dX12_told_81 rfl (hk := fun h => h)
  have hJ73 : ∀ (t0 : Int32) (σ : MS), VV m_X12_told w g 0 0 (QM m_X12_told w g x) (fun b : Int32 × MS => b = x) 73 [some (.ref (wB w + 171)), some (.int p1), some (.int p2), some (.int p3), some (.int p4), some (.int p5)] [.int t0, .ref (wB w + 171)] σ (J_X12_told_73 n p1 p2 p3 p4 p5 t0 σ) := by
    intro t0 σ
    refine V_iconst (pc := 73) (v := (3 : Int32)) dX12_told_73 rfl ?_
    refine V_callVi (pc := 74) (As := [.int t0, .int (3 : Int32)]) (rest := []) (c_X12_throwsIf w t0 (3 : Int32) σ) cw_X12_257 rfl rfl dX12_told_74 kc_171 rfl ⟨Nat.le_of_ble_eq_true rfl, Nat.le_of_ble_eq_true rfl⟩ rfl rfl (Nat.le_of_ble_eq_true rfl) (Nat.le_of_ble_eq_true rfl) (Nat.le_of_ble_eq_true rfl) rfl (fun q74 => ?_)
    refine V_if_eq (pc := 77) (tgt := 82) dX12_told_77 (by decide) ?_ ?_
    · refine V_aload_n (pc := 82) dX12_told_82 rfl rfl ?_
      refine V_iload_n (pc := 83) dX12_told_83 rfl rfl ?_
      refine V_iload_n (pc := 84) dX12_told_84 rfl rfl ?_
      refine V_iload (pc := 85) dX12_told_85 rfl ?_
      refine V_iconst (pc := 87) (v := (2 : Int32)) dX12_told_87 rfl ?_
      refine V_icmp_ne (pc := 88) (tgt := 95) dX12_told_88 (by decide) ?_ ?_
      · refine V_iload_n (pc := 95) dX12_told_95 rfl rfl ?_
        refine V_sub (vs' := [some (.ref (wB w + 171)), none, none, none, some (.int p4), some (.int p5)]) (show vless _ _ from ⟨rfl, ⟨rfl, ⟨rfl, trivial⟩⟩⟩) rfl ?_
        exact hJ96 p3 p2 p1 q74.2
      · refine V_iconst (pc := 91) (v := (0 : Int32)) dX12_told_91 rfl ?_
        refine V_goto (pc := 92) (tgt := 96) dX12_told_92 (by decide) ?_
        refine V_sub (vs' := [some (.ref (wB w + 171)), none, none, none, some (.int p4), some (.int p5)]) (show vless _ _ from ⟨rfl, ⟨rfl, ⟨rfl, trivial⟩⟩⟩) rfl ?_
        exact hJ96 (0 : Int32) p2 p1 q74.2
    · refine V_sub (vs' := [none, none, none, none, none, none]) (show vless _ _ from trivial) rfl ?_
      exact hJ80 q74.2
  have hJ50 : ∀ (t0 : Int32) (σ : MS), VV m_X12_told w g 0 0 (QM m_X12_told w g x) (fun b : Int32 × MS => b = x) 50 [some (.ref (wB w + 171)), some (.int p1), some (.int p2), some (.int p3), some (.int p4), some (.int p5)] [.int t0, .ref (wB w + 171)] σ (J_X12_told_50 n p1 p2 p3 p4 p5 t0 σ) := by
    intro t0 σ
    refine V_iconst (pc := 50) (v := (2 : Int32)) dX12_told_50 rfl ?_
    refine V_callVi (pc := 51) (As := [.int t0, .int (2 : Int32)]) (rest := []) (c_X12_throwsIf w t0 (2 : Int32) σ) cw_X12_257 rfl rfl dX12_told_51 kc_171 rfl ⟨Nat.le_of_ble_eq_true rfl, Nat.le_of_ble_eq_true rfl⟩ rfl rfl (Nat.le_of_ble_eq_true rfl) (Nat.le_of_ble_eq_true rfl) (Nat.le_of_ble_eq_true rfl) rfl (fun q51 => ?_)
    refine V_if_ne (pc := 54) (tgt := 80) dX12_told_54 (by decide) ?_ ?_
    · refine V_sub (vs' := [none, none, none, none, none, none]) (show vless _ _ from trivial) rfl ?_
      exact hJ80 q51.2
    · refine V_aload_n (pc := 57) dX12_told_57 rfl rfl ?_
      refine V_iload (pc := 58) dX12_told_58 rfl ?_
      refine V_iconst (pc := 60) (v := (0 : Int32)) dX12_told_60 rfl ?_
      refine V_iconst (pc := 61) (v := (2 : Int32)) dX12_told_61 rfl ?_
      refine V_callSpi (pc := 62) (As := [.int p5, .int (0 : Int32), .int (2 : Int32)]) (rest := [.ref (wB w + 171)]) (c_X12_in w p5 (0 : Int32) (2 : Int32) q51.2) cs_X12_79 rfl rfl dX12_told_62 ⟨Nat.le_of_ble_eq_true rfl, Nat.le_of_ble_eq_true rfl⟩ rfl rfl (Nat.le_of_ble_eq_true rfl) (Nat.le_of_ble_eq_true rfl) (Nat.le_of_ble_eq_true rfl) rfl (fun q62 => ?_)
      refine V_if_ne (pc := 65) (tgt := 72) dX12_told_65 (by decide) ?_ ?_
      · refine V_iconst (pc := 72) (v := (0 : Int32)) dX12_told_72 rfl ?_
        exact hJ73 (0 : Int32) q51.2
      · refine V_iconst (pc := 68) (v := (1 : Int32)) dX12_told_68 rfl ?_
        refine V_goto (pc := 69) (tgt := 73) dX12_told_69 (by decide) ?_
        exact hJ73 (1 : Int32) q51.2
  have hJ45 : ∀ (σ : MS), VV m_X12_told w g 0 0 (QM m_X12_told w g x) (fun b : Int32 × MS => b = x) 45 [some (.ref (wB w + 171)), some (.int p1), some (.int p2), some (.int p3), some (.int p4), some (.int p5)] [.ref (wB w + 171)] σ (J_X12_told_45 n p1 p2 p3 p4 p5 σ) := by
    intro σ
    refine V_iconst (pc := 45) (v := (1 : Int32)) dX12_told_45 rfl ?_
    refine V_goto (pc := 46) (tgt := 50) dX12_told_46 (by decide) ?_
    exact hJ50 (1 : Int32) σ
  refine V_aload_n (pc := 0) dX12_told_0 rfl rfl ?_
  refine V_iconst (pc := 1) (v := (0 : Int32)) dX12_told_1 rfl ?_
  refine V_puti (pc := 2) fp_X12_3 rfl dX12_told_2 kc_171 rfl (fun s2 => ?_)
  refine V_aload_n (pc := 5) dX12_told_5 rfl rfl ?_
  refine V_aload_n (pc := 6) dX12_told_6 rfl rfl ?_
  refine V_iload_n (pc := 7) dX12_told_7 rfl rfl ?_
  refine V_iload_n (pc := 8) dX12_told_8 rfl rfl ?_
  refine V_callVpi (pc := 9) (As := [.int p1, .int p2]) (rest := [.ref (wB w + 171)]) (c_X12_noBoth w p1 p2 s2) cw_X12_300 rfl rfl dX12_told_9 kc_171 rfl ⟨Nat.le_of_ble_eq_true rfl, Nat.le_of_ble_eq_true rfl⟩ rfl rfl (Nat.le_of_ble_eq_true rfl) (Nat.le_of_ble_eq_true rfl) (Nat.le_of_ble_eq_true rfl) rfl (fun q9 => ?_)
  refine V_iconst (pc := 12) (v := (1 : Int32)) dX12_told_12 rfl ?_
  refine V_callVi (pc := 13) (As := [.int q9, .int (1 : Int32)]) (rest := []) (c_X12_throwsIf w q9 (1 : Int32) s2) cw_X12_257 rfl rfl dX12_told_13 kc_171 rfl ⟨Nat.le_of_ble_eq_true rfl, Nat.le_of_ble_eq_true rfl⟩ rfl rfl (Nat.le_of_ble_eq_true rfl) (Nat.le_of_ble_eq_true rfl) (Nat.le_of_ble_eq_true rfl) rfl (fun q13 => ?_)
  refine V_if_ne (pc := 16) (tgt := 80) dX12_told_16 (by decide) ?_ ?_
  · refine V_sub (vs' := [none, none, none, none, none, none]) (show vless _ _ from trivial) rfl ?_
    exact hJ80 q13.2
  · refine V_aload_n (pc := 19) dX12_told_19 rfl rfl ?_
    refine V_iload_n (pc := 20) dX12_told_20 rfl rfl ?_
    refine V_iload_n (pc := 21) dX12_told_21 rfl rfl ?_
    refine V_icmp_eq (pc := 22) (tgt := 45) dX12_told_22 (by decide) ?_ ?_
    · exact hJ45 q13.2
    · refine V_iload_n (pc := 25) dX12_told_25 rfl rfl ?_
      refine V_iconst (pc := 26) (v := (0 : Int32)) dX12_told_26 rfl ?_
      refine V_iconst (pc := 27) (v := (3 : Int32)) dX12_told_27 rfl ?_
      refine V_callSpi (pc := 28) (As := [.int p3, .int (0 : Int32), .int (3 : Int32)]) (rest := [.ref (wB w + 171)]) (c_X12_in w p3 (0 : Int32) (3 : Int32) q13.2) cs_X12_79 rfl rfl dX12_told_28 ⟨Nat.le_of_ble_eq_true rfl, Nat.le_of_ble_eq_true rfl⟩ rfl rfl (Nat.le_of_ble_eq_true rfl) (Nat.le_of_ble_eq_true rfl) (Nat.le_of_ble_eq_true rfl) rfl (fun q28 => ?_)
      refine V_if_eq (pc := 31) (tgt := 45) dX12_told_31 (by decide) ?_ ?_
      · exact hJ45 q13.2
      · refine V_iload (pc := 34) dX12_told_34 rfl ?_
        refine V_iconst (pc := 36) (v := (2 : Int32)) dX12_told_36 rfl ?_
        refine V_bipush (pc := 37) (v := (8 : Int32)) dX12_told_37 rfl ?_
        refine V_callSpi (pc := 39) (As := [.int p4, .int (2 : Int32), .int (8 : Int32)]) (rest := [.ref (wB w + 171)]) (c_X12_in w p4 (2 : Int32) (8 : Int32) q13.2) cs_X12_79 rfl rfl dX12_told_39 ⟨Nat.le_of_ble_eq_true rfl, Nat.le_of_ble_eq_true rfl⟩ rfl rfl (Nat.le_of_ble_eq_true rfl) (Nat.le_of_ble_eq_true rfl) (Nat.le_of_ble_eq_true rfl) rfl (fun q39 => ?_)
        refine V_if_ne (pc := 42) (tgt := 49) dX12_told_42 (by decide) ?_ ?_
        · refine V_iconst (pc := 49) (v := (0 : Int32)) dX12_told_49 rfl ?_
          exact hJ50 (0 : Int32) q13.2
        · exact hJ45 q13.2
def J_X12_sips_117 (n : Nat) (t0 : Int32) (σ : MS) : Option (Int32 × MS) := (if t0 = 0 ∨ t0 = 1 then some (t0, σ) else none)
def J_X12_sips_112 (n : Nat)  (σ : MS) : Option (Int32 × MS) := J_X12_sips_117 n (1 : Int32) σ
def J_X12_sips_53 (n : Nat) (v1 : Int32) (v2 : Int32) (v5 : Int32) (v6 : Int32) (t0 : Int32) (σ : MS) : Option (Int32 × MS) := ((f_X12_lastsFor n  σ).bind (fun q76 => ((f_X12_binds v1 v2 (mxI v6 v5) (mxI t0 (mnI (9999 : Int32) ((σ 172 3) + q76.1))) q76.2).bind (fun q95 => (if v6 < (mxI v6 v5) then J_X12_sips_112 n  q95.2 else (if (mxI t0 (mnI (9999 : Int32) ((σ 172 3) + q76.1))) ≤ t0 then J_X12_sips_117 n (0 : Int32) q95.2 else J_X12_sips_112 n  q95.2))))))
def f_X12_sips (n : Nat) (p1 : Int32) (p2 : Int32) (p3 : Int32) (p4 : Int32) (σ : MS) : Option (Int32 × MS) := ((f_X12_looks p1 p2 p3 p4 σ).bind (fun q6 => ((f_X12_sipBinds n  q6.2).bind (fun q10 => (if q10.1 = 0 then some ((0 : Int32), q10.2) else ((f_X12_bondOf p1 p2 q10.2).bind (fun q25 => (if q25 ≤ 0 then J_X12_sips_53 n p1 p2 q10.1 q25 (0 : Int32) q10.2 else ((f_X12_both p1 p2 q10.2).bind (fun q44 => (if inb ((170 : Int32) + q44) 2172 then J_X12_sips_53 n p1 p2 q10.1 q25 (q10.2 172 (ix ((170 : Int32) + q44))) q10.2 else none)))))))))))
set_option maxRecDepth 20000 in
set_option maxHeartbeats 2000000 in
theorem c_X12_sips (w : TG) (n : Nat) (p1 : Int32) (p2 : Int32) (p3 : Int32) (p4 : Int32) (σ : MS) : MC m_X12_sips w [.ref (wB w + 171), .int p1, .int p2, .int p3, .int p4] σ (f_X12_sips n p1 p2 p3 p4 σ) := by
  refine V_meth (by decide +kernel) (Nat.le_of_ble_eq_true rfl) (by intro v hv; simp only [List.mem_cons, List.not_mem_nil, or_false] at hv; rcases hv with rfl | rfl | rfl | rfl | rfl <;> rfl) (fun g x => ?_)
  show VV m_X12_sips w g 0 0 (QM m_X12_sips w g x) (fun b : Int32 × MS => b = x) 0 [some (.ref (wB w + 171)), some (.int p1), some (.int p2), some (.int p3), some (.int p4), none, none, none, none, none] [] σ (f_X12_sips n p1 p2 p3 p4 σ)
  have hJ117 : ∀ (t0 : Int32) (σ : MS), VV m_X12_sips w g 0 0 (QM m_X12_sips w g x) (fun b : Int32 × MS => b = x) 117 [none, none, none, none, none, none, none, none, none, none] [.int t0] σ (J_X12_sips_117 n t0 σ) := by
    intro t0 σ
    exact V_iretZ (pc := 117) dX12_sips_117 rfl (hk := fun h => h)
  have hJ112 : ∀ (σ : MS), VV m_X12_sips w g 0 0 (QM m_X12_sips w g x) (fun b : Int32 × MS => b = x) 112 [none, none, none, none, none, none, none, none, none, none] [] σ (J_X12_sips_112 n  σ) := by
    intro σ
    refine V_iconst (pc := 112) (v := (1 : Int32)) dX12_sips_112 rfl ?_
    refine V_goto (pc := 113) (tgt := 117) dX12_sips_113 (by decide) ?_
    exact hJ117 (1 : Int32) σ
  have hJ53 : ∀ (v5 : Int32) (v6 : Int32) (t0 : Int32) (σ : MS), VV m_X12_sips w g 0 0 (QM m_X12_sips w g x) (fun b : Int32 × MS => b = x) 53 [some (.ref (wB w + 171)), some (.int p1), some (.int p2), none, none, some (.int v5), some (.int v6), none, none, none] [.int t0] σ (J_X12_sips_53 n p1 p2 v5 v6 t0 σ) := by
    intro v5 v6 t0 σ
    refine V_istore (pc := 53) (vs' := [some (.ref (wB w + 171)), some (.int p1), some (.int p2), none, none, some (.int v5), some (.int v6), some (.int t0), none, none]) dX12_sips_53 (Nat.le_of_ble_eq_true rfl) (Nat.le_of_ble_eq_true rfl) rfl ?_
    refine V_iload (pc := 55) dX12_sips_55 rfl ?_
    refine V_iload (pc := 57) dX12_sips_57 rfl ?_
    refine V_mmax (pc := 59) dX12_sips_59 rfl mw_X12_288 (Nat.le_of_ble_eq_true rfl) (Nat.le_of_ble_eq_true rfl) (Nat.le_of_ble_eq_true rfl) (Nat.le_of_ble_eq_true rfl) ?_
    refine V_istore (pc := 62) (vs' := [some (.ref (wB w + 171)), some (.int p1), some (.int p2), none, none, some (.int v5), some (.int v6), some (.int t0), some (.int (mxI v6 v5)), none]) dX12_sips_62 (Nat.le_of_ble_eq_true rfl) (Nat.le_of_ble_eq_true rfl) rfl ?_
    refine V_iload (pc := 64) dX12_sips_64 rfl ?_
    refine V_sipush (pc := 66) (v := (9999 : Int32)) dX12_sips_66 rfl ?_
    refine V_aload_n (pc := 69) dX12_sips_69 rfl rfl ?_
    refine V_getr (pc := 70) (t := 172) fk_X12_13 rfl dX12_sips_70 kc_171 rfl ?_
    refine V_iconst (pc := 73) (v := (3 : Int32)) dX12_sips_73 rfl ?_
    refine V_ialdC (pc := 74) (n := 2172) dX12_sips_74 kc_172 lc_172 (by decide) ?_
    refine V_aload_n (pc := 75) dX12_sips_75 rfl rfl ?_
    refine V_callVi (pc := 76) (As := []) (rest := [.int (σ 172 3), .int (9999 : Int32), .int t0]) (c_X12_lastsFor w n  σ) cw_X12_306 rfl rfl dX12_sips_76 kc_171 rfl ⟨Nat.le_of_ble_eq_true rfl, Nat.le_of_ble_eq_true rfl⟩ rfl rfl (Nat.le_of_ble_eq_true rfl) (Nat.le_of_ble_eq_true rfl) (Nat.le_of_ble_eq_true rfl) rfl (fun q76 => ?_)
    refine V_iadd (pc := 79) dX12_sips_79 ?_
    refine V_mmin (pc := 80) dX12_sips_80 rfl mw_X12_283 (Nat.le_of_ble_eq_true rfl) (Nat.le_of_ble_eq_true rfl) (Nat.le_of_ble_eq_true rfl) (Nat.le_of_ble_eq_true rfl) ?_
    refine V_mmax (pc := 83) dX12_sips_83 rfl mw_X12_288 (Nat.le_of_ble_eq_true rfl) (Nat.le_of_ble_eq_true rfl) (Nat.le_of_ble_eq_true rfl) (Nat.le_of_ble_eq_true rfl) ?_
    refine V_istore (pc := 86) (vs' := [some (.ref (wB w + 171)), some (.int p1), some (.int p2), none, none, some (.int v5), some (.int v6), some (.int t0), some (.int (mxI v6 v5)), some (.int (mxI t0 (mnI (9999 : Int32) ((σ 172 3) + q76.1))))]) dX12_sips_86 (Nat.le_of_ble_eq_true rfl) (Nat.le_of_ble_eq_true rfl) rfl ?_
    refine V_aload_n (pc := 88) dX12_sips_88 rfl rfl ?_
    refine V_iload_n (pc := 89) dX12_sips_89 rfl rfl ?_
    refine V_iload_n (pc := 90) dX12_sips_90 rfl rfl ?_
    refine V_iload (pc := 91) dX12_sips_91 rfl ?_
    refine V_iload (pc := 93) dX12_sips_93 rfl ?_
    refine V_callVv (pc := 95) (As := [.int p1, .int p2, .int (mxI v6 v5), .int (mxI t0 (mnI (9999 : Int32) ((σ 172 3) + q76.1)))]) (rest := []) (c_X12_binds w p1 p2 (mxI v6 v5) (mxI t0 (mnI (9999 : Int32) ((σ 172 3) + q76.1))) q76.2) cw_X12_143 rfl rfl dX12_sips_95 kc_171 rfl ⟨Nat.le_of_ble_eq_true rfl, Nat.le_of_ble_eq_true rfl⟩ rfl rfl (Nat.le_of_ble_eq_true rfl) (Nat.le_of_ble_eq_true rfl) (Nat.le_of_ble_eq_true rfl) rfl (fun q95 => ?_)
    refine V_iload (pc := 98) dX12_sips_98 rfl ?_
    refine V_iload (pc := 100) dX12_sips_100 rfl ?_
    refine V_icmp_gt (pc := 102) (tgt := 112) dX12_sips_102 (by decide) ?_ ?_
    · refine V_sub (vs' := [none, none, none, none, none, none, none, none, none, none]) (show vless _ _ from trivial) rfl ?_
      exact hJ112 q95.2
    · refine V_iload (pc := 105) dX12_sips_105 rfl ?_
      refine V_iload (pc := 107) dX12_sips_107 rfl ?_
      refine V_icmp_le (pc := 109) (tgt := 116) dX12_sips_109 (by decide) ?_ ?_
      · refine V_iconst (pc := 116) (v := (0 : Int32)) dX12_sips_116 rfl ?_
        refine V_sub (vs' := [none, none, none, none, none, none, none, none, none, none]) (show vless _ _ from trivial) rfl ?_
        exact hJ117 (0 : Int32) q95.2
      · refine V_sub (vs' := [none, none, none, none, none, none, none, none, none, none]) (show vless _ _ from trivial) rfl ?_
        exact hJ112 q95.2
  refine V_aload_n (pc := 0) dX12_sips_0 rfl rfl ?_
  refine V_iload_n (pc := 1) dX12_sips_1 rfl rfl ?_
  refine V_iload_n (pc := 2) dX12_sips_2 rfl rfl ?_
  refine V_iload_n (pc := 3) dX12_sips_3 rfl rfl ?_
  refine V_iload (pc := 4) dX12_sips_4 rfl ?_
  refine V_callVv (pc := 6) (As := [.int p1, .int p2, .int p3, .int p4]) (rest := []) (c_X12_looks w p1 p2 p3 p4 σ) cw_X12_303 rfl rfl dX12_sips_6 kc_171 rfl ⟨Nat.le_of_ble_eq_true rfl, Nat.le_of_ble_eq_true rfl⟩ rfl rfl (Nat.le_of_ble_eq_true rfl) (Nat.le_of_ble_eq_true rfl) (Nat.le_of_ble_eq_true rfl) rfl (fun q6 => ?_)
  refine V_aload_n (pc := 9) dX12_sips_9 rfl rfl ?_
  refine V_callVi (pc := 10) (As := []) (rest := []) (c_X12_sipBinds w n  q6.2) cw_X12_312 rfl rfl dX12_sips_10 kc_171 rfl ⟨Nat.le_of_ble_eq_true rfl, Nat.le_of_ble_eq_true rfl⟩ rfl rfl (Nat.le_of_ble_eq_true rfl) (Nat.le_of_ble_eq_true rfl) (Nat.le_of_ble_eq_true rfl) rfl (fun q10 => ?_)
  refine V_istore (pc := 13) (vs' := [some (.ref (wB w + 171)), some (.int p1), some (.int p2), some (.int p3), some (.int p4), some (.int q10.1), none, none, none, none]) dX12_sips_13 (Nat.le_of_ble_eq_true rfl) (Nat.le_of_ble_eq_true rfl) rfl ?_
  refine V_iload (pc := 15) dX12_sips_15 rfl ?_
  refine V_if_ne (pc := 17) (tgt := 22) dX12_sips_17 (by decide) ?_ ?_
  · refine V_aload_n (pc := 22) dX12_sips_22 rfl rfl ?_
    refine V_iload_n (pc := 23) dX12_sips_23 rfl rfl ?_
    refine V_iload_n (pc := 24) dX12_sips_24 rfl rfl ?_
    refine V_callVpi (pc := 25) (As := [.int p1, .int p2]) (rest := []) (c_X12_bondOf w p1 p2 q10.2) cw_X12_315 rfl rfl dX12_sips_25 kc_171 rfl ⟨Nat.le_of_ble_eq_true rfl, Nat.le_of_ble_eq_true rfl⟩ rfl rfl (Nat.le_of_ble_eq_true rfl) (Nat.le_of_ble_eq_true rfl) (Nat.le_of_ble_eq_true rfl) rfl (fun q25 => ?_)
    refine V_istore (pc := 28) (vs' := [some (.ref (wB w + 171)), some (.int p1), some (.int p2), some (.int p3), some (.int p4), some (.int q10.1), some (.int q25), none, none, none]) dX12_sips_28 (Nat.le_of_ble_eq_true rfl) (Nat.le_of_ble_eq_true rfl) rfl ?_
    refine V_iload (pc := 30) dX12_sips_30 rfl ?_
    refine V_if_le (pc := 32) (tgt := 52) dX12_sips_32 (by decide) ?_ ?_
    · refine V_iconst (pc := 52) (v := (0 : Int32)) dX12_sips_52 rfl ?_
      refine V_sub (vs' := [some (.ref (wB w + 171)), some (.int p1), some (.int p2), none, none, some (.int q10.1), some (.int q25), none, none, none]) (show vless _ _ from ⟨rfl, ⟨rfl, ⟨rfl, ⟨rfl, ⟨rfl, trivial⟩⟩⟩⟩⟩) rfl ?_
      exact hJ53 q10.1 q25 (0 : Int32) q10.2
    · refine V_aload_n (pc := 35) dX12_sips_35 rfl rfl ?_
      refine V_getr (pc := 36) (t := 172) fk_X12_13 rfl dX12_sips_36 kc_171 rfl ?_
      refine V_sipush (pc := 39) (v := (170 : Int32)) dX12_sips_39 rfl ?_
      refine V_iload_n (pc := 42) dX12_sips_42 rfl rfl ?_
      refine V_iload_n (pc := 43) dX12_sips_43 rfl rfl ?_
      refine V_callSpi (pc := 44) (As := [.int p1, .int p2]) (rest := [.int (170 : Int32), .ref (wB w + 172)]) (c_X12_both w p1 p2 q10.2) cs_X12_66 rfl rfl dX12_sips_44 ⟨Nat.le_of_ble_eq_true rfl, Nat.le_of_ble_eq_true rfl⟩ rfl rfl (Nat.le_of_ble_eq_true rfl) (Nat.le_of_ble_eq_true rfl) (Nat.le_of_ble_eq_true rfl) rfl (fun q44 => ?_)
      refine V_iadd (pc := 47) dX12_sips_47 ?_
      refine V_iald (pc := 48) (n := 2172) dX12_sips_48 kc_172 lc_172 ?_
      refine V_goto (pc := 49) (tgt := 53) dX12_sips_49 (by decide) ?_
      refine V_sub (vs' := [some (.ref (wB w + 171)), some (.int p1), some (.int p2), none, none, some (.int q10.1), some (.int q25), none, none, none]) (show vless _ _ from ⟨rfl, ⟨rfl, ⟨rfl, ⟨rfl, ⟨rfl, trivial⟩⟩⟩⟩⟩) rfl ?_
      exact hJ53 q10.1 q25 (q10.2 172 (ix ((170 : Int32) + q44))) q10.2
  · refine V_iconst (pc := 20) (v := (0 : Int32)) dX12_sips_20 rfl ?_
    exact V_iretz (pc := 21) dX12_sips_21 rfl rfl (hk := fun h => h)
def J_X12_shares_71 (n : Nat) (v1 : Int32) (v2 : Int32) (v4 : Int32) (v3 : Int32) (v5 : Int32) (σ : MS) : Option ((Int32 × Int32 × MS) ⊕ ((Int32 × Int32 × MS) ⊕ (Int32 × MS))) := some (.inl (v3, (v5 + (1 : Int32)), σ))
def J_X12_shares_69 (n : Nat) (v1 : Int32) (v2 : Int32) (v4 : Int32) (v5 : Int32) (t0 : Int32) (t1 : Int32) (σ : MS) : Option ((Int32 × Int32 × MS) ⊕ ((Int32 × Int32 × MS) ⊕ (Int32 × MS))) := J_X12_shares_71 n v1 v2 v4 (t1 + t0) v5 σ
def L_X12_shares_20 (n : Nat) (v1 : Int32) (v2 : Int32) (v4 : Int32) (σ : MS) (a20 : Int32 × Int32 × MS) : Option ((Int32 × Int32 × MS) ⊕ ((Int32 × Int32 × MS) ⊕ (Int32 × MS))) := ((f_X12_people  a20.2.2).bind (fun q23 => (if q23 ≤ a20.2.1 then (some (.inl (a20.1, (v4 + (1 : Int32)), a20.2.2))).map Sum.inr else ((f_X12_has v1 v4 a20.2.2).bind (fun q32 => (if q32 = 0 then J_X12_shares_71 n v1 v2 v4 a20.1 a20.2.1 a20.2.2 else ((f_X12_has v1 a20.2.1 a20.2.2).bind (fun q41 => (if q41 = 0 then J_X12_shares_71 n v1 v2 v4 a20.1 a20.2.1 a20.2.2 else ((f_J6_bitCount_0f7a4 v1 a20.2.2).bind (fun q55 => ((f_X12_sips n v4 a20.2.1 v2 q55 a20.2.2).bind (fun q58 => (if q58.1 = 0 then J_X12_shares_69 n v1 v2 v4 a20.2.1 (0 : Int32) a20.1 q58.2 else J_X12_shares_69 n v1 v2 v4 a20.2.1 (1 : Int32) a20.1 q58.2))))))))))))))
def L_X12_shares_5 (n : Nat) (v1 : Int32) (v2 : Int32) (σ : MS) (a5 : Int32 × Int32 × MS) : Option ((Int32 × Int32 × MS) ⊕ (Int32 × MS)) := ((f_X12_people  a5.2.2).bind (fun q8 => (if q8 ≤ a5.2.1 then (some (a5.1, a5.2.2)).map Sum.inr else itr (L_X12_shares_20 n v1 v2 a5.2.1 σ) n (a5.1, (a5.2.1 + (1 : Int32)), a5.2.2))))
def f_X12_shares (n : Nat) (p1 : Int32) (p2 : Int32) (σ : MS) : Option (Int32 × MS) := itr (L_X12_shares_5 n p1 p2 σ) n ((0 : Int32), (0 : Int32), σ)
set_option maxRecDepth 20000 in
set_option maxHeartbeats 2000000 in
theorem c_X12_shares (w : TG) (n : Nat) (p1 : Int32) (p2 : Int32) (σ : MS) : MC m_X12_shares w [.ref (wB w + 171), .int p1, .int p2] σ (f_X12_shares n p1 p2 σ) := by
  refine V_meth (by decide +kernel) (Nat.le_of_ble_eq_true rfl) (by intro v hv; simp only [List.mem_cons, List.not_mem_nil, or_false] at hv; rcases hv with rfl | rfl | rfl <;> rfl) (fun g x => ?_)
  show VV m_X12_shares w g 0 0 (QM m_X12_shares w g x) (fun b : Int32 × MS => b = x) 0 [some (.ref (wB w + 171)), some (.int p1), some (.int p2), none, none, none] [] σ (f_X12_shares n p1 p2 σ)
  have hL5 : ∀  (n0 : Nat) (a : Int32 × Int32 × MS), VV m_X12_shares w g 0 0 (QM m_X12_shares w g x) (fun b : Int32 × MS => b = x) 5 [some (.ref (wB w + 171)), some (.int p1), some (.int p2), some (.int a.1), some (.int a.2.1), none] [] a.2.2 (itr (L_X12_shares_5 n p1 p2 σ) n0 a) := by
    refine V_itr (vf := fun a : Int32 × Int32 × MS => [some (.ref (wB w + 171)), some (.int p1), some (.int p2), some (.int a.1), some (.int a.2.1), none]) (sf := fun a : Int32 × Int32 × MS => a.2.2) (fun κ5 b5 r5 a5 => ?_)
    show VV m_X12_shares w g 0 0 (QM m_X12_shares w g x) κ5 5 [some (.ref (wB w + 171)), some (.int p1), some (.int p2), some (.int a5.1), some (.int a5.2.1), none] [] a5.2.2 (L_X12_shares_5 n p1 p2 σ a5)
    have hL20 : ∀ (v4 : Int32) (n0 : Nat) (a : Int32 × Int32 × MS), VV m_X12_shares w g 0 0 (QM m_X12_shares w g x) κ5 20 [some (.ref (wB w + 171)), some (.int p1), some (.int p2), some (.int a.1), some (.int v4), some (.int a.2.1)] [] a.2.2 (itr (L_X12_shares_20 n p1 p2 v4 σ) n0 a) := by
      intro v4
      refine V_itr (vf := fun a : Int32 × Int32 × MS => [some (.ref (wB w + 171)), some (.int p1), some (.int p2), some (.int a.1), some (.int v4), some (.int a.2.1)]) (sf := fun a : Int32 × Int32 × MS => a.2.2) (fun κ20 b20 r20 a20 => ?_)
      show VV m_X12_shares w g 0 0 (QM m_X12_shares w g x) κ20 20 [some (.ref (wB w + 171)), some (.int p1), some (.int p2), some (.int a20.1), some (.int v4), some (.int a20.2.1)] [] a20.2.2 (L_X12_shares_20 n p1 p2 v4 σ a20)
      have hJ71 : ∀ (v3 : Int32) (v5 : Int32) (σ : MS), VV m_X12_shares w g 0 0 (QM m_X12_shares w g x) κ20 71 [some (.ref (wB w + 171)), some (.int p1), some (.int p2), some (.int v3), some (.int v4), some (.int v5)] [] σ (J_X12_shares_71 n p1 p2 v4 v3 v5 σ) := by
        intro v3 v5 σ
        refine V_iinc (pc := 71) (v := (v5 + (1 : Int32))) (vs' := [some (.ref (wB w + 171)), some (.int p1), some (.int p2), some (.int v3), some (.int v4), some (.int (v5 + (1 : Int32)))]) dX12_shares_71 (Nat.le_of_ble_eq_true rfl) rfl rfl rfl ?_
        refine V_goto (pc := 74) (tgt := 20) dX12_shares_74 (by decide) ?_
        exact V_back (b20 (v3, (v5 + (1 : Int32)), σ))
      have hJ69 : ∀ (v5 : Int32) (t0 : Int32) (t1 : Int32) (σ : MS), VV m_X12_shares w g 0 0 (QM m_X12_shares w g x) κ20 69 [some (.ref (wB w + 171)), some (.int p1), some (.int p2), none, some (.int v4), some (.int v5)] [.int t0, .int t1] σ (J_X12_shares_69 n p1 p2 v4 v5 t0 t1 σ) := by
        intro v5 t0 t1 σ
        refine V_iadd (pc := 69) dX12_shares_69 ?_
        refine V_istore_n (pc := 70) (vs' := [some (.ref (wB w + 171)), some (.int p1), some (.int p2), some (.int (t1 + t0)), some (.int v4), some (.int v5)]) dX12_shares_70 rfl (Nat.le_of_ble_eq_true rfl) (Nat.le_of_ble_eq_true rfl) rfl ?_
        exact hJ71 (t1 + t0) v5 σ
      refine V_iload (pc := 20) dX12_shares_20 rfl ?_
      refine V_aload_n (pc := 22) dX12_shares_22 rfl rfl ?_
      refine V_callVpi (pc := 23) (As := []) (rest := [.int a20.2.1]) (c_X12_people w  a20.2.2) cw_X12_58 rfl rfl dX12_shares_23 kc_171 rfl ⟨Nat.le_of_ble_eq_true rfl, Nat.le_of_ble_eq_true rfl⟩ rfl rfl (Nat.le_of_ble_eq_true rfl) (Nat.le_of_ble_eq_true rfl) (Nat.le_of_ble_eq_true rfl) rfl (fun q23 => ?_)
      refine V_icmp_ge (pc := 26) (tgt := 77) dX12_shares_26 (by decide) ?_ ?_
      · refine V_exit r20 ?_
        refine V_iinc (pc := 77) (v := (v4 + (1 : Int32))) (vs' := [some (.ref (wB w + 171)), some (.int p1), some (.int p2), some (.int a20.1), some (.int (v4 + (1 : Int32))), some (.int a20.2.1)]) dX12_shares_77 (Nat.le_of_ble_eq_true rfl) rfl rfl rfl ?_
        refine V_goto (pc := 80) (tgt := 5) dX12_shares_80 (by decide) ?_
        refine V_sub (vs' := [some (.ref (wB w + 171)), some (.int p1), some (.int p2), some (.int a20.1), some (.int (v4 + (1 : Int32))), none]) (show vless _ _ from ⟨rfl, ⟨rfl, ⟨rfl, ⟨rfl, ⟨rfl, trivial⟩⟩⟩⟩⟩) rfl ?_
        exact V_back (b5 (a20.1, (v4 + (1 : Int32)), a20.2.2))
      · refine V_iload_n (pc := 29) dX12_shares_29 rfl rfl ?_
        refine V_iload (pc := 30) dX12_shares_30 rfl ?_
        refine V_callSpi (pc := 32) (As := [.int p1, .int v4]) (rest := []) (c_X12_has w p1 v4 a20.2.2) cs_X12_76 rfl rfl dX12_shares_32 ⟨Nat.le_of_ble_eq_true rfl, Nat.le_of_ble_eq_true rfl⟩ rfl rfl (Nat.le_of_ble_eq_true rfl) (Nat.le_of_ble_eq_true rfl) (Nat.le_of_ble_eq_true rfl) rfl (fun q32 => ?_)
        refine V_if_eq (pc := 35) (tgt := 71) dX12_shares_35 (by decide) ?_ ?_
        · exact hJ71 a20.1 a20.2.1 a20.2.2
        · refine V_iload_n (pc := 38) dX12_shares_38 rfl rfl ?_
          refine V_iload (pc := 39) dX12_shares_39 rfl ?_
          refine V_callSpi (pc := 41) (As := [.int p1, .int a20.2.1]) (rest := []) (c_X12_has w p1 a20.2.1 a20.2.2) cs_X12_76 rfl rfl dX12_shares_41 ⟨Nat.le_of_ble_eq_true rfl, Nat.le_of_ble_eq_true rfl⟩ rfl rfl (Nat.le_of_ble_eq_true rfl) (Nat.le_of_ble_eq_true rfl) (Nat.le_of_ble_eq_true rfl) rfl (fun q41 => ?_)
          refine V_if_eq (pc := 44) (tgt := 71) dX12_shares_44 (by decide) ?_ ?_
          · exact hJ71 a20.1 a20.2.1 a20.2.2
          · refine V_iload_n (pc := 47) dX12_shares_47 rfl rfl ?_
            refine V_aload_n (pc := 48) dX12_shares_48 rfl rfl ?_
            refine V_iload (pc := 49) dX12_shares_49 rfl ?_
            refine V_iload (pc := 51) dX12_shares_51 rfl ?_
            refine V_iload_n (pc := 53) dX12_shares_53 rfl rfl ?_
            refine V_iload_n (pc := 54) dX12_shares_54 rfl rfl ?_
            refine V_callSpi (pc := 55) (As := [.int p1]) (rest := [.int p2, .int a20.2.1, .int v4, .ref (wB w + 171), .int a20.1]) (c_J6_bitCount_0f7a4 w p1 a20.2.2) cs_X12_318 rfl rfl dX12_shares_55 ⟨Nat.le_of_ble_eq_true rfl, Nat.le_of_ble_eq_true rfl⟩ rfl rfl (Nat.le_of_ble_eq_true rfl) (Nat.le_of_ble_eq_true rfl) (Nat.le_of_ble_eq_true rfl) rfl (fun q55 => ?_)
            refine V_callVi (pc := 58) (As := [.int v4, .int a20.2.1, .int p2, .int q55]) (rest := [.int a20.1]) (c_X12_sips w n v4 a20.2.1 p2 q55 a20.2.2) cw_X12_323 rfl rfl dX12_shares_58 kc_171 rfl ⟨Nat.le_of_ble_eq_true rfl, Nat.le_of_ble_eq_true rfl⟩ rfl rfl (Nat.le_of_ble_eq_true rfl) (Nat.le_of_ble_eq_true rfl) (Nat.le_of_ble_eq_true rfl) rfl (fun q58 => ?_)
            refine V_if_eq (pc := 61) (tgt := 68) dX12_shares_61 (by decide) ?_ ?_
            · refine V_iconst (pc := 68) (v := (0 : Int32)) dX12_shares_68 rfl ?_
              refine V_sub (vs' := [some (.ref (wB w + 171)), some (.int p1), some (.int p2), none, some (.int v4), some (.int a20.2.1)]) (show vless _ _ from ⟨rfl, ⟨rfl, ⟨rfl, ⟨rfl, ⟨rfl, trivial⟩⟩⟩⟩⟩) rfl ?_
              exact hJ69 a20.2.1 (0 : Int32) a20.1 q58.2
            · refine V_iconst (pc := 64) (v := (1 : Int32)) dX12_shares_64 rfl ?_
              refine V_goto (pc := 65) (tgt := 69) dX12_shares_65 (by decide) ?_
              refine V_sub (vs' := [some (.ref (wB w + 171)), some (.int p1), some (.int p2), none, some (.int v4), some (.int a20.2.1)]) (show vless _ _ from ⟨rfl, ⟨rfl, ⟨rfl, ⟨rfl, ⟨rfl, trivial⟩⟩⟩⟩⟩) rfl ?_
              exact hJ69 a20.2.1 (1 : Int32) a20.1 q58.2
    refine V_iload (pc := 5) dX12_shares_5 rfl ?_
    refine V_aload_n (pc := 7) dX12_shares_7 rfl rfl ?_
    refine V_callVpi (pc := 8) (As := []) (rest := [.int a5.2.1]) (c_X12_people w  a5.2.2) cw_X12_58 rfl rfl dX12_shares_8 kc_171 rfl ⟨Nat.le_of_ble_eq_true rfl, Nat.le_of_ble_eq_true rfl⟩ rfl rfl (Nat.le_of_ble_eq_true rfl) (Nat.le_of_ble_eq_true rfl) (Nat.le_of_ble_eq_true rfl) rfl (fun q8 => ?_)
    refine V_icmp_ge (pc := 11) (tgt := 83) dX12_shares_11 (by decide) ?_ ?_
    · refine V_exit r5 ?_
      refine V_iload_n (pc := 83) dX12_shares_83 rfl rfl ?_
      exact V_ireti (pc := 84) dX12_shares_84 rfl (hk := fun h => h)
    · refine V_iload (pc := 14) dX12_shares_14 rfl ?_
      refine V_iconst (pc := 16) (v := (1 : Int32)) dX12_shares_16 rfl ?_
      refine V_iadd (pc := 17) dX12_shares_17 ?_
      refine V_istore (pc := 18) (vs' := [some (.ref (wB w + 171)), some (.int p1), some (.int p2), some (.int a5.1), some (.int a5.2.1), some (.int (a5.2.1 + (1 : Int32)))]) dX12_shares_18 (Nat.le_of_ble_eq_true rfl) (Nat.le_of_ble_eq_true rfl) rfl ?_
      exact hL20 a5.2.1 n (a5.1, (a5.2.1 + (1 : Int32)), a5.2.2)
  refine V_iconst (pc := 0) (v := (0 : Int32)) dX12_shares_0 rfl ?_
  refine V_istore_n (pc := 1) (vs' := [some (.ref (wB w + 171)), some (.int p1), some (.int p2), some (.int (0 : Int32)), none, none]) dX12_shares_1 rfl (Nat.le_of_ble_eq_true rfl) (Nat.le_of_ble_eq_true rfl) rfl ?_
  refine V_iconst (pc := 2) (v := (0 : Int32)) dX12_shares_2 rfl ?_
  refine V_istore (pc := 3) (vs' := [some (.ref (wB w + 171)), some (.int p1), some (.int p2), some (.int (0 : Int32)), some (.int (0 : Int32)), none]) dX12_shares_3 (Nat.le_of_ble_eq_true rfl) (Nat.le_of_ble_eq_true rfl) rfl ?_
  exact hL5 n ((0 : Int32), (0 : Int32), σ)
def J_X12_noCup_27 (t0 : Int32) (σ : MS) : Option (Int32) := (if t0 = 0 ∨ t0 = 1 then some t0 else none)
def J_X12_noCup_22  (σ : MS) : Option (Int32) := J_X12_noCup_27 (1 : Int32) σ
def f_X12_noCup (p1 : Int32) (p2 : Int32) (σ : MS) : Option (Int32) := ((f_X12_everybody  σ).bind (fun q2 => ((f_J6_bitCount_0f7a4 (p1 &&& q2) σ).bind (fun q6 => (if q6 < (2 : Int32) then J_X12_noCup_22  σ else ((f_X12_in p2 (0 : Int32) (3 : Int32) σ).bind (fun q16 => (if q16 = 0 then J_X12_noCup_22  σ else J_X12_noCup_27 (0 : Int32) σ))))))))
set_option maxRecDepth 20000 in
set_option maxHeartbeats 2000000 in
theorem c_X12_noCup (w : TG) (p1 : Int32) (p2 : Int32) (σ : MS) : MC m_X12_noCup w [.ref (wB w + 171), .int p1, .int p2] σ ((f_X12_noCup p1 p2 σ).map (fun r => (r, σ))) := by
  refine V_methp (by decide +kernel) (Nat.le_of_ble_eq_true rfl) (by intro v hv; simp only [List.mem_cons, List.not_mem_nil, or_false] at hv; rcases hv with rfl | rfl | rfl <;> rfl) (fun g x => ?_)
  show VV m_X12_noCup w g 0 0 (QM m_X12_noCup w g x) (fun b : Int32 => (b, σ) = x) 0 [some (.ref (wB w + 171)), some (.int p1), some (.int p2)] [] σ (f_X12_noCup p1 p2 σ)
  have hJ27 : ∀ (t0 : Int32), VV m_X12_noCup w g 0 0 (QM m_X12_noCup w g x) (fun b : Int32 => (b, σ) = x) 27 [none, none, none] [.int t0] σ (J_X12_noCup_27 t0 σ) := by
    intro t0
    exact V_iretZ (pc := 27) dX12_noCup_27 rfl (hk := fun h => h)
  have hJ22 : ∀ (_ : Unit), VV m_X12_noCup w g 0 0 (QM m_X12_noCup w g x) (fun b : Int32 => (b, σ) = x) 22 [none, none, none] [] σ (J_X12_noCup_22  σ) := by
    intro _
    refine V_iconst (pc := 22) (v := (1 : Int32)) dX12_noCup_22 rfl ?_
    refine V_goto (pc := 23) (tgt := 27) dX12_noCup_23 (by decide) ?_
    exact hJ27 (1 : Int32)
  refine V_iload_n (pc := 0) dX12_noCup_0 rfl rfl ?_
  refine V_aload_n (pc := 1) dX12_noCup_1 rfl rfl ?_
  refine V_callVpi (pc := 2) (As := []) (rest := [.int p1]) (c_X12_everybody w  σ) cw_X12_327 rfl rfl dX12_noCup_2 kc_171 rfl ⟨Nat.le_of_ble_eq_true rfl, Nat.le_of_ble_eq_true rfl⟩ rfl rfl (Nat.le_of_ble_eq_true rfl) (Nat.le_of_ble_eq_true rfl) (Nat.le_of_ble_eq_true rfl) rfl (fun q2 => ?_)
  refine V_iand (pc := 5) dX12_noCup_5 ?_
  refine V_callSpi (pc := 6) (As := [.int (p1 &&& q2)]) (rest := []) (c_J6_bitCount_0f7a4 w (p1 &&& q2) σ) cs_X12_318 rfl rfl dX12_noCup_6 ⟨Nat.le_of_ble_eq_true rfl, Nat.le_of_ble_eq_true rfl⟩ rfl rfl (Nat.le_of_ble_eq_true rfl) (Nat.le_of_ble_eq_true rfl) (Nat.le_of_ble_eq_true rfl) rfl (fun q6 => ?_)
  refine V_iconst (pc := 9) (v := (2 : Int32)) dX12_noCup_9 rfl ?_
  refine V_icmp_lt (pc := 10) (tgt := 22) dX12_noCup_10 (by decide) ?_ ?_
  · refine V_sub (vs' := [none, none, none]) (show vless _ _ from trivial) rfl ?_
    exact hJ22 ()
  · refine V_iload_n (pc := 13) dX12_noCup_13 rfl rfl ?_
    refine V_iconst (pc := 14) (v := (0 : Int32)) dX12_noCup_14 rfl ?_
    refine V_iconst (pc := 15) (v := (3 : Int32)) dX12_noCup_15 rfl ?_
    refine V_callSpi (pc := 16) (As := [.int p2, .int (0 : Int32), .int (3 : Int32)]) (rest := []) (c_X12_in w p2 (0 : Int32) (3 : Int32) σ) cs_X12_79 rfl rfl dX12_noCup_16 ⟨Nat.le_of_ble_eq_true rfl, Nat.le_of_ble_eq_true rfl⟩ rfl rfl (Nat.le_of_ble_eq_true rfl) (Nat.le_of_ble_eq_true rfl) (Nat.le_of_ble_eq_true rfl) rfl (fun q16 => ?_)
    refine V_if_ne (pc := 19) (tgt := 26) dX12_noCup_19 (by decide) ?_ ?_
    · refine V_iconst (pc := 26) (v := (0 : Int32)) dX12_noCup_26 rfl ?_
      refine V_sub (vs' := [none, none, none]) (show vless _ _ from trivial) rfl ?_
      exact hJ27 (0 : Int32)
    · refine V_sub (vs' := [none, none, none]) (show vless _ _ from trivial) rfl ?_
      exact hJ22 ()
def L_X12_keepsAll_2 (n : Nat)  (σ : MS) (a2 : Int32 × MS) : Option ((Int32 × MS) ⊕ (Int32 × MS)) := (if (474 : Int32) ≤ a2.1 then (some (0, a2.2)).map Sum.inr else (if inb a2.1 2172 then (if inb a2.1 474 then ltM (mu a2.2 175 (ix a2.1) (a2.2 172 (ix a2.1))) (fun s20 => some (.inl ((a2.1 + (1 : Int32)), s20))) else none) else none))
def f_X12_keepsAll (n : Nat)  (σ : MS) : Option (Int32 × MS) := itr (L_X12_keepsAll_2 n  σ) n ((0 : Int32), σ)
set_option maxRecDepth 20000 in
set_option maxHeartbeats 2000000 in
theorem c_X12_keepsAll (w : TG) (n : Nat)  (σ : MS) : MC m_X12_keepsAll w [.ref (wB w + 171)] σ (f_X12_keepsAll n  σ) := by
  refine V_meth (by decide +kernel) (Nat.le_of_ble_eq_true rfl) (by intro v hv; simp only [List.mem_cons, List.not_mem_nil, or_false] at hv; subst hv; rfl) (fun g x => ?_)
  show VV m_X12_keepsAll w g 0 0 (QM m_X12_keepsAll w g x) (fun b : Int32 × MS => b = x) 0 [some (.ref (wB w + 171)), none] [] σ (f_X12_keepsAll n  σ)
  have hL2 : ∀  (n0 : Nat) (a : Int32 × MS), VV m_X12_keepsAll w g 0 0 (QM m_X12_keepsAll w g x) (fun b : Int32 × MS => b = x) 2 [some (.ref (wB w + 171)), some (.int a.1)] [] a.2 (itr (L_X12_keepsAll_2 n  σ) n0 a) := by
    refine V_itr (vf := fun a : Int32 × MS => [some (.ref (wB w + 171)), some (.int a.1)]) (sf := fun a : Int32 × MS => a.2) (fun κ2 b2 r2 a2 => ?_)
    show VV m_X12_keepsAll w g 0 0 (QM m_X12_keepsAll w g x) κ2 2 [some (.ref (wB w + 171)), some (.int a2.1)] [] a2.2 (L_X12_keepsAll_2 n  σ a2)
    refine V_iload_n (pc := 2) dX12_keepsAll_2 rfl rfl ?_
    refine V_sipush (pc := 3) (v := (474 : Int32)) dX12_keepsAll_3 rfl ?_
    refine V_icmp_ge (pc := 6) (tgt := 27) dX12_keepsAll_6 (by decide) ?_ ?_
    · refine V_exit r2 ?_
      exact V_ret (pc := 27) dX12_keepsAll_27 rfl (hk := fun h => h)
    · refine V_aload_n (pc := 9) dX12_keepsAll_9 rfl rfl ?_
      refine V_getr (pc := 10) (t := 175) fk_X12_23 rfl dX12_keepsAll_10 kc_171 rfl ?_
      refine V_iload_n (pc := 13) dX12_keepsAll_13 rfl rfl ?_
      refine V_aload_n (pc := 14) dX12_keepsAll_14 rfl rfl ?_
      refine V_getr (pc := 15) (t := 172) fk_X12_13 rfl dX12_keepsAll_15 kc_171 rfl ?_
      refine V_iload_n (pc := 18) dX12_keepsAll_18 rfl rfl ?_
      refine V_iald (pc := 19) (n := 2172) dX12_keepsAll_19 kc_172 lc_172 ?_
      refine V_iast (pc := 20) (n := 474) dX12_keepsAll_20 kc_175 lc_175 (fun s20 => ?_)
      refine V_iinc (pc := 21) (v := (a2.1 + (1 : Int32))) (vs' := [some (.ref (wB w + 171)), some (.int (a2.1 + (1 : Int32)))]) dX12_keepsAll_21 (Nat.le_of_ble_eq_true rfl) rfl rfl rfl ?_
      refine V_goto (pc := 24) (tgt := 2) dX12_keepsAll_24 (by decide) ?_
      exact V_back (b2 ((a2.1 + (1 : Int32)), s20))
  refine V_iconst (pc := 0) (v := (0 : Int32)) dX12_keepsAll_0 rfl ?_
  refine V_istore_n (pc := 1) (vs' := [some (.ref (wB w + 171)), some (.int (0 : Int32))]) dX12_keepsAll_1 rfl (Nat.le_of_ble_eq_true rfl) (Nat.le_of_ble_eq_true rfl) rfl ?_
  exact hL2 n ((0 : Int32), σ)
def L_X12_bringsBack_2 (n : Nat)  (σ : MS) (a2 : Int32 × MS) : Option ((Int32 × MS) ⊕ (Int32 × MS)) := (if (474 : Int32) ≤ a2.1 then (some (0, a2.2)).map Sum.inr else (if inb a2.1 474 then (if inb a2.1 2172 then ltM (mu a2.2 172 (ix a2.1) (a2.2 175 (ix a2.1))) (fun s20 => some (.inl ((a2.1 + (1 : Int32)), s20))) else none) else none))
def f_X12_bringsBack (n : Nat)  (σ : MS) : Option (Int32 × MS) := itr (L_X12_bringsBack_2 n  σ) n ((0 : Int32), σ)
set_option maxRecDepth 20000 in
set_option maxHeartbeats 2000000 in
theorem c_X12_bringsBack (w : TG) (n : Nat)  (σ : MS) : MC m_X12_bringsBack w [.ref (wB w + 171)] σ (f_X12_bringsBack n  σ) := by
  refine V_meth (by decide +kernel) (Nat.le_of_ble_eq_true rfl) (by intro v hv; simp only [List.mem_cons, List.not_mem_nil, or_false] at hv; subst hv; rfl) (fun g x => ?_)
  show VV m_X12_bringsBack w g 0 0 (QM m_X12_bringsBack w g x) (fun b : Int32 × MS => b = x) 0 [some (.ref (wB w + 171)), none] [] σ (f_X12_bringsBack n  σ)
  have hL2 : ∀  (n0 : Nat) (a : Int32 × MS), VV m_X12_bringsBack w g 0 0 (QM m_X12_bringsBack w g x) (fun b : Int32 × MS => b = x) 2 [some (.ref (wB w + 171)), some (.int a.1)] [] a.2 (itr (L_X12_bringsBack_2 n  σ) n0 a) := by
    refine V_itr (vf := fun a : Int32 × MS => [some (.ref (wB w + 171)), some (.int a.1)]) (sf := fun a : Int32 × MS => a.2) (fun κ2 b2 r2 a2 => ?_)
    show VV m_X12_bringsBack w g 0 0 (QM m_X12_bringsBack w g x) κ2 2 [some (.ref (wB w + 171)), some (.int a2.1)] [] a2.2 (L_X12_bringsBack_2 n  σ a2)
    refine V_iload_n (pc := 2) dX12_bringsBack_2 rfl rfl ?_
    refine V_sipush (pc := 3) (v := (474 : Int32)) dX12_bringsBack_3 rfl ?_
    refine V_icmp_ge (pc := 6) (tgt := 27) dX12_bringsBack_6 (by decide) ?_ ?_
    · refine V_exit r2 ?_
      exact V_ret (pc := 27) dX12_bringsBack_27 rfl (hk := fun h => h)
    · refine V_aload_n (pc := 9) dX12_bringsBack_9 rfl rfl ?_
      refine V_getr (pc := 10) (t := 172) fk_X12_13 rfl dX12_bringsBack_10 kc_171 rfl ?_
      refine V_iload_n (pc := 13) dX12_bringsBack_13 rfl rfl ?_
      refine V_aload_n (pc := 14) dX12_bringsBack_14 rfl rfl ?_
      refine V_getr (pc := 15) (t := 175) fk_X12_23 rfl dX12_bringsBack_15 kc_171 rfl ?_
      refine V_iload_n (pc := 18) dX12_bringsBack_18 rfl rfl ?_
      refine V_iald (pc := 19) (n := 474) dX12_bringsBack_19 kc_175 lc_175 ?_
      refine V_iast (pc := 20) (n := 2172) dX12_bringsBack_20 kc_172 lc_172 (fun s20 => ?_)
      refine V_iinc (pc := 21) (v := (a2.1 + (1 : Int32))) (vs' := [some (.ref (wB w + 171)), some (.int (a2.1 + (1 : Int32)))]) dX12_bringsBack_21 (Nat.le_of_ble_eq_true rfl) rfl rfl rfl ?_
      refine V_goto (pc := 24) (tgt := 2) dX12_bringsBack_24 (by decide) ?_
      exact V_back (b2 ((a2.1 + (1 : Int32)), s20))
  refine V_iconst (pc := 0) (v := (0 : Int32)) dX12_bringsBack_0 rfl ?_
  refine V_istore_n (pc := 1) (vs' := [some (.ref (wB w + 171)), some (.int (0 : Int32))]) dX12_bringsBack_1 rfl (Nat.le_of_ble_eq_true rfl) (Nat.le_of_ble_eq_true rfl) rfl ?_
  exact hL2 n ((0 : Int32), σ)
def f_X12_share (n : Nat) (p1 : Int32) (p2 : Int32) (σ : MS) : Option (Int32 × MS) := (ltM (mu σ 171 0 (0 : Int32)) (fun s2 => ((f_X12_noCup p1 p2 s2).bind (fun q9 => ((f_X12_throwsIf q9 (1 : Int32) s2).bind (fun q13 => (if q13.1 = 0 then ((f_X12_remembers n  q13.2).bind (fun q22 => ((f_X12_everybody  q22.2).bind (fun q28 => ((f_X12_shares n (p1 &&& q28) p2 q22.2).bind (fun q33 => some (q33.1, q33.2))))))) else some ((0 : Int32), q13.2))))))))
set_option maxRecDepth 20000 in
set_option maxHeartbeats 2000000 in
theorem c_X12_share (w : TG) (n : Nat) (p1 : Int32) (p2 : Int32) (σ : MS) : MC m_X12_share w [.ref (wB w + 171), .int p1, .int p2] σ (f_X12_share n p1 p2 σ) := by
  refine V_meth (by decide +kernel) (Nat.le_of_ble_eq_true rfl) (by intro v hv; simp only [List.mem_cons, List.not_mem_nil, or_false] at hv; rcases hv with rfl | rfl | rfl <;> rfl) (fun g x => ?_)
  show VV m_X12_share w g 0 0 (QM m_X12_share w g x) (fun b : Int32 × MS => b = x) 0 [some (.ref (wB w + 171)), some (.int p1), some (.int p2)] [] σ (f_X12_share n p1 p2 σ)
  refine V_aload_n (pc := 0) dX12_share_0 rfl rfl ?_
  refine V_iconst (pc := 1) (v := (0 : Int32)) dX12_share_1 rfl ?_
  refine V_puti (pc := 2) fp_X12_3 rfl dX12_share_2 kc_171 rfl (fun s2 => ?_)
  refine V_aload_n (pc := 5) dX12_share_5 rfl rfl ?_
  refine V_aload_n (pc := 6) dX12_share_6 rfl rfl ?_
  refine V_iload_n (pc := 7) dX12_share_7 rfl rfl ?_
  refine V_iload_n (pc := 8) dX12_share_8 rfl rfl ?_
  refine V_callVpi (pc := 9) (As := [.int p1, .int p2]) (rest := [.ref (wB w + 171)]) (c_X12_noCup w p1 p2 s2) cw_X12_330 rfl rfl dX12_share_9 kc_171 rfl ⟨Nat.le_of_ble_eq_true rfl, Nat.le_of_ble_eq_true rfl⟩ rfl rfl (Nat.le_of_ble_eq_true rfl) (Nat.le_of_ble_eq_true rfl) (Nat.le_of_ble_eq_true rfl) rfl (fun q9 => ?_)
  refine V_iconst (pc := 12) (v := (1 : Int32)) dX12_share_12 rfl ?_
  refine V_callVi (pc := 13) (As := [.int q9, .int (1 : Int32)]) (rest := []) (c_X12_throwsIf w q9 (1 : Int32) s2) cw_X12_257 rfl rfl dX12_share_13 kc_171 rfl ⟨Nat.le_of_ble_eq_true rfl, Nat.le_of_ble_eq_true rfl⟩ rfl rfl (Nat.le_of_ble_eq_true rfl) (Nat.le_of_ble_eq_true rfl) (Nat.le_of_ble_eq_true rfl) rfl (fun q13 => ?_)
  refine V_if_eq (pc := 16) (tgt := 21) dX12_share_16 (by decide) ?_ ?_
  · refine V_aload_n (pc := 21) dX12_share_21 rfl rfl ?_
    refine V_callVv (pc := 22) (As := []) (rest := []) (c_X12_remembers w n  q13.2) cw_X12_333 rfl rfl dX12_share_22 kc_171 rfl ⟨Nat.le_of_ble_eq_true rfl, Nat.le_of_ble_eq_true rfl⟩ rfl rfl (Nat.le_of_ble_eq_true rfl) (Nat.le_of_ble_eq_true rfl) (Nat.le_of_ble_eq_true rfl) rfl (fun q22 => ?_)
    refine V_aload_n (pc := 25) dX12_share_25 rfl rfl ?_
    refine V_iload_n (pc := 26) dX12_share_26 rfl rfl ?_
    refine V_aload_n (pc := 27) dX12_share_27 rfl rfl ?_
    refine V_callVpi (pc := 28) (As := []) (rest := [.int p1, .ref (wB w + 171)]) (c_X12_everybody w  q22.2) cw_X12_327 rfl rfl dX12_share_28 kc_171 rfl ⟨Nat.le_of_ble_eq_true rfl, Nat.le_of_ble_eq_true rfl⟩ rfl rfl (Nat.le_of_ble_eq_true rfl) (Nat.le_of_ble_eq_true rfl) (Nat.le_of_ble_eq_true rfl) rfl (fun q28 => ?_)
    refine V_iand (pc := 31) dX12_share_31 ?_
    refine V_iload_n (pc := 32) dX12_share_32 rfl rfl ?_
    refine V_callVi (pc := 33) (As := [.int (p1 &&& q28), .int p2]) (rest := []) (c_X12_shares w n (p1 &&& q28) p2 q22.2) cw_X12_336 rfl rfl dX12_share_33 kc_171 rfl ⟨Nat.le_of_ble_eq_true rfl, Nat.le_of_ble_eq_true rfl⟩ rfl rfl (Nat.le_of_ble_eq_true rfl) (Nat.le_of_ble_eq_true rfl) (Nat.le_of_ble_eq_true rfl) rfl (fun q33 => ?_)
    exact V_ireti (pc := 36) dX12_share_36 rfl (hk := fun h => h)
  · refine V_iconst (pc := 19) (v := (0 : Int32)) dX12_share_19 rfl ?_
    exact V_ireti (pc := 20) dX12_share_20 rfl (hk := fun h => h)
def f_X12_would (n : Nat) (p1 : Int32) (p2 : Int32) (σ : MS) : Option (Int32 × MS) := (ltM (mu σ 171 0 (0 : Int32)) (fun s2 => ((f_X12_noCup p1 p2 s2).bind (fun q9 => ((f_X12_throwsIf q9 (1 : Int32) s2).bind (fun q13 => (if q13.1 = 0 then ((f_X12_keepsAll n  q13.2).bind (fun q22 => ((f_X12_everybody  q22.2).bind (fun q28 => ((f_X12_shares n (p1 &&& q28) p2 q22.2).bind (fun q33 => ((f_X12_bringsBack n  q33.2).bind (fun q38 => some (q33.1, q38.2))))))))) else some ((0 : Int32), q13.2))))))))
set_option maxRecDepth 20000 in
set_option maxHeartbeats 2000000 in
theorem c_X12_would (w : TG) (n : Nat) (p1 : Int32) (p2 : Int32) (σ : MS) : MC m_X12_would w [.ref (wB w + 171), .int p1, .int p2] σ (f_X12_would n p1 p2 σ) := by
  refine V_meth (by decide +kernel) (Nat.le_of_ble_eq_true rfl) (by intro v hv; simp only [List.mem_cons, List.not_mem_nil, or_false] at hv; rcases hv with rfl | rfl | rfl <;> rfl) (fun g x => ?_)
  show VV m_X12_would w g 0 0 (QM m_X12_would w g x) (fun b : Int32 × MS => b = x) 0 [some (.ref (wB w + 171)), some (.int p1), some (.int p2), none] [] σ (f_X12_would n p1 p2 σ)
  refine V_aload_n (pc := 0) dX12_would_0 rfl rfl ?_
  refine V_iconst (pc := 1) (v := (0 : Int32)) dX12_would_1 rfl ?_
  refine V_puti (pc := 2) fp_X12_3 rfl dX12_would_2 kc_171 rfl (fun s2 => ?_)
  refine V_aload_n (pc := 5) dX12_would_5 rfl rfl ?_
  refine V_aload_n (pc := 6) dX12_would_6 rfl rfl ?_
  refine V_iload_n (pc := 7) dX12_would_7 rfl rfl ?_
  refine V_iload_n (pc := 8) dX12_would_8 rfl rfl ?_
  refine V_callVpi (pc := 9) (As := [.int p1, .int p2]) (rest := [.ref (wB w + 171)]) (c_X12_noCup w p1 p2 s2) cw_X12_330 rfl rfl dX12_would_9 kc_171 rfl ⟨Nat.le_of_ble_eq_true rfl, Nat.le_of_ble_eq_true rfl⟩ rfl rfl (Nat.le_of_ble_eq_true rfl) (Nat.le_of_ble_eq_true rfl) (Nat.le_of_ble_eq_true rfl) rfl (fun q9 => ?_)
  refine V_iconst (pc := 12) (v := (1 : Int32)) dX12_would_12 rfl ?_
  refine V_callVi (pc := 13) (As := [.int q9, .int (1 : Int32)]) (rest := []) (c_X12_throwsIf w q9 (1 : Int32) s2) cw_X12_257 rfl rfl dX12_would_13 kc_171 rfl ⟨Nat.le_of_ble_eq_true rfl, Nat.le_of_ble_eq_true rfl⟩ rfl rfl (Nat.le_of_ble_eq_true rfl) (Nat.le_of_ble_eq_true rfl) (Nat.le_of_ble_eq_true rfl) rfl (fun q13 => ?_)
  refine V_if_eq (pc := 16) (tgt := 21) dX12_would_16 (by decide) ?_ ?_
  · refine V_aload_n (pc := 21) dX12_would_21 rfl rfl ?_
    refine V_callVv (pc := 22) (As := []) (rest := []) (c_X12_keepsAll w n  q13.2) cw_X12_339 rfl rfl dX12_would_22 kc_171 rfl ⟨Nat.le_of_ble_eq_true rfl, Nat.le_of_ble_eq_true rfl⟩ rfl rfl (Nat.le_of_ble_eq_true rfl) (Nat.le_of_ble_eq_true rfl) (Nat.le_of_ble_eq_true rfl) rfl (fun q22 => ?_)
    refine V_aload_n (pc := 25) dX12_would_25 rfl rfl ?_
    refine V_iload_n (pc := 26) dX12_would_26 rfl rfl ?_
    refine V_aload_n (pc := 27) dX12_would_27 rfl rfl ?_
    refine V_callVpi (pc := 28) (As := []) (rest := [.int p1, .ref (wB w + 171)]) (c_X12_everybody w  q22.2) cw_X12_327 rfl rfl dX12_would_28 kc_171 rfl ⟨Nat.le_of_ble_eq_true rfl, Nat.le_of_ble_eq_true rfl⟩ rfl rfl (Nat.le_of_ble_eq_true rfl) (Nat.le_of_ble_eq_true rfl) (Nat.le_of_ble_eq_true rfl) rfl (fun q28 => ?_)
    refine V_iand (pc := 31) dX12_would_31 ?_
    refine V_iload_n (pc := 32) dX12_would_32 rfl rfl ?_
    refine V_callVi (pc := 33) (As := [.int (p1 &&& q28), .int p2]) (rest := []) (c_X12_shares w n (p1 &&& q28) p2 q22.2) cw_X12_336 rfl rfl dX12_would_33 kc_171 rfl ⟨Nat.le_of_ble_eq_true rfl, Nat.le_of_ble_eq_true rfl⟩ rfl rfl (Nat.le_of_ble_eq_true rfl) (Nat.le_of_ble_eq_true rfl) (Nat.le_of_ble_eq_true rfl) rfl (fun q33 => ?_)
    refine V_istore_n (pc := 36) (vs' := [some (.ref (wB w + 171)), some (.int p1), some (.int p2), some (.int q33.1)]) dX12_would_36 rfl (Nat.le_of_ble_eq_true rfl) (Nat.le_of_ble_eq_true rfl) rfl ?_
    refine V_aload_n (pc := 37) dX12_would_37 rfl rfl ?_
    refine V_callVv (pc := 38) (As := []) (rest := []) (c_X12_bringsBack w n  q33.2) cw_X12_342 rfl rfl dX12_would_38 kc_171 rfl ⟨Nat.le_of_ble_eq_true rfl, Nat.le_of_ble_eq_true rfl⟩ rfl rfl (Nat.le_of_ble_eq_true rfl) (Nat.le_of_ble_eq_true rfl) (Nat.le_of_ble_eq_true rfl) rfl (fun q38 => ?_)
    refine V_iload_n (pc := 41) dX12_would_41 rfl rfl ?_
    exact V_ireti (pc := 42) dX12_would_42 rfl (hk := fun h => h)
  · refine V_iconst (pc := 19) (v := (0 : Int32)) dX12_would_19 rfl ?_
    exact V_ireti (pc := 20) dX12_would_20 rfl (hk := fun h => h)
def J_X12_bondsThatHold_34 (n : Nat) (v2 : Int32) (v3 : Int32) (t0 : Int32) (t1 : Int32) (σ : MS) : Option ((Int32 × Int32) ⊕ ((Int32 × Int32) ⊕ (Int32))) := some (.inl ((t1 + t0), (v3 + (1 : Int32))))
def L_X12_bondsThatHold_14 (n : Nat) (v2 : Int32) (σ : MS) (a14 : Int32 × Int32) : Option ((Int32 × Int32) ⊕ ((Int32 × Int32) ⊕ (Int32))) := (if v2 ≤ a14.2 then (some (.inl (a14.1, (v2 + (1 : Int32))))).map Sum.inr else ((f_X12_holds v2 a14.2 σ).bind (fun q23 => (if q23 = 0 then J_X12_bondsThatHold_34 n v2 a14.2 (0 : Int32) a14.1 σ else J_X12_bondsThatHold_34 n v2 a14.2 (1 : Int32) a14.1 σ))))
def L_X12_bondsThatHold_4 (n : Nat)  (σ : MS) (a4 : Int32 × Int32) : Option ((Int32 × Int32) ⊕ (Int32)) := ((f_X12_people  σ).bind (fun q6 => (if q6 ≤ a4.2 then (some a4.1).map Sum.inr else itr (L_X12_bondsThatHold_14 n a4.2 σ) n (a4.1, (0 : Int32)))))
def f_X12_bondsThatHold (n : Nat)  (σ : MS) : Option (Int32) := itr (L_X12_bondsThatHold_4 n  σ) n ((0 : Int32), (0 : Int32))
set_option maxRecDepth 20000 in
set_option maxHeartbeats 2000000 in
theorem c_X12_bondsThatHold (w : TG) (n : Nat)  (σ : MS) : MC m_X12_bondsThatHold w [.ref (wB w + 171)] σ ((f_X12_bondsThatHold n  σ).map (fun r => (r, σ))) := by
  refine V_methp (by decide +kernel) (Nat.le_of_ble_eq_true rfl) (by intro v hv; simp only [List.mem_cons, List.not_mem_nil, or_false] at hv; subst hv; rfl) (fun g x => ?_)
  show VV m_X12_bondsThatHold w g 0 0 (QM m_X12_bondsThatHold w g x) (fun b : Int32 => (b, σ) = x) 0 [some (.ref (wB w + 171)), none, none, none] [] σ (f_X12_bondsThatHold n  σ)
  have hL4 : ∀  (n0 : Nat) (a : Int32 × Int32), VV m_X12_bondsThatHold w g 0 0 (QM m_X12_bondsThatHold w g x) (fun b : Int32 => (b, σ) = x) 4 [some (.ref (wB w + 171)), some (.int a.1), some (.int a.2), none] [] σ (itr (L_X12_bondsThatHold_4 n  σ) n0 a) := by
    refine V_itr (vf := fun a : Int32 × Int32 => [some (.ref (wB w + 171)), some (.int a.1), some (.int a.2), none]) (sf := fun a : Int32 × Int32 => σ) (fun κ4 b4 r4 a4 => ?_)
    show VV m_X12_bondsThatHold w g 0 0 (QM m_X12_bondsThatHold w g x) κ4 4 [some (.ref (wB w + 171)), some (.int a4.1), some (.int a4.2), none] [] σ (L_X12_bondsThatHold_4 n  σ a4)
    have hL14 : ∀ (v2 : Int32) (n0 : Nat) (a : Int32 × Int32), VV m_X12_bondsThatHold w g 0 0 (QM m_X12_bondsThatHold w g x) κ4 14 [some (.ref (wB w + 171)), some (.int a.1), some (.int v2), some (.int a.2)] [] σ (itr (L_X12_bondsThatHold_14 n v2 σ) n0 a) := by
      intro v2
      refine V_itr (vf := fun a : Int32 × Int32 => [some (.ref (wB w + 171)), some (.int a.1), some (.int v2), some (.int a.2)]) (sf := fun a : Int32 × Int32 => σ) (fun κ14 b14 r14 a14 => ?_)
      show VV m_X12_bondsThatHold w g 0 0 (QM m_X12_bondsThatHold w g x) κ14 14 [some (.ref (wB w + 171)), some (.int a14.1), some (.int v2), some (.int a14.2)] [] σ (L_X12_bondsThatHold_14 n v2 σ a14)
      have hJ34 : ∀ (v3 : Int32) (t0 : Int32) (t1 : Int32), VV m_X12_bondsThatHold w g 0 0 (QM m_X12_bondsThatHold w g x) κ14 34 [some (.ref (wB w + 171)), none, some (.int v2), some (.int v3)] [.int t0, .int t1] σ (J_X12_bondsThatHold_34 n v2 v3 t0 t1 σ) := by
        intro v3 t0 t1
        refine V_iadd (pc := 34) dX12_bondsThatHold_34 ?_
        refine V_istore_n (pc := 35) (vs' := [some (.ref (wB w + 171)), some (.int (t1 + t0)), some (.int v2), some (.int v3)]) dX12_bondsThatHold_35 rfl (Nat.le_of_ble_eq_true rfl) (Nat.le_of_ble_eq_true rfl) rfl ?_
        refine V_iinc (pc := 36) (v := (v3 + (1 : Int32))) (vs' := [some (.ref (wB w + 171)), some (.int (t1 + t0)), some (.int v2), some (.int (v3 + (1 : Int32)))]) dX12_bondsThatHold_36 (Nat.le_of_ble_eq_true rfl) rfl rfl rfl ?_
        refine V_goto (pc := 39) (tgt := 14) dX12_bondsThatHold_39 (by decide) ?_
        exact V_back (b14 ((t1 + t0), (v3 + (1 : Int32))))
      refine V_iload_n (pc := 14) dX12_bondsThatHold_14 rfl rfl ?_
      refine V_iload_n (pc := 15) dX12_bondsThatHold_15 rfl rfl ?_
      refine V_icmp_ge (pc := 16) (tgt := 42) dX12_bondsThatHold_16 (by decide) ?_ ?_
      · refine V_exit r14 ?_
        refine V_iinc (pc := 42) (v := (v2 + (1 : Int32))) (vs' := [some (.ref (wB w + 171)), some (.int a14.1), some (.int (v2 + (1 : Int32))), some (.int a14.2)]) dX12_bondsThatHold_42 (Nat.le_of_ble_eq_true rfl) rfl rfl rfl ?_
        refine V_goto (pc := 45) (tgt := 4) dX12_bondsThatHold_45 (by decide) ?_
        refine V_sub (vs' := [some (.ref (wB w + 171)), some (.int a14.1), some (.int (v2 + (1 : Int32))), none]) (show vless _ _ from ⟨rfl, ⟨rfl, ⟨rfl, trivial⟩⟩⟩) rfl ?_
        exact V_back (b4 (a14.1, (v2 + (1 : Int32))))
      · refine V_iload_n (pc := 19) dX12_bondsThatHold_19 rfl rfl ?_
        refine V_aload_n (pc := 20) dX12_bondsThatHold_20 rfl rfl ?_
        refine V_iload_n (pc := 21) dX12_bondsThatHold_21 rfl rfl ?_
        refine V_iload_n (pc := 22) dX12_bondsThatHold_22 rfl rfl ?_
        refine V_callVpi (pc := 23) (As := [.int v2, .int a14.2]) (rest := [.int a14.1]) (c_X12_holds w v2 a14.2 σ) cw_X12_69 rfl rfl dX12_bondsThatHold_23 kc_171 rfl ⟨Nat.le_of_ble_eq_true rfl, Nat.le_of_ble_eq_true rfl⟩ rfl rfl (Nat.le_of_ble_eq_true rfl) (Nat.le_of_ble_eq_true rfl) (Nat.le_of_ble_eq_true rfl) rfl (fun q23 => ?_)
        refine V_if_eq (pc := 26) (tgt := 33) dX12_bondsThatHold_26 (by decide) ?_ ?_
        · refine V_iconst (pc := 33) (v := (0 : Int32)) dX12_bondsThatHold_33 rfl ?_
          refine V_sub (vs' := [some (.ref (wB w + 171)), none, some (.int v2), some (.int a14.2)]) (show vless _ _ from ⟨rfl, ⟨rfl, ⟨rfl, trivial⟩⟩⟩) rfl ?_
          exact hJ34 a14.2 (0 : Int32) a14.1
        · refine V_iconst (pc := 29) (v := (1 : Int32)) dX12_bondsThatHold_29 rfl ?_
          refine V_goto (pc := 30) (tgt := 34) dX12_bondsThatHold_30 (by decide) ?_
          refine V_sub (vs' := [some (.ref (wB w + 171)), none, some (.int v2), some (.int a14.2)]) (show vless _ _ from ⟨rfl, ⟨rfl, ⟨rfl, trivial⟩⟩⟩) rfl ?_
          exact hJ34 a14.2 (1 : Int32) a14.1
    refine V_iload_n (pc := 4) dX12_bondsThatHold_4 rfl rfl ?_
    refine V_aload_n (pc := 5) dX12_bondsThatHold_5 rfl rfl ?_
    refine V_callVpi (pc := 6) (As := []) (rest := [.int a4.2]) (c_X12_people w  σ) cw_X12_58 rfl rfl dX12_bondsThatHold_6 kc_171 rfl ⟨Nat.le_of_ble_eq_true rfl, Nat.le_of_ble_eq_true rfl⟩ rfl rfl (Nat.le_of_ble_eq_true rfl) (Nat.le_of_ble_eq_true rfl) (Nat.le_of_ble_eq_true rfl) rfl (fun q6 => ?_)
    refine V_icmp_ge (pc := 9) (tgt := 48) dX12_bondsThatHold_9 (by decide) ?_ ?_
    · refine V_exit r4 ?_
      refine V_iload_n (pc := 48) dX12_bondsThatHold_48 rfl rfl ?_
      exact V_ireti (pc := 49) dX12_bondsThatHold_49 rfl (hk := fun h => h)
    · refine V_iconst (pc := 12) (v := (0 : Int32)) dX12_bondsThatHold_12 rfl ?_
      refine V_istore_n (pc := 13) (vs' := [some (.ref (wB w + 171)), some (.int a4.1), some (.int a4.2), some (.int (0 : Int32))]) dX12_bondsThatHold_13 rfl (Nat.le_of_ble_eq_true rfl) (Nat.le_of_ble_eq_true rfl) rfl ?_
      exact hL14 a4.2 n (a4.1, (0 : Int32))
  refine V_iconst (pc := 0) (v := (0 : Int32)) dX12_bondsThatHold_0 rfl ?_
  refine V_istore_n (pc := 1) (vs' := [some (.ref (wB w + 171)), some (.int (0 : Int32)), none, none]) dX12_bondsThatHold_1 rfl (Nat.le_of_ble_eq_true rfl) (Nat.le_of_ble_eq_true rfl) rfl ?_
  refine V_iconst (pc := 2) (v := (0 : Int32)) dX12_bondsThatHold_2 rfl ?_
  refine V_istore_n (pc := 3) (vs' := [some (.ref (wB w + 171)), some (.int (0 : Int32)), some (.int (0 : Int32)), none]) dX12_bondsThatHold_3 rfl (Nat.le_of_ble_eq_true rfl) (Nat.le_of_ble_eq_true rfl) rfl ?_
  exact hL4 n ((0 : Int32), (0 : Int32))
def J_X12_widest_113 (n : Nat) (v1 : Int32) (v2 : Int32) (v3 : Int32) (v4 : Int32) (v5 : Int32) (σ : MS) : Option ((Int32 × Int32 × Int32 × MS) ⊕ (Int32 × MS)) := some (.inl (v3, v4, (v5 + (1 : Int32)), σ))
def J_X12_widest_103 (n : Nat) (v1 : Int32) (v2 : Int32) (v4 : Int32) (v5 : Int32) (v6 : Int32) (t0 : Int32) (σ : MS) : Option ((Int32 × Int32 × Int32 × MS) ⊕ (Int32 × MS)) := J_X12_widest_113 n v1 v2 t0 (mxI v4 v6) v5 σ
def L_X12_widest_51 (n : Nat) (v1 : Int32) (v2 : Int32) (σ : MS) (a51 : Int32 × Int32 × Int32 × MS) : Option ((Int32 × Int32 × Int32 × MS) ⊕ (Int32 × MS)) := ((f_X12_everybody  a51.2.2.2).bind (fun q54 => (if q54 < a51.2.2.1 then (some (a51.1, a51.2.2.2)).map Sum.inr else ((f_J6_bitCount_0f7a4 a51.2.2.1 a51.2.2.2).bind (fun q62 => (if q62 = v2 then ((f_X12_shares n a51.2.2.1 v1 a51.2.2.2).bind (fun q76 => ((f_X12_bondsThatHold n  q76.2).bind (fun q81 => ((f_X12_bringsBack n  q76.2).bind (fun q87 => (if q81 ≤ a51.2.1 then J_X12_widest_103 n v1 v2 a51.2.1 a51.2.2.1 q81 a51.1 q87.2 else J_X12_widest_103 n v1 v2 a51.2.1 a51.2.2.1 q81 a51.2.2.1 q87.2))))))) else J_X12_widest_113 n v1 v2 a51.1 a51.2.1 a51.2.2.1 a51.2.2.2))))))
def J_X12_widest_30 (n : Nat) (v1 : Int32) (v2 : Int32) (t0 : Int32) (σ : MS) : Option (Int32 × MS) := ((f_X12_throwsIf t0 (1 : Int32) σ).bind (fun q31 => (if q31.1 = 0 then ((f_X12_keepsAll n  q31.2).bind (fun q45 => itr (L_X12_widest_51 n v1 v2 σ) n ((-1 : Int32), (-1 : Int32), (0 : Int32), q45.2))) else some ((0 : Int32), q31.2))))
def J_X12_widest_25 (n : Nat) (v1 : Int32) (v2 : Int32) (σ : MS) : Option (Int32 × MS) := J_X12_widest_30 n v1 v2 (1 : Int32) σ
def f_X12_widest (n : Nat) (p1 : Int32) (p2 : Int32) (σ : MS) : Option (Int32 × MS) := (ltM (mu σ 171 0 (0 : Int32)) (fun s2 => ((f_X12_in p1 (0 : Int32) (3 : Int32) s2).bind (fun q9 => (if q9 = 0 then J_X12_widest_25 n p1 p2 s2 else ((f_X12_in p2 (2 : Int32) (8 : Int32) s2).bind (fun q19 => (if q19 = 0 then J_X12_widest_25 n p1 p2 s2 else J_X12_widest_30 n p1 p2 (0 : Int32) s2))))))))
set_option maxRecDepth 20000 in
set_option maxHeartbeats 2000000 in
theorem c_X12_widest (w : TG) (n : Nat) (p1 : Int32) (p2 : Int32) (σ : MS) : MC m_X12_widest w [.ref (wB w + 171), .int p1, .int p2] σ (f_X12_widest n p1 p2 σ) := by
  refine V_meth (by decide +kernel) (Nat.le_of_ble_eq_true rfl) (by intro v hv; simp only [List.mem_cons, List.not_mem_nil, or_false] at hv; rcases hv with rfl | rfl | rfl <;> rfl) (fun g x => ?_)
  show VV m_X12_widest w g 0 0 (QM m_X12_widest w g x) (fun b : Int32 × MS => b = x) 0 [some (.ref (wB w + 171)), some (.int p1), some (.int p2), none, none, none, none] [] σ (f_X12_widest n p1 p2 σ)
  have hL51 : ∀  (n0 : Nat) (a : Int32 × Int32 × Int32 × MS), VV m_X12_widest w g 0 0 (QM m_X12_widest w g x) (fun b : Int32 × MS => b = x) 51 [some (.ref (wB w + 171)), some (.int p1), some (.int p2), some (.int a.1), some (.int a.2.1), some (.int a.2.2.1), none] [] a.2.2.2 (itr (L_X12_widest_51 n p1 p2 σ) n0 a) := by
    refine V_itr (vf := fun a : Int32 × Int32 × Int32 × MS => [some (.ref (wB w + 171)), some (.int p1), some (.int p2), some (.int a.1), some (.int a.2.1), some (.int a.2.2.1), none]) (sf := fun a : Int32 × Int32 × Int32 × MS => a.2.2.2) (fun κ51 b51 r51 a51 => ?_)
    show VV m_X12_widest w g 0 0 (QM m_X12_widest w g x) κ51 51 [some (.ref (wB w + 171)), some (.int p1), some (.int p2), some (.int a51.1), some (.int a51.2.1), some (.int a51.2.2.1), none] [] a51.2.2.2 (L_X12_widest_51 n p1 p2 σ a51)
    have hJ113 : ∀ (v3 : Int32) (v4 : Int32) (v5 : Int32) (σ : MS), VV m_X12_widest w g 0 0 (QM m_X12_widest w g x) κ51 113 [some (.ref (wB w + 171)), some (.int p1), some (.int p2), some (.int v3), some (.int v4), some (.int v5), none] [] σ (J_X12_widest_113 n p1 p2 v3 v4 v5 σ) := by
      intro v3 v4 v5 σ
      refine V_iinc (pc := 113) (v := (v5 + (1 : Int32))) (vs' := [some (.ref (wB w + 171)), some (.int p1), some (.int p2), some (.int v3), some (.int v4), some (.int (v5 + (1 : Int32))), none]) dX12_widest_113 (Nat.le_of_ble_eq_true rfl) rfl rfl rfl ?_
      refine V_goto (pc := 116) (tgt := 51) dX12_widest_116 (by decide) ?_
      exact V_back (b51 (v3, v4, (v5 + (1 : Int32)), σ))
    have hJ103 : ∀ (v4 : Int32) (v5 : Int32) (v6 : Int32) (t0 : Int32) (σ : MS), VV m_X12_widest w g 0 0 (QM m_X12_widest w g x) κ51 103 [some (.ref (wB w + 171)), some (.int p1), some (.int p2), none, some (.int v4), some (.int v5), some (.int v6)] [.int t0] σ (J_X12_widest_103 n p1 p2 v4 v5 v6 t0 σ) := by
      intro v4 v5 v6 t0 σ
      refine V_istore_n (pc := 103) (vs' := [some (.ref (wB w + 171)), some (.int p1), some (.int p2), some (.int t0), some (.int v4), some (.int v5), some (.int v6)]) dX12_widest_103 rfl (Nat.le_of_ble_eq_true rfl) (Nat.le_of_ble_eq_true rfl) rfl ?_
      refine V_iload (pc := 104) dX12_widest_104 rfl ?_
      refine V_iload (pc := 106) dX12_widest_106 rfl ?_
      refine V_mmax (pc := 108) dX12_widest_108 rfl mw_X12_288 (Nat.le_of_ble_eq_true rfl) (Nat.le_of_ble_eq_true rfl) (Nat.le_of_ble_eq_true rfl) (Nat.le_of_ble_eq_true rfl) ?_
      refine V_istore (pc := 111) (vs' := [some (.ref (wB w + 171)), some (.int p1), some (.int p2), some (.int t0), some (.int (mxI v4 v6)), some (.int v5), some (.int v6)]) dX12_widest_111 (Nat.le_of_ble_eq_true rfl) (Nat.le_of_ble_eq_true rfl) rfl ?_
      refine V_sub (vs' := [some (.ref (wB w + 171)), some (.int p1), some (.int p2), some (.int t0), some (.int (mxI v4 v6)), some (.int v5), none]) (show vless _ _ from ⟨rfl, ⟨rfl, ⟨rfl, ⟨rfl, ⟨rfl, ⟨rfl, trivial⟩⟩⟩⟩⟩⟩) rfl ?_
      exact hJ113 t0 (mxI v4 v6) v5 σ
    refine V_iload (pc := 51) dX12_widest_51 rfl ?_
    refine V_aload_n (pc := 53) dX12_widest_53 rfl rfl ?_
    refine V_callVpi (pc := 54) (As := []) (rest := [.int a51.2.2.1]) (c_X12_everybody w  a51.2.2.2) cw_X12_327 rfl rfl dX12_widest_54 kc_171 rfl ⟨Nat.le_of_ble_eq_true rfl, Nat.le_of_ble_eq_true rfl⟩ rfl rfl (Nat.le_of_ble_eq_true rfl) (Nat.le_of_ble_eq_true rfl) (Nat.le_of_ble_eq_true rfl) rfl (fun q54 => ?_)
    refine V_icmp_gt (pc := 57) (tgt := 119) dX12_widest_57 (by decide) ?_ ?_
    · refine V_exit r51 ?_
      refine V_iload_n (pc := 119) dX12_widest_119 rfl rfl ?_
      exact V_ireti (pc := 120) dX12_widest_120 rfl (hk := fun h => h)
    · refine V_iload (pc := 60) dX12_widest_60 rfl ?_
      refine V_callSpi (pc := 62) (As := [.int a51.2.2.1]) (rest := []) (c_J6_bitCount_0f7a4 w a51.2.2.1 a51.2.2.2) cs_X12_318 rfl rfl dX12_widest_62 ⟨Nat.le_of_ble_eq_true rfl, Nat.le_of_ble_eq_true rfl⟩ rfl rfl (Nat.le_of_ble_eq_true rfl) (Nat.le_of_ble_eq_true rfl) (Nat.le_of_ble_eq_true rfl) rfl (fun q62 => ?_)
      refine V_iload_n (pc := 65) dX12_widest_65 rfl rfl ?_
      refine V_icmp_eq (pc := 66) (tgt := 72) dX12_widest_66 (by decide) ?_ ?_
      · refine V_aload_n (pc := 72) dX12_widest_72 rfl rfl ?_
        refine V_iload (pc := 73) dX12_widest_73 rfl ?_
        refine V_iload_n (pc := 75) dX12_widest_75 rfl rfl ?_
        refine V_callVi (pc := 76) (As := [.int a51.2.2.1, .int p1]) (rest := []) (c_X12_shares w n a51.2.2.1 p1 a51.2.2.2) cw_X12_336 rfl rfl dX12_widest_76 kc_171 rfl ⟨Nat.le_of_ble_eq_true rfl, Nat.le_of_ble_eq_true rfl⟩ rfl rfl (Nat.le_of_ble_eq_true rfl) (Nat.le_of_ble_eq_true rfl) (Nat.le_of_ble_eq_true rfl) rfl (fun q76 => ?_)
        refine V_pop (pc := 79) dX12_widest_79 rfl ?_
        refine V_aload_n (pc := 80) dX12_widest_80 rfl rfl ?_
        refine V_callVpi (pc := 81) (As := []) (rest := []) (c_X12_bondsThatHold w n  q76.2) cw_X12_345 rfl rfl dX12_widest_81 kc_171 rfl ⟨Nat.le_of_ble_eq_true rfl, Nat.le_of_ble_eq_true rfl⟩ rfl rfl (Nat.le_of_ble_eq_true rfl) (Nat.le_of_ble_eq_true rfl) (Nat.le_of_ble_eq_true rfl) rfl (fun q81 => ?_)
        refine V_istore (pc := 84) (vs' := [some (.ref (wB w + 171)), some (.int p1), some (.int p2), some (.int a51.1), some (.int a51.2.1), some (.int a51.2.2.1), some (.int q81)]) dX12_widest_84 (Nat.le_of_ble_eq_true rfl) (Nat.le_of_ble_eq_true rfl) rfl ?_
        refine V_aload_n (pc := 86) dX12_widest_86 rfl rfl ?_
        refine V_callVv (pc := 87) (As := []) (rest := []) (c_X12_bringsBack w n  q76.2) cw_X12_342 rfl rfl dX12_widest_87 kc_171 rfl ⟨Nat.le_of_ble_eq_true rfl, Nat.le_of_ble_eq_true rfl⟩ rfl rfl (Nat.le_of_ble_eq_true rfl) (Nat.le_of_ble_eq_true rfl) (Nat.le_of_ble_eq_true rfl) rfl (fun q87 => ?_)
        refine V_iload (pc := 90) dX12_widest_90 rfl ?_
        refine V_iload (pc := 92) dX12_widest_92 rfl ?_
        refine V_icmp_le (pc := 94) (tgt := 102) dX12_widest_94 (by decide) ?_ ?_
        · refine V_iload_n (pc := 102) dX12_widest_102 rfl rfl ?_
          refine V_sub (vs' := [some (.ref (wB w + 171)), some (.int p1), some (.int p2), none, some (.int a51.2.1), some (.int a51.2.2.1), some (.int q81)]) (show vless _ _ from ⟨rfl, ⟨rfl, ⟨rfl, ⟨rfl, ⟨rfl, ⟨rfl, trivial⟩⟩⟩⟩⟩⟩) rfl ?_
          exact hJ103 a51.2.1 a51.2.2.1 q81 a51.1 q87.2
        · refine V_iload (pc := 97) dX12_widest_97 rfl ?_
          refine V_goto (pc := 99) (tgt := 103) dX12_widest_99 (by decide) ?_
          refine V_sub (vs' := [some (.ref (wB w + 171)), some (.int p1), some (.int p2), none, some (.int a51.2.1), some (.int a51.2.2.1), some (.int q81)]) (show vless _ _ from ⟨rfl, ⟨rfl, ⟨rfl, ⟨rfl, ⟨rfl, ⟨rfl, trivial⟩⟩⟩⟩⟩⟩) rfl ?_
          exact hJ103 a51.2.1 a51.2.2.1 q81 a51.2.2.1 q87.2
      · refine V_goto (pc := 69) (tgt := 113) dX12_widest_69 (by decide) ?_
        exact hJ113 a51.1 a51.2.1 a51.2.2.1 a51.2.2.2
  have hJ30 : ∀ (t0 : Int32) (σ : MS), VV m_X12_widest w g 0 0 (QM m_X12_widest w g x) (fun b : Int32 × MS => b = x) 30 [some (.ref (wB w + 171)), some (.int p1), some (.int p2), none, none, none, none] [.int t0, .ref (wB w + 171)] σ (J_X12_widest_30 n p1 p2 t0 σ) := by
    intro t0 σ
    refine V_iconst (pc := 30) (v := (1 : Int32)) dX12_widest_30 rfl ?_
    refine V_callVi (pc := 31) (As := [.int t0, .int (1 : Int32)]) (rest := []) (c_X12_throwsIf w t0 (1 : Int32) σ) cw_X12_257 rfl rfl dX12_widest_31 kc_171 rfl ⟨Nat.le_of_ble_eq_true rfl, Nat.le_of_ble_eq_true rfl⟩ rfl rfl (Nat.le_of_ble_eq_true rfl) (Nat.le_of_ble_eq_true rfl) (Nat.le_of_ble_eq_true rfl) rfl (fun q31 => ?_)
    refine V_if_eq (pc := 34) (tgt := 39) dX12_widest_34 (by decide) ?_ ?_
    · refine V_iconst (pc := 39) (v := (-1 : Int32)) dX12_widest_39 rfl ?_
      refine V_istore_n (pc := 40) (vs' := [some (.ref (wB w + 171)), some (.int p1), some (.int p2), some (.int (-1 : Int32)), none, none, none]) dX12_widest_40 rfl (Nat.le_of_ble_eq_true rfl) (Nat.le_of_ble_eq_true rfl) rfl ?_
      refine V_iconst (pc := 41) (v := (-1 : Int32)) dX12_widest_41 rfl ?_
      refine V_istore (pc := 42) (vs' := [some (.ref (wB w + 171)), some (.int p1), some (.int p2), some (.int (-1 : Int32)), some (.int (-1 : Int32)), none, none]) dX12_widest_42 (Nat.le_of_ble_eq_true rfl) (Nat.le_of_ble_eq_true rfl) rfl ?_
      refine V_aload_n (pc := 44) dX12_widest_44 rfl rfl ?_
      refine V_callVv (pc := 45) (As := []) (rest := []) (c_X12_keepsAll w n  q31.2) cw_X12_339 rfl rfl dX12_widest_45 kc_171 rfl ⟨Nat.le_of_ble_eq_true rfl, Nat.le_of_ble_eq_true rfl⟩ rfl rfl (Nat.le_of_ble_eq_true rfl) (Nat.le_of_ble_eq_true rfl) (Nat.le_of_ble_eq_true rfl) rfl (fun q45 => ?_)
      refine V_iconst (pc := 48) (v := (0 : Int32)) dX12_widest_48 rfl ?_
      refine V_istore (pc := 49) (vs' := [some (.ref (wB w + 171)), some (.int p1), some (.int p2), some (.int (-1 : Int32)), some (.int (-1 : Int32)), some (.int (0 : Int32)), none]) dX12_widest_49 (Nat.le_of_ble_eq_true rfl) (Nat.le_of_ble_eq_true rfl) rfl ?_
      exact hL51 n ((-1 : Int32), (-1 : Int32), (0 : Int32), q45.2)
    · refine V_iconst (pc := 37) (v := (0 : Int32)) dX12_widest_37 rfl ?_
      exact V_ireti (pc := 38) dX12_widest_38 rfl (hk := fun h => h)
  have hJ25 : ∀ (σ : MS), VV m_X12_widest w g 0 0 (QM m_X12_widest w g x) (fun b : Int32 × MS => b = x) 25 [some (.ref (wB w + 171)), some (.int p1), some (.int p2), none, none, none, none] [.ref (wB w + 171)] σ (J_X12_widest_25 n p1 p2 σ) := by
    intro σ
    refine V_iconst (pc := 25) (v := (1 : Int32)) dX12_widest_25 rfl ?_
    refine V_goto (pc := 26) (tgt := 30) dX12_widest_26 (by decide) ?_
    exact hJ30 (1 : Int32) σ
  refine V_aload_n (pc := 0) dX12_widest_0 rfl rfl ?_
  refine V_iconst (pc := 1) (v := (0 : Int32)) dX12_widest_1 rfl ?_
  refine V_puti (pc := 2) fp_X12_3 rfl dX12_widest_2 kc_171 rfl (fun s2 => ?_)
  refine V_aload_n (pc := 5) dX12_widest_5 rfl rfl ?_
  refine V_iload_n (pc := 6) dX12_widest_6 rfl rfl ?_
  refine V_iconst (pc := 7) (v := (0 : Int32)) dX12_widest_7 rfl ?_
  refine V_iconst (pc := 8) (v := (3 : Int32)) dX12_widest_8 rfl ?_
  refine V_callSpi (pc := 9) (As := [.int p1, .int (0 : Int32), .int (3 : Int32)]) (rest := [.ref (wB w + 171)]) (c_X12_in w p1 (0 : Int32) (3 : Int32) s2) cs_X12_79 rfl rfl dX12_widest_9 ⟨Nat.le_of_ble_eq_true rfl, Nat.le_of_ble_eq_true rfl⟩ rfl rfl (Nat.le_of_ble_eq_true rfl) (Nat.le_of_ble_eq_true rfl) (Nat.le_of_ble_eq_true rfl) rfl (fun q9 => ?_)
  refine V_if_eq (pc := 12) (tgt := 25) dX12_widest_12 (by decide) ?_ ?_
  · exact hJ25 s2
  · refine V_iload_n (pc := 15) dX12_widest_15 rfl rfl ?_
    refine V_iconst (pc := 16) (v := (2 : Int32)) dX12_widest_16 rfl ?_
    refine V_bipush (pc := 17) (v := (8 : Int32)) dX12_widest_17 rfl ?_
    refine V_callSpi (pc := 19) (As := [.int p2, .int (2 : Int32), .int (8 : Int32)]) (rest := [.ref (wB w + 171)]) (c_X12_in w p2 (2 : Int32) (8 : Int32) s2) cs_X12_79 rfl rfl dX12_widest_19 ⟨Nat.le_of_ble_eq_true rfl, Nat.le_of_ble_eq_true rfl⟩ rfl rfl (Nat.le_of_ble_eq_true rfl) (Nat.le_of_ble_eq_true rfl) (Nat.le_of_ble_eq_true rfl) rfl (fun q19 => ?_)
    refine V_if_ne (pc := 22) (tgt := 29) dX12_widest_22 (by decide) ?_ ?_
    · refine V_iconst (pc := 29) (v := (0 : Int32)) dX12_widest_29 rfl ?_
      exact hJ30 (0 : Int32) s2
    · exact hJ25 s2
def J_X12_boundTo_34 (n : Nat) (v1 : Int32) (v3 : Int32) (t0 : Int32) (t1 : Int32) (σ : MS) : Option ((Int32 × Int32) ⊕ (Int32)) := some (.inl ((t1 ||| t0), (v3 + (1 : Int32))))
def J_X12_boundTo_33 (n : Nat) (v1 : Int32) (v3 : Int32) (t0 : Int32) (σ : MS) : Option ((Int32 × Int32) ⊕ (Int32)) := J_X12_boundTo_34 n v1 v3 (0 : Int32) t0 σ
def L_X12_boundTo_4 (n : Nat) (v1 : Int32) (σ : MS) (a4 : Int32 × Int32) : Option ((Int32 × Int32) ⊕ (Int32)) := ((f_X12_people  σ).bind (fun q6 => (if q6 ≤ a4.2 then (some a4.1).map Sum.inr else (if a4.2 = v1 then J_X12_boundTo_33 n v1 a4.2 a4.1 σ else ((f_X12_holds v1 a4.2 σ).bind (fun q21 => (if q21 = 0 then J_X12_boundTo_33 n v1 a4.2 a4.1 σ else J_X12_boundTo_34 n v1 a4.2 (shlI (1 : Int32) a4.2) a4.1 σ)))))))
def f_X12_boundTo (n : Nat) (p1 : Int32) (σ : MS) : Option (Int32) := itr (L_X12_boundTo_4 n p1 σ) n ((0 : Int32), (0 : Int32))
set_option maxRecDepth 20000 in
set_option maxHeartbeats 2000000 in
theorem c_X12_boundTo (w : TG) (n : Nat) (p1 : Int32) (σ : MS) : MC m_X12_boundTo w [.ref (wB w + 171), .int p1] σ ((f_X12_boundTo n p1 σ).map (fun r => (r, σ))) := by
  refine V_methp (by decide +kernel) (Nat.le_of_ble_eq_true rfl) (by intro v hv; simp only [List.mem_cons, List.not_mem_nil, or_false] at hv; rcases hv with rfl | rfl <;> rfl) (fun g x => ?_)
  show VV m_X12_boundTo w g 0 0 (QM m_X12_boundTo w g x) (fun b : Int32 => (b, σ) = x) 0 [some (.ref (wB w + 171)), some (.int p1), none, none] [] σ (f_X12_boundTo n p1 σ)
  have hL4 : ∀  (n0 : Nat) (a : Int32 × Int32), VV m_X12_boundTo w g 0 0 (QM m_X12_boundTo w g x) (fun b : Int32 => (b, σ) = x) 4 [some (.ref (wB w + 171)), some (.int p1), some (.int a.1), some (.int a.2)] [] σ (itr (L_X12_boundTo_4 n p1 σ) n0 a) := by
    refine V_itr (vf := fun a : Int32 × Int32 => [some (.ref (wB w + 171)), some (.int p1), some (.int a.1), some (.int a.2)]) (sf := fun a : Int32 × Int32 => σ) (fun κ4 b4 r4 a4 => ?_)
    show VV m_X12_boundTo w g 0 0 (QM m_X12_boundTo w g x) κ4 4 [some (.ref (wB w + 171)), some (.int p1), some (.int a4.1), some (.int a4.2)] [] σ (L_X12_boundTo_4 n p1 σ a4)
    have hJ34 : ∀ (v3 : Int32) (t0 : Int32) (t1 : Int32), VV m_X12_boundTo w g 0 0 (QM m_X12_boundTo w g x) κ4 34 [some (.ref (wB w + 171)), some (.int p1), none, some (.int v3)] [.int t0, .int t1] σ (J_X12_boundTo_34 n p1 v3 t0 t1 σ) := by
      intro v3 t0 t1
      refine V_ior (pc := 34) dX12_boundTo_34 ?_
      refine V_istore_n (pc := 35) (vs' := [some (.ref (wB w + 171)), some (.int p1), some (.int (t1 ||| t0)), some (.int v3)]) dX12_boundTo_35 rfl (Nat.le_of_ble_eq_true rfl) (Nat.le_of_ble_eq_true rfl) rfl ?_
      refine V_iinc (pc := 36) (v := (v3 + (1 : Int32))) (vs' := [some (.ref (wB w + 171)), some (.int p1), some (.int (t1 ||| t0)), some (.int (v3 + (1 : Int32)))]) dX12_boundTo_36 (Nat.le_of_ble_eq_true rfl) rfl rfl rfl ?_
      refine V_goto (pc := 39) (tgt := 4) dX12_boundTo_39 (by decide) ?_
      exact V_back (b4 ((t1 ||| t0), (v3 + (1 : Int32))))
    have hJ33 : ∀ (v3 : Int32) (t0 : Int32), VV m_X12_boundTo w g 0 0 (QM m_X12_boundTo w g x) κ4 33 [some (.ref (wB w + 171)), some (.int p1), none, some (.int v3)] [.int t0] σ (J_X12_boundTo_33 n p1 v3 t0 σ) := by
      intro v3 t0
      refine V_iconst (pc := 33) (v := (0 : Int32)) dX12_boundTo_33 rfl ?_
      exact hJ34 v3 (0 : Int32) t0
    refine V_iload_n (pc := 4) dX12_boundTo_4 rfl rfl ?_
    refine V_aload_n (pc := 5) dX12_boundTo_5 rfl rfl ?_
    refine V_callVpi (pc := 6) (As := []) (rest := [.int a4.2]) (c_X12_people w  σ) cw_X12_58 rfl rfl dX12_boundTo_6 kc_171 rfl ⟨Nat.le_of_ble_eq_true rfl, Nat.le_of_ble_eq_true rfl⟩ rfl rfl (Nat.le_of_ble_eq_true rfl) (Nat.le_of_ble_eq_true rfl) (Nat.le_of_ble_eq_true rfl) rfl (fun q6 => ?_)
    refine V_icmp_ge (pc := 9) (tgt := 42) dX12_boundTo_9 (by decide) ?_ ?_
    · refine V_exit r4 ?_
      refine V_iload_n (pc := 42) dX12_boundTo_42 rfl rfl ?_
      exact V_ireti (pc := 43) dX12_boundTo_43 rfl (hk := fun h => h)
    · refine V_iload_n (pc := 12) dX12_boundTo_12 rfl rfl ?_
      refine V_iload_n (pc := 13) dX12_boundTo_13 rfl rfl ?_
      refine V_iload_n (pc := 14) dX12_boundTo_14 rfl rfl ?_
      refine V_icmp_eq (pc := 15) (tgt := 33) dX12_boundTo_15 (by decide) ?_ ?_
      · refine V_sub (vs' := [some (.ref (wB w + 171)), some (.int p1), none, some (.int a4.2)]) (show vless _ _ from ⟨rfl, ⟨rfl, ⟨rfl, trivial⟩⟩⟩) rfl ?_
        exact hJ33 a4.2 a4.1
      · refine V_aload_n (pc := 18) dX12_boundTo_18 rfl rfl ?_
        refine V_iload_n (pc := 19) dX12_boundTo_19 rfl rfl ?_
        refine V_iload_n (pc := 20) dX12_boundTo_20 rfl rfl ?_
        refine V_callVpi (pc := 21) (As := [.int p1, .int a4.2]) (rest := [.int a4.1]) (c_X12_holds w p1 a4.2 σ) cw_X12_69 rfl rfl dX12_boundTo_21 kc_171 rfl ⟨Nat.le_of_ble_eq_true rfl, Nat.le_of_ble_eq_true rfl⟩ rfl rfl (Nat.le_of_ble_eq_true rfl) (Nat.le_of_ble_eq_true rfl) (Nat.le_of_ble_eq_true rfl) rfl (fun q21 => ?_)
        refine V_if_eq (pc := 24) (tgt := 33) dX12_boundTo_24 (by decide) ?_ ?_
        · refine V_sub (vs' := [some (.ref (wB w + 171)), some (.int p1), none, some (.int a4.2)]) (show vless _ _ from ⟨rfl, ⟨rfl, ⟨rfl, trivial⟩⟩⟩) rfl ?_
          exact hJ33 a4.2 a4.1
        · refine V_iconst (pc := 27) (v := (1 : Int32)) dX12_boundTo_27 rfl ?_
          refine V_iload_n (pc := 28) dX12_boundTo_28 rfl rfl ?_
          refine V_ishl (pc := 29) dX12_boundTo_29 ?_
          refine V_goto (pc := 30) (tgt := 34) dX12_boundTo_30 (by decide) ?_
          refine V_sub (vs' := [some (.ref (wB w + 171)), some (.int p1), none, some (.int a4.2)]) (show vless _ _ from ⟨rfl, ⟨rfl, ⟨rfl, trivial⟩⟩⟩) rfl ?_
          exact hJ34 a4.2 (shlI (1 : Int32) a4.2) a4.1
  refine V_iconst (pc := 0) (v := (0 : Int32)) dX12_boundTo_0 rfl ?_
  refine V_istore_n (pc := 1) (vs' := [some (.ref (wB w + 171)), some (.int p1), some (.int (0 : Int32)), none]) dX12_boundTo_1 rfl (Nat.le_of_ble_eq_true rfl) (Nat.le_of_ble_eq_true rfl) rfl ?_
  refine V_iconst (pc := 2) (v := (0 : Int32)) dX12_boundTo_2 rfl ?_
  refine V_istore_n (pc := 3) (vs' := [some (.ref (wB w + 171)), some (.int p1), some (.int (0 : Int32)), some (.int (0 : Int32))]) dX12_boundTo_3 rfl (Nat.le_of_ble_eq_true rfl) (Nat.le_of_ble_eq_true rfl) rfl ?_
  exact hL4 n ((0 : Int32), (0 : Int32))
def J_X12_mostOf_47 (n : Nat) (v1 : Int32) (v3 : Int32) (v4 : Int32) (v5 : Int32) (t0 : Int32) (σ : MS) : Option ((Int32 × Int32 × Int32) ⊕ (Int32)) := some (.inl (t0, (mxI v3 v5), (v4 + (1 : Int32))))
def J_X12_mostOf_33 (n : Nat) (v1 : Int32) (v2 : Int32) (v3 : Int32) (v4 : Int32) (t0 : Int32) (σ : MS) : Option ((Int32 × Int32 × Int32) ⊕ (Int32)) := (if t0 ≤ v3 then J_X12_mostOf_47 n v1 v3 v4 t0 v2 σ else J_X12_mostOf_47 n v1 v3 v4 t0 v4 σ)
def L_X12_mostOf_7 (n : Nat) (v1 : Int32) (σ : MS) (a7 : Int32 × Int32 × Int32) : Option ((Int32 × Int32 × Int32) ⊕ (Int32)) := ((f_X12_people  σ).bind (fun q10 => (if q10 ≤ a7.2.2 then (some a7.1).map Sum.inr else (if a7.2.2 = v1 then J_X12_mostOf_33 n v1 a7.1 a7.2.1 a7.2.2 (0 : Int32) σ else ((f_X12_bondOf v1 a7.2.2 σ).bind (fun q30 => J_X12_mostOf_33 n v1 a7.1 a7.2.1 a7.2.2 q30 σ))))))
def f_X12_mostOf (n : Nat) (p1 : Int32) (σ : MS) : Option (Int32) := itr (L_X12_mostOf_7 n p1 σ) n ((-1 : Int32), (0 : Int32), (0 : Int32))
set_option maxRecDepth 20000 in
set_option maxHeartbeats 2000000 in
theorem c_X12_mostOf (w : TG) (n : Nat) (p1 : Int32) (σ : MS) : MC m_X12_mostOf w [.ref (wB w + 171), .int p1] σ ((f_X12_mostOf n p1 σ).map (fun r => (r, σ))) := by
  refine V_methp (by decide +kernel) (Nat.le_of_ble_eq_true rfl) (by intro v hv; simp only [List.mem_cons, List.not_mem_nil, or_false] at hv; rcases hv with rfl | rfl <;> rfl) (fun g x => ?_)
  show VV m_X12_mostOf w g 0 0 (QM m_X12_mostOf w g x) (fun b : Int32 => (b, σ) = x) 0 [some (.ref (wB w + 171)), some (.int p1), none, none, none, none] [] σ (f_X12_mostOf n p1 σ)
  have hL7 : ∀  (n0 : Nat) (a : Int32 × Int32 × Int32), VV m_X12_mostOf w g 0 0 (QM m_X12_mostOf w g x) (fun b : Int32 => (b, σ) = x) 7 [some (.ref (wB w + 171)), some (.int p1), some (.int a.1), some (.int a.2.1), some (.int a.2.2), none] [] σ (itr (L_X12_mostOf_7 n p1 σ) n0 a) := by
    refine V_itr (vf := fun a : Int32 × Int32 × Int32 => [some (.ref (wB w + 171)), some (.int p1), some (.int a.1), some (.int a.2.1), some (.int a.2.2), none]) (sf := fun a : Int32 × Int32 × Int32 => σ) (fun κ7 b7 r7 a7 => ?_)
    show VV m_X12_mostOf w g 0 0 (QM m_X12_mostOf w g x) κ7 7 [some (.ref (wB w + 171)), some (.int p1), some (.int a7.1), some (.int a7.2.1), some (.int a7.2.2), none] [] σ (L_X12_mostOf_7 n p1 σ a7)
    have hJ47 : ∀ (v3 : Int32) (v4 : Int32) (v5 : Int32) (t0 : Int32), VV m_X12_mostOf w g 0 0 (QM m_X12_mostOf w g x) κ7 47 [some (.ref (wB w + 171)), some (.int p1), none, some (.int v3), some (.int v4), some (.int v5)] [.int t0] σ (J_X12_mostOf_47 n p1 v3 v4 v5 t0 σ) := by
      intro v3 v4 v5 t0
      refine V_istore_n (pc := 47) (vs' := [some (.ref (wB w + 171)), some (.int p1), some (.int t0), some (.int v3), some (.int v4), some (.int v5)]) dX12_mostOf_47 rfl (Nat.le_of_ble_eq_true rfl) (Nat.le_of_ble_eq_true rfl) rfl ?_
      refine V_iload_n (pc := 48) dX12_mostOf_48 rfl rfl ?_
      refine V_iload (pc := 49) dX12_mostOf_49 rfl ?_
      refine V_mmax (pc := 51) dX12_mostOf_51 rfl mw_X12_288 (Nat.le_of_ble_eq_true rfl) (Nat.le_of_ble_eq_true rfl) (Nat.le_of_ble_eq_true rfl) (Nat.le_of_ble_eq_true rfl) ?_
      refine V_istore_n (pc := 54) (vs' := [some (.ref (wB w + 171)), some (.int p1), some (.int t0), some (.int (mxI v3 v5)), some (.int v4), some (.int v5)]) dX12_mostOf_54 rfl (Nat.le_of_ble_eq_true rfl) (Nat.le_of_ble_eq_true rfl) rfl ?_
      refine V_iinc (pc := 55) (v := (v4 + (1 : Int32))) (vs' := [some (.ref (wB w + 171)), some (.int p1), some (.int t0), some (.int (mxI v3 v5)), some (.int (v4 + (1 : Int32))), some (.int v5)]) dX12_mostOf_55 (Nat.le_of_ble_eq_true rfl) rfl rfl rfl ?_
      refine V_goto (pc := 58) (tgt := 7) dX12_mostOf_58 (by decide) ?_
      refine V_sub (vs' := [some (.ref (wB w + 171)), some (.int p1), some (.int t0), some (.int (mxI v3 v5)), some (.int (v4 + (1 : Int32))), none]) (show vless _ _ from ⟨rfl, ⟨rfl, ⟨rfl, ⟨rfl, ⟨rfl, trivial⟩⟩⟩⟩⟩) rfl ?_
      exact V_back (b7 (t0, (mxI v3 v5), (v4 + (1 : Int32))))
    have hJ33 : ∀ (v2 : Int32) (v3 : Int32) (v4 : Int32) (t0 : Int32), VV m_X12_mostOf w g 0 0 (QM m_X12_mostOf w g x) κ7 33 [some (.ref (wB w + 171)), some (.int p1), some (.int v2), some (.int v3), some (.int v4), none] [.int t0] σ (J_X12_mostOf_33 n p1 v2 v3 v4 t0 σ) := by
      intro v2 v3 v4 t0
      refine V_istore (pc := 33) (vs' := [some (.ref (wB w + 171)), some (.int p1), some (.int v2), some (.int v3), some (.int v4), some (.int t0)]) dX12_mostOf_33 (Nat.le_of_ble_eq_true rfl) (Nat.le_of_ble_eq_true rfl) rfl ?_
      refine V_iload (pc := 35) dX12_mostOf_35 rfl ?_
      refine V_iload_n (pc := 37) dX12_mostOf_37 rfl rfl ?_
      refine V_icmp_le (pc := 38) (tgt := 46) dX12_mostOf_38 (by decide) ?_ ?_
      · refine V_iload_n (pc := 46) dX12_mostOf_46 rfl rfl ?_
        refine V_sub (vs' := [some (.ref (wB w + 171)), some (.int p1), none, some (.int v3), some (.int v4), some (.int t0)]) (show vless _ _ from ⟨rfl, ⟨rfl, ⟨rfl, ⟨rfl, ⟨rfl, trivial⟩⟩⟩⟩⟩) rfl ?_
        exact hJ47 v3 v4 t0 v2
      · refine V_iload (pc := 41) dX12_mostOf_41 rfl ?_
        refine V_goto (pc := 43) (tgt := 47) dX12_mostOf_43 (by decide) ?_
        refine V_sub (vs' := [some (.ref (wB w + 171)), some (.int p1), none, some (.int v3), some (.int v4), some (.int t0)]) (show vless _ _ from ⟨rfl, ⟨rfl, ⟨rfl, ⟨rfl, ⟨rfl, trivial⟩⟩⟩⟩⟩) rfl ?_
        exact hJ47 v3 v4 t0 v4
    refine V_iload (pc := 7) dX12_mostOf_7 rfl ?_
    refine V_aload_n (pc := 9) dX12_mostOf_9 rfl rfl ?_
    refine V_callVpi (pc := 10) (As := []) (rest := [.int a7.2.2]) (c_X12_people w  σ) cw_X12_58 rfl rfl dX12_mostOf_10 kc_171 rfl ⟨Nat.le_of_ble_eq_true rfl, Nat.le_of_ble_eq_true rfl⟩ rfl rfl (Nat.le_of_ble_eq_true rfl) (Nat.le_of_ble_eq_true rfl) (Nat.le_of_ble_eq_true rfl) rfl (fun q10 => ?_)
    refine V_icmp_ge (pc := 13) (tgt := 61) dX12_mostOf_13 (by decide) ?_ ?_
    · refine V_exit r7 ?_
      refine V_iload_n (pc := 61) dX12_mostOf_61 rfl rfl ?_
      exact V_ireti (pc := 62) dX12_mostOf_62 rfl (hk := fun h => h)
    · refine V_iload (pc := 16) dX12_mostOf_16 rfl ?_
      refine V_iload_n (pc := 18) dX12_mostOf_18 rfl rfl ?_
      refine V_icmp_ne (pc := 19) (tgt := 26) dX12_mostOf_19 (by decide) ?_ ?_
      · refine V_aload_n (pc := 26) dX12_mostOf_26 rfl rfl ?_
        refine V_iload_n (pc := 27) dX12_mostOf_27 rfl rfl ?_
        refine V_iload (pc := 28) dX12_mostOf_28 rfl ?_
        refine V_callVpi (pc := 30) (As := [.int p1, .int a7.2.2]) (rest := []) (c_X12_bondOf w p1 a7.2.2 σ) cw_X12_315 rfl rfl dX12_mostOf_30 kc_171 rfl ⟨Nat.le_of_ble_eq_true rfl, Nat.le_of_ble_eq_true rfl⟩ rfl rfl (Nat.le_of_ble_eq_true rfl) (Nat.le_of_ble_eq_true rfl) (Nat.le_of_ble_eq_true rfl) rfl (fun q30 => ?_)
        exact hJ33 a7.1 a7.2.1 a7.2.2 q30
      · refine V_iconst (pc := 22) (v := (0 : Int32)) dX12_mostOf_22 rfl ?_
        refine V_goto (pc := 23) (tgt := 33) dX12_mostOf_23 (by decide) ?_
        exact hJ33 a7.1 a7.2.1 a7.2.2 (0 : Int32)
  refine V_iconst (pc := 0) (v := (-1 : Int32)) dX12_mostOf_0 rfl ?_
  refine V_istore_n (pc := 1) (vs' := [some (.ref (wB w + 171)), some (.int p1), some (.int (-1 : Int32)), none, none, none]) dX12_mostOf_1 rfl (Nat.le_of_ble_eq_true rfl) (Nat.le_of_ble_eq_true rfl) rfl ?_
  refine V_iconst (pc := 2) (v := (0 : Int32)) dX12_mostOf_2 rfl ?_
  refine V_istore_n (pc := 3) (vs' := [some (.ref (wB w + 171)), some (.int p1), some (.int (-1 : Int32)), some (.int (0 : Int32)), none, none]) dX12_mostOf_3 rfl (Nat.le_of_ble_eq_true rfl) (Nat.le_of_ble_eq_true rfl) rfl ?_
  refine V_iconst (pc := 4) (v := (0 : Int32)) dX12_mostOf_4 rfl ?_
  refine V_istore (pc := 5) (vs' := [some (.ref (wB w + 171)), some (.int p1), some (.int (-1 : Int32)), some (.int (0 : Int32)), some (.int (0 : Int32)), none]) dX12_mostOf_5 (Nat.le_of_ble_eq_true rfl) (Nat.le_of_ble_eq_true rfl) rfl ?_
  exact hL7 n ((-1 : Int32), (0 : Int32), (0 : Int32))
def J_X12_widened_30 (n : Nat) (v1 : Int32) (v3 : Int32) (t0 : Int32) (t1 : Int32) (σ : MS) : Option ((Int32 × Int32) ⊕ (Int32)) := some (.inl ((t1 ||| t0), (v3 + (1 : Int32))))
def L_X12_widened_4 (n : Nat) (v1 : Int32) (σ : MS) (a4 : Int32 × Int32) : Option ((Int32 × Int32) ⊕ (Int32)) := ((f_X12_people  σ).bind (fun q6 => (if q6 ≤ a4.2 then (some a4.1).map Sum.inr else ((f_X12_has v1 a4.2 σ).bind (fun q15 => (if q15 = 0 then J_X12_widened_30 n v1 a4.2 (0 : Int32) a4.1 σ else ((f_X12_boundTo n a4.2 σ).bind (fun q23 => J_X12_widened_30 n v1 a4.2 q23 a4.1 σ))))))))
def f_X12_widened (n : Nat) (p1 : Int32) (σ : MS) : Option (Int32) := itr (L_X12_widened_4 n p1 σ) n (p1, (0 : Int32))
set_option maxRecDepth 20000 in
set_option maxHeartbeats 2000000 in
theorem c_X12_widened (w : TG) (n : Nat) (p1 : Int32) (σ : MS) : MC m_X12_widened w [.ref (wB w + 171), .int p1] σ ((f_X12_widened n p1 σ).map (fun r => (r, σ))) := by
  refine V_methp (by decide +kernel) (Nat.le_of_ble_eq_true rfl) (by intro v hv; simp only [List.mem_cons, List.not_mem_nil, or_false] at hv; rcases hv with rfl | rfl <;> rfl) (fun g x => ?_)
  show VV m_X12_widened w g 0 0 (QM m_X12_widened w g x) (fun b : Int32 => (b, σ) = x) 0 [some (.ref (wB w + 171)), some (.int p1), none, none] [] σ (f_X12_widened n p1 σ)
  have hL4 : ∀  (n0 : Nat) (a : Int32 × Int32), VV m_X12_widened w g 0 0 (QM m_X12_widened w g x) (fun b : Int32 => (b, σ) = x) 4 [some (.ref (wB w + 171)), some (.int p1), some (.int a.1), some (.int a.2)] [] σ (itr (L_X12_widened_4 n p1 σ) n0 a) := by
    refine V_itr (vf := fun a : Int32 × Int32 => [some (.ref (wB w + 171)), some (.int p1), some (.int a.1), some (.int a.2)]) (sf := fun a : Int32 × Int32 => σ) (fun κ4 b4 r4 a4 => ?_)
    show VV m_X12_widened w g 0 0 (QM m_X12_widened w g x) κ4 4 [some (.ref (wB w + 171)), some (.int p1), some (.int a4.1), some (.int a4.2)] [] σ (L_X12_widened_4 n p1 σ a4)
    have hJ30 : ∀ (v3 : Int32) (t0 : Int32) (t1 : Int32), VV m_X12_widened w g 0 0 (QM m_X12_widened w g x) κ4 30 [some (.ref (wB w + 171)), some (.int p1), none, some (.int v3)] [.int t0, .int t1] σ (J_X12_widened_30 n p1 v3 t0 t1 σ) := by
      intro v3 t0 t1
      refine V_ior (pc := 30) dX12_widened_30 ?_
      refine V_istore_n (pc := 31) (vs' := [some (.ref (wB w + 171)), some (.int p1), some (.int (t1 ||| t0)), some (.int v3)]) dX12_widened_31 rfl (Nat.le_of_ble_eq_true rfl) (Nat.le_of_ble_eq_true rfl) rfl ?_
      refine V_iinc (pc := 32) (v := (v3 + (1 : Int32))) (vs' := [some (.ref (wB w + 171)), some (.int p1), some (.int (t1 ||| t0)), some (.int (v3 + (1 : Int32)))]) dX12_widened_32 (Nat.le_of_ble_eq_true rfl) rfl rfl rfl ?_
      refine V_goto (pc := 35) (tgt := 4) dX12_widened_35 (by decide) ?_
      exact V_back (b4 ((t1 ||| t0), (v3 + (1 : Int32))))
    refine V_iload_n (pc := 4) dX12_widened_4 rfl rfl ?_
    refine V_aload_n (pc := 5) dX12_widened_5 rfl rfl ?_
    refine V_callVpi (pc := 6) (As := []) (rest := [.int a4.2]) (c_X12_people w  σ) cw_X12_58 rfl rfl dX12_widened_6 kc_171 rfl ⟨Nat.le_of_ble_eq_true rfl, Nat.le_of_ble_eq_true rfl⟩ rfl rfl (Nat.le_of_ble_eq_true rfl) (Nat.le_of_ble_eq_true rfl) (Nat.le_of_ble_eq_true rfl) rfl (fun q6 => ?_)
    refine V_icmp_ge (pc := 9) (tgt := 38) dX12_widened_9 (by decide) ?_ ?_
    · refine V_exit r4 ?_
      refine V_iload_n (pc := 38) dX12_widened_38 rfl rfl ?_
      exact V_ireti (pc := 39) dX12_widened_39 rfl (hk := fun h => h)
    · refine V_iload_n (pc := 12) dX12_widened_12 rfl rfl ?_
      refine V_iload_n (pc := 13) dX12_widened_13 rfl rfl ?_
      refine V_iload_n (pc := 14) dX12_widened_14 rfl rfl ?_
      refine V_callSpi (pc := 15) (As := [.int p1, .int a4.2]) (rest := [.int a4.1]) (c_X12_has w p1 a4.2 σ) cs_X12_76 rfl rfl dX12_widened_15 ⟨Nat.le_of_ble_eq_true rfl, Nat.le_of_ble_eq_true rfl⟩ rfl rfl (Nat.le_of_ble_eq_true rfl) (Nat.le_of_ble_eq_true rfl) (Nat.le_of_ble_eq_true rfl) rfl (fun q15 => ?_)
      refine V_if_eq (pc := 18) (tgt := 29) dX12_widened_18 (by decide) ?_ ?_
      · refine V_iconst (pc := 29) (v := (0 : Int32)) dX12_widened_29 rfl ?_
        refine V_sub (vs' := [some (.ref (wB w + 171)), some (.int p1), none, some (.int a4.2)]) (show vless _ _ from ⟨rfl, ⟨rfl, ⟨rfl, trivial⟩⟩⟩) rfl ?_
        exact hJ30 a4.2 (0 : Int32) a4.1
      · refine V_aload_n (pc := 21) dX12_widened_21 rfl rfl ?_
        refine V_iload_n (pc := 22) dX12_widened_22 rfl rfl ?_
        refine V_callVpi (pc := 23) (As := [.int a4.2]) (rest := [.int a4.1]) (c_X12_boundTo w n a4.2 σ) cw_X12_348 rfl rfl dX12_widened_23 kc_171 rfl ⟨Nat.le_of_ble_eq_true rfl, Nat.le_of_ble_eq_true rfl⟩ rfl rfl (Nat.le_of_ble_eq_true rfl) (Nat.le_of_ble_eq_true rfl) (Nat.le_of_ble_eq_true rfl) rfl (fun q23 => ?_)
        refine V_goto (pc := 26) (tgt := 30) dX12_widened_26 (by decide) ?_
        refine V_sub (vs' := [some (.ref (wB w + 171)), some (.int p1), none, some (.int a4.2)]) (show vless _ _ from ⟨rfl, ⟨rfl, ⟨rfl, trivial⟩⟩⟩) rfl ?_
        exact hJ30 a4.2 q23 a4.1
  refine V_iload_n (pc := 0) dX12_widened_0 rfl rfl ?_
  refine V_istore_n (pc := 1) (vs' := [some (.ref (wB w + 171)), some (.int p1), some (.int p1), none]) dX12_widened_1 rfl (Nat.le_of_ble_eq_true rfl) (Nat.le_of_ble_eq_true rfl) rfl ?_
  refine V_iconst (pc := 2) (v := (0 : Int32)) dX12_widened_2 rfl ?_
  refine V_istore_n (pc := 3) (vs' := [some (.ref (wB w + 171)), some (.int p1), some (.int p1), some (.int (0 : Int32))]) dX12_widened_3 rfl (Nat.le_of_ble_eq_true rfl) (Nat.le_of_ble_eq_true rfl) rfl ?_
  exact hL4 n (p1, (0 : Int32))
def L_X12_circleOf_6 (n : Nat)  (σ : MS) (a6 : Int32 × Int32) : Option ((Int32 × Int32) ⊕ (Int32)) := (if (8 : Int32) ≤ a6.2 then (some a6.1).map Sum.inr else ((f_X12_widened n a6.1 σ).bind (fun q14 => some (.inl (q14, (a6.2 + (1 : Int32)))))))
def f_X12_circleOf (n : Nat) (p1 : Int32) (σ : MS) : Option (Int32) := itr (L_X12_circleOf_6 n  σ) n ((shlI (1 : Int32) p1), (0 : Int32))
set_option maxRecDepth 20000 in
set_option maxHeartbeats 2000000 in
theorem c_X12_circleOf (w : TG) (n : Nat) (p1 : Int32) (σ : MS) : MC m_X12_circleOf w [.ref (wB w + 171), .int p1] σ ((f_X12_circleOf n p1 σ).map (fun r => (r, σ))) := by
  refine V_methp (by decide +kernel) (Nat.le_of_ble_eq_true rfl) (by intro v hv; simp only [List.mem_cons, List.not_mem_nil, or_false] at hv; rcases hv with rfl | rfl <;> rfl) (fun g x => ?_)
  show VV m_X12_circleOf w g 0 0 (QM m_X12_circleOf w g x) (fun b : Int32 => (b, σ) = x) 0 [some (.ref (wB w + 171)), some (.int p1), none, none] [] σ (f_X12_circleOf n p1 σ)
  have hL6 : ∀  (n0 : Nat) (a : Int32 × Int32), VV m_X12_circleOf w g 0 0 (QM m_X12_circleOf w g x) (fun b : Int32 => (b, σ) = x) 6 [some (.ref (wB w + 171)), none, some (.int a.1), some (.int a.2)] [] σ (itr (L_X12_circleOf_6 n  σ) n0 a) := by
    refine V_itr (vf := fun a : Int32 × Int32 => [some (.ref (wB w + 171)), none, some (.int a.1), some (.int a.2)]) (sf := fun a : Int32 × Int32 => σ) (fun κ6 b6 r6 a6 => ?_)
    show VV m_X12_circleOf w g 0 0 (QM m_X12_circleOf w g x) κ6 6 [some (.ref (wB w + 171)), none, some (.int a6.1), some (.int a6.2)] [] σ (L_X12_circleOf_6 n  σ a6)
    refine V_iload_n (pc := 6) dX12_circleOf_6 rfl rfl ?_
    refine V_bipush (pc := 7) (v := (8 : Int32)) dX12_circleOf_7 rfl ?_
    refine V_icmp_ge (pc := 9) (tgt := 24) dX12_circleOf_9 (by decide) ?_ ?_
    · refine V_exit r6 ?_
      refine V_iload_n (pc := 24) dX12_circleOf_24 rfl rfl ?_
      exact V_ireti (pc := 25) dX12_circleOf_25 rfl (hk := fun h => h)
    · refine V_aload_n (pc := 12) dX12_circleOf_12 rfl rfl ?_
      refine V_iload_n (pc := 13) dX12_circleOf_13 rfl rfl ?_
      refine V_callVpi (pc := 14) (As := [.int a6.1]) (rest := []) (c_X12_widened w n a6.1 σ) cw_X12_351 rfl rfl dX12_circleOf_14 kc_171 rfl ⟨Nat.le_of_ble_eq_true rfl, Nat.le_of_ble_eq_true rfl⟩ rfl rfl (Nat.le_of_ble_eq_true rfl) (Nat.le_of_ble_eq_true rfl) (Nat.le_of_ble_eq_true rfl) rfl (fun q14 => ?_)
      refine V_istore_n (pc := 17) (vs' := [some (.ref (wB w + 171)), none, some (.int q14), some (.int a6.2)]) dX12_circleOf_17 rfl (Nat.le_of_ble_eq_true rfl) (Nat.le_of_ble_eq_true rfl) rfl ?_
      refine V_iinc (pc := 18) (v := (a6.2 + (1 : Int32))) (vs' := [some (.ref (wB w + 171)), none, some (.int q14), some (.int (a6.2 + (1 : Int32)))]) dX12_circleOf_18 (Nat.le_of_ble_eq_true rfl) rfl rfl rfl ?_
      refine V_goto (pc := 21) (tgt := 6) dX12_circleOf_21 (by decide) ?_
      exact V_back (b6 (q14, (a6.2 + (1 : Int32))))
  refine V_iconst (pc := 0) (v := (1 : Int32)) dX12_circleOf_0 rfl ?_
  refine V_iload_n (pc := 1) dX12_circleOf_1 rfl rfl ?_
  refine V_ishl (pc := 2) dX12_circleOf_2 ?_
  refine V_istore_n (pc := 3) (vs' := [some (.ref (wB w + 171)), some (.int p1), some (.int (shlI (1 : Int32) p1)), none]) dX12_circleOf_3 rfl (Nat.le_of_ble_eq_true rfl) (Nat.le_of_ble_eq_true rfl) rfl ?_
  refine V_iconst (pc := 4) (v := (0 : Int32)) dX12_circleOf_4 rfl ?_
  refine V_istore_n (pc := 5) (vs' := [some (.ref (wB w + 171)), some (.int p1), some (.int (shlI (1 : Int32) p1)), some (.int (0 : Int32))]) dX12_circleOf_5 rfl (Nat.le_of_ble_eq_true rfl) (Nat.le_of_ble_eq_true rfl) rfl ?_
  refine V_sub (vs' := [some (.ref (wB w + 171)), none, some (.int (shlI (1 : Int32) p1)), some (.int (0 : Int32))]) (show vless _ _ from ⟨rfl, ⟨rfl, ⟨rfl, trivial⟩⟩⟩) rfl ?_
  exact hL6 n ((shlI (1 : Int32) p1), (0 : Int32))
def J_X12_likesMost_20 (n : Nat) (t0 : Int32) (σ : MS) : Option (Int32) := some t0
def f_X12_likesMost (n : Nat) (p1 : Int32) (σ : MS) : Option (Int32) := ((f_X12_mostOf n p1 σ).bind (fun q2 => (if 0 ≤ q2 then ((f_X12_likes p1 q2 σ).bind (fun q17 => J_X12_likesMost_20 n q17 σ)) else J_X12_likesMost_20 n (0 : Int32) σ)))
set_option maxRecDepth 20000 in
set_option maxHeartbeats 2000000 in
theorem c_X12_likesMost (w : TG) (n : Nat) (p1 : Int32) (σ : MS) : MC m_X12_likesMost w [.ref (wB w + 171), .int p1] σ ((f_X12_likesMost n p1 σ).map (fun r => (r, σ))) := by
  refine V_methp (by decide +kernel) (Nat.le_of_ble_eq_true rfl) (by intro v hv; simp only [List.mem_cons, List.not_mem_nil, or_false] at hv; rcases hv with rfl | rfl <;> rfl) (fun g x => ?_)
  show VV m_X12_likesMost w g 0 0 (QM m_X12_likesMost w g x) (fun b : Int32 => (b, σ) = x) 0 [some (.ref (wB w + 171)), some (.int p1), none] [] σ (f_X12_likesMost n p1 σ)
  have hJ20 : ∀ (t0 : Int32), VV m_X12_likesMost w g 0 0 (QM m_X12_likesMost w g x) (fun b : Int32 => (b, σ) = x) 20 [none, none, none] [.int t0] σ (J_X12_likesMost_20 n t0 σ) := by
    intro t0
    exact V_ireti (pc := 20) dX12_likesMost_20 rfl (hk := fun h => h)
  refine V_aload_n (pc := 0) dX12_likesMost_0 rfl rfl ?_
  refine V_iload_n (pc := 1) dX12_likesMost_1 rfl rfl ?_
  refine V_callVpi (pc := 2) (As := [.int p1]) (rest := []) (c_X12_mostOf w n p1 σ) cw_X12_354 rfl rfl dX12_likesMost_2 kc_171 rfl ⟨Nat.le_of_ble_eq_true rfl, Nat.le_of_ble_eq_true rfl⟩ rfl rfl (Nat.le_of_ble_eq_true rfl) (Nat.le_of_ble_eq_true rfl) (Nat.le_of_ble_eq_true rfl) rfl (fun q2 => ?_)
  refine V_istore_n (pc := 5) (vs' := [some (.ref (wB w + 171)), some (.int p1), some (.int q2)]) dX12_likesMost_5 rfl (Nat.le_of_ble_eq_true rfl) (Nat.le_of_ble_eq_true rfl) rfl ?_
  refine V_iload_n (pc := 6) dX12_likesMost_6 rfl rfl ?_
  refine V_if_ge (pc := 7) (tgt := 14) dX12_likesMost_7 (by decide) ?_ ?_
  · refine V_aload_n (pc := 14) dX12_likesMost_14 rfl rfl ?_
    refine V_iload_n (pc := 15) dX12_likesMost_15 rfl rfl ?_
    refine V_iload_n (pc := 16) dX12_likesMost_16 rfl rfl ?_
    refine V_callVpi (pc := 17) (As := [.int p1, .int q2]) (rest := []) (c_X12_likes w p1 q2 σ) cw_X12_272 rfl rfl dX12_likesMost_17 kc_171 rfl ⟨Nat.le_of_ble_eq_true rfl, Nat.le_of_ble_eq_true rfl⟩ rfl rfl (Nat.le_of_ble_eq_true rfl) (Nat.le_of_ble_eq_true rfl) (Nat.le_of_ble_eq_true rfl) rfl (fun q17 => ?_)
    refine V_sub (vs' := [none, none, none]) (show vless _ _ from trivial) rfl ?_
    exact hJ20 q17
  · refine V_iconst (pc := 10) (v := (0 : Int32)) dX12_likesMost_10 rfl ?_
    refine V_goto (pc := 11) (tgt := 20) dX12_likesMost_11 (by decide) ?_
    refine V_sub (vs' := [none, none, none]) (show vless _ _ from trivial) rfl ?_
    exact hJ20 (0 : Int32)
def J_X12_isGladder_24 (n : Nat) (t0 : Int32) (σ : MS) : Option (Int32) := (if t0 = 0 ∨ t0 = 1 then some t0 else none)
def J_X12_isGladder_23 (n : Nat)  (σ : MS) : Option (Int32) := J_X12_isGladder_24 n (0 : Int32) σ
def f_X12_isGladder (n : Nat) (p1 : Int32) (p2 : Int32) (σ : MS) : Option (Int32) := (if p1 = p2 then J_X12_isGladder_23 n  σ else ((f_X12_likes p1 p2 σ).bind (fun q8 => ((f_X12_likesMost n p1 σ).bind (fun q13 => (if q8 ≤ q13 then J_X12_isGladder_23 n  σ else J_X12_isGladder_24 n (1 : Int32) σ))))))
set_option maxRecDepth 20000 in
set_option maxHeartbeats 2000000 in
theorem c_X12_isGladder (w : TG) (n : Nat) (p1 : Int32) (p2 : Int32) (σ : MS) : MC m_X12_isGladder w [.ref (wB w + 171), .int p1, .int p2] σ ((f_X12_isGladder n p1 p2 σ).map (fun r => (r, σ))) := by
  refine V_methp (by decide +kernel) (Nat.le_of_ble_eq_true rfl) (by intro v hv; simp only [List.mem_cons, List.not_mem_nil, or_false] at hv; rcases hv with rfl | rfl | rfl <;> rfl) (fun g x => ?_)
  show VV m_X12_isGladder w g 0 0 (QM m_X12_isGladder w g x) (fun b : Int32 => (b, σ) = x) 0 [some (.ref (wB w + 171)), some (.int p1), some (.int p2)] [] σ (f_X12_isGladder n p1 p2 σ)
  have hJ24 : ∀ (t0 : Int32), VV m_X12_isGladder w g 0 0 (QM m_X12_isGladder w g x) (fun b : Int32 => (b, σ) = x) 24 [none, none, none] [.int t0] σ (J_X12_isGladder_24 n t0 σ) := by
    intro t0
    exact V_iretZ (pc := 24) dX12_isGladder_24 rfl (hk := fun h => h)
  have hJ23 : ∀ (_ : Unit), VV m_X12_isGladder w g 0 0 (QM m_X12_isGladder w g x) (fun b : Int32 => (b, σ) = x) 23 [none, none, none] [] σ (J_X12_isGladder_23 n  σ) := by
    intro _
    refine V_iconst (pc := 23) (v := (0 : Int32)) dX12_isGladder_23 rfl ?_
    exact hJ24 (0 : Int32)
  refine V_iload_n (pc := 0) dX12_isGladder_0 rfl rfl ?_
  refine V_iload_n (pc := 1) dX12_isGladder_1 rfl rfl ?_
  refine V_icmp_eq (pc := 2) (tgt := 23) dX12_isGladder_2 (by decide) ?_ ?_
  · refine V_sub (vs' := [none, none, none]) (show vless _ _ from trivial) rfl ?_
    exact hJ23 ()
  · refine V_aload_n (pc := 5) dX12_isGladder_5 rfl rfl ?_
    refine V_iload_n (pc := 6) dX12_isGladder_6 rfl rfl ?_
    refine V_iload_n (pc := 7) dX12_isGladder_7 rfl rfl ?_
    refine V_callVpi (pc := 8) (As := [.int p1, .int p2]) (rest := []) (c_X12_likes w p1 p2 σ) cw_X12_272 rfl rfl dX12_isGladder_8 kc_171 rfl ⟨Nat.le_of_ble_eq_true rfl, Nat.le_of_ble_eq_true rfl⟩ rfl rfl (Nat.le_of_ble_eq_true rfl) (Nat.le_of_ble_eq_true rfl) (Nat.le_of_ble_eq_true rfl) rfl (fun q8 => ?_)
    refine V_aload_n (pc := 11) dX12_isGladder_11 rfl rfl ?_
    refine V_iload_n (pc := 12) dX12_isGladder_12 rfl rfl ?_
    refine V_callVpi (pc := 13) (As := [.int p1]) (rest := [.int q8]) (c_X12_likesMost w n p1 σ) cw_X12_357 rfl rfl dX12_isGladder_13 kc_171 rfl ⟨Nat.le_of_ble_eq_true rfl, Nat.le_of_ble_eq_true rfl⟩ rfl rfl (Nat.le_of_ble_eq_true rfl) (Nat.le_of_ble_eq_true rfl) (Nat.le_of_ble_eq_true rfl) rfl (fun q13 => ?_)
    refine V_icmp_le (pc := 16) (tgt := 23) dX12_isGladder_16 (by decide) ?_ ?_
    · refine V_sub (vs' := [none, none, none]) (show vless _ _ from trivial) rfl ?_
      exact hJ23 ()
    · refine V_iconst (pc := 19) (v := (1 : Int32)) dX12_isGladder_19 rfl ?_
      refine V_goto (pc := 20) (tgt := 24) dX12_isGladder_20 (by decide) ?_
      refine V_sub (vs' := [none, none, none]) (show vless _ _ from trivial) rfl ?_
      exact hJ24 (1 : Int32)
def J_X12_gladderBy_29 (n : Nat) (v1 : Int32) (v3 : Int32) (t0 : Int32) (t1 : Int32) (σ : MS) : Option ((Int32 × Int32) ⊕ (Int32)) := some (.inl ((t1 ||| t0), (v3 + (1 : Int32))))
def L_X12_gladderBy_4 (n : Nat) (v1 : Int32) (σ : MS) (a4 : Int32 × Int32) : Option ((Int32 × Int32) ⊕ (Int32)) := ((f_X12_people  σ).bind (fun q6 => (if q6 ≤ a4.2 then (some a4.1).map Sum.inr else ((f_X12_isGladder n v1 a4.2 σ).bind (fun q16 => (if q16 = 0 then J_X12_gladderBy_29 n v1 a4.2 (0 : Int32) a4.1 σ else J_X12_gladderBy_29 n v1 a4.2 (shlI (1 : Int32) a4.2) a4.1 σ))))))
def f_X12_gladderBy (n : Nat) (p1 : Int32) (σ : MS) : Option (Int32) := itr (L_X12_gladderBy_4 n p1 σ) n ((0 : Int32), (0 : Int32))
set_option maxRecDepth 20000 in
set_option maxHeartbeats 2000000 in
theorem c_X12_gladderBy (w : TG) (n : Nat) (p1 : Int32) (σ : MS) : MC m_X12_gladderBy w [.ref (wB w + 171), .int p1] σ ((f_X12_gladderBy n p1 σ).map (fun r => (r, σ))) := by
  refine V_methp (by decide +kernel) (Nat.le_of_ble_eq_true rfl) (by intro v hv; simp only [List.mem_cons, List.not_mem_nil, or_false] at hv; rcases hv with rfl | rfl <;> rfl) (fun g x => ?_)
  show VV m_X12_gladderBy w g 0 0 (QM m_X12_gladderBy w g x) (fun b : Int32 => (b, σ) = x) 0 [some (.ref (wB w + 171)), some (.int p1), none, none] [] σ (f_X12_gladderBy n p1 σ)
  have hL4 : ∀  (n0 : Nat) (a : Int32 × Int32), VV m_X12_gladderBy w g 0 0 (QM m_X12_gladderBy w g x) (fun b : Int32 => (b, σ) = x) 4 [some (.ref (wB w + 171)), some (.int p1), some (.int a.1), some (.int a.2)] [] σ (itr (L_X12_gladderBy_4 n p1 σ) n0 a) := by
    refine V_itr (vf := fun a : Int32 × Int32 => [some (.ref (wB w + 171)), some (.int p1), some (.int a.1), some (.int a.2)]) (sf := fun a : Int32 × Int32 => σ) (fun κ4 b4 r4 a4 => ?_)
    show VV m_X12_gladderBy w g 0 0 (QM m_X12_gladderBy w g x) κ4 4 [some (.ref (wB w + 171)), some (.int p1), some (.int a4.1), some (.int a4.2)] [] σ (L_X12_gladderBy_4 n p1 σ a4)
    have hJ29 : ∀ (v3 : Int32) (t0 : Int32) (t1 : Int32), VV m_X12_gladderBy w g 0 0 (QM m_X12_gladderBy w g x) κ4 29 [some (.ref (wB w + 171)), some (.int p1), none, some (.int v3)] [.int t0, .int t1] σ (J_X12_gladderBy_29 n p1 v3 t0 t1 σ) := by
      intro v3 t0 t1
      refine V_ior (pc := 29) dX12_gladderBy_29 ?_
      refine V_istore_n (pc := 30) (vs' := [some (.ref (wB w + 171)), some (.int p1), some (.int (t1 ||| t0)), some (.int v3)]) dX12_gladderBy_30 rfl (Nat.le_of_ble_eq_true rfl) (Nat.le_of_ble_eq_true rfl) rfl ?_
      refine V_iinc (pc := 31) (v := (v3 + (1 : Int32))) (vs' := [some (.ref (wB w + 171)), some (.int p1), some (.int (t1 ||| t0)), some (.int (v3 + (1 : Int32)))]) dX12_gladderBy_31 (Nat.le_of_ble_eq_true rfl) rfl rfl rfl ?_
      refine V_goto (pc := 34) (tgt := 4) dX12_gladderBy_34 (by decide) ?_
      exact V_back (b4 ((t1 ||| t0), (v3 + (1 : Int32))))
    refine V_iload_n (pc := 4) dX12_gladderBy_4 rfl rfl ?_
    refine V_aload_n (pc := 5) dX12_gladderBy_5 rfl rfl ?_
    refine V_callVpi (pc := 6) (As := []) (rest := [.int a4.2]) (c_X12_people w  σ) cw_X12_58 rfl rfl dX12_gladderBy_6 kc_171 rfl ⟨Nat.le_of_ble_eq_true rfl, Nat.le_of_ble_eq_true rfl⟩ rfl rfl (Nat.le_of_ble_eq_true rfl) (Nat.le_of_ble_eq_true rfl) (Nat.le_of_ble_eq_true rfl) rfl (fun q6 => ?_)
    refine V_icmp_ge (pc := 9) (tgt := 37) dX12_gladderBy_9 (by decide) ?_ ?_
    · refine V_exit r4 ?_
      refine V_iload_n (pc := 37) dX12_gladderBy_37 rfl rfl ?_
      exact V_ireti (pc := 38) dX12_gladderBy_38 rfl (hk := fun h => h)
    · refine V_iload_n (pc := 12) dX12_gladderBy_12 rfl rfl ?_
      refine V_aload_n (pc := 13) dX12_gladderBy_13 rfl rfl ?_
      refine V_iload_n (pc := 14) dX12_gladderBy_14 rfl rfl ?_
      refine V_iload_n (pc := 15) dX12_gladderBy_15 rfl rfl ?_
      refine V_callVpi (pc := 16) (As := [.int p1, .int a4.2]) (rest := [.int a4.1]) (c_X12_isGladder w n p1 a4.2 σ) cw_X12_360 rfl rfl dX12_gladderBy_16 kc_171 rfl ⟨Nat.le_of_ble_eq_true rfl, Nat.le_of_ble_eq_true rfl⟩ rfl rfl (Nat.le_of_ble_eq_true rfl) (Nat.le_of_ble_eq_true rfl) (Nat.le_of_ble_eq_true rfl) rfl (fun q16 => ?_)
      refine V_if_eq (pc := 19) (tgt := 28) dX12_gladderBy_19 (by decide) ?_ ?_
      · refine V_iconst (pc := 28) (v := (0 : Int32)) dX12_gladderBy_28 rfl ?_
        refine V_sub (vs' := [some (.ref (wB w + 171)), some (.int p1), none, some (.int a4.2)]) (show vless _ _ from ⟨rfl, ⟨rfl, ⟨rfl, trivial⟩⟩⟩) rfl ?_
        exact hJ29 a4.2 (0 : Int32) a4.1
      · refine V_iconst (pc := 22) (v := (1 : Int32)) dX12_gladderBy_22 rfl ?_
        refine V_iload_n (pc := 23) dX12_gladderBy_23 rfl rfl ?_
        refine V_ishl (pc := 24) dX12_gladderBy_24 ?_
        refine V_goto (pc := 25) (tgt := 29) dX12_gladderBy_25 (by decide) ?_
        refine V_sub (vs' := [some (.ref (wB w + 171)), some (.int p1), none, some (.int a4.2)]) (show vless _ _ from ⟨rfl, ⟨rfl, ⟨rfl, trivial⟩⟩⟩) rfl ?_
        exact hJ29 a4.2 (shlI (1 : Int32) a4.2) a4.1
  refine V_iconst (pc := 0) (v := (0 : Int32)) dX12_gladderBy_0 rfl ?_
  refine V_istore_n (pc := 1) (vs' := [some (.ref (wB w + 171)), some (.int p1), some (.int (0 : Int32)), none]) dX12_gladderBy_1 rfl (Nat.le_of_ble_eq_true rfl) (Nat.le_of_ble_eq_true rfl) rfl ?_
  refine V_iconst (pc := 2) (v := (0 : Int32)) dX12_gladderBy_2 rfl ?_
  refine V_istore_n (pc := 3) (vs' := [some (.ref (wB w + 171)), some (.int p1), some (.int (0 : Int32)), some (.int (0 : Int32))]) dX12_gladderBy_3 rfl (Nat.le_of_ble_eq_true rfl) (Nat.le_of_ble_eq_true rfl) rfl ?_
  exact hL4 n ((0 : Int32), (0 : Int32))
def J_X12_person_41 (n : Nat)  (σ : MS) : Option (Int32 × MS) := some ((0 : Int32), σ)
def J_X12_person_34 (n : Nat) (v1 : Int32) (v2 : Int32) (t0 : Int32) (σ : MS) : Option (Int32 × MS) := ((f_X12_throwsIf t0 (2 : Int32) σ).bind (fun q35 => (if q35.1 = 0 then (if v2 = (4 : Int32) then ((f_X12_boundTo n v1 q35.2).bind (fun q78 => some (q78, q35.2))) else (if v2 = (5 : Int32) then ((f_X12_circleOf n v1 q35.2).bind (fun q84 => some (q84, q35.2))) else (if v2 = (6 : Int32) then ((f_X12_gladderBy n v1 q35.2).bind (fun q90 => some (q90, q35.2))) else (if v2 = (7 : Int32) then ((f_X12_mostOf n v1 q35.2).bind (fun q96 => some (q96, q35.2))) else ((f_X12_of v1 v2 q35.2).bind (fun q103 => some (q103, q35.2))))))) else J_X12_person_41 n  q35.2)))
def f_X12_person (n : Nat) (p1 : Int32) (p2 : Int32) (σ : MS) : Option (Int32 × MS) := (ltM (mu σ 171 0 (0 : Int32)) (fun s2 => ((f_X12_noPerson p1 s2).bind (fun q8 => ((f_X12_throwsIf q8 (1 : Int32) s2).bind (fun q12 => (if q12.1 = 0 then ((f_X12_in p2 (0 : Int32) (7 : Int32) q12.2).bind (fun q23 => (if q23 = 0 then J_X12_person_34 n p1 p2 (1 : Int32) q12.2 else J_X12_person_34 n p1 p2 (0 : Int32) q12.2))) else J_X12_person_41 n  q12.2)))))))
set_option maxRecDepth 20000 in
set_option maxHeartbeats 2000000 in
theorem c_X12_person (w : TG) (n : Nat) (p1 : Int32) (p2 : Int32) (σ : MS) : MC m_X12_person w [.ref (wB w + 171), .int p1, .int p2] σ (f_X12_person n p1 p2 σ) := by
  refine V_meth (by decide +kernel) (Nat.le_of_ble_eq_true rfl) (by intro v hv; simp only [List.mem_cons, List.not_mem_nil, or_false] at hv; rcases hv with rfl | rfl | rfl <;> rfl) (fun g x => ?_)
  show VV m_X12_person w g 0 0 (QM m_X12_person w g x) (fun b : Int32 × MS => b = x) 0 [some (.ref (wB w + 171)), some (.int p1), some (.int p2)] [] σ (f_X12_person n p1 p2 σ)
  have hJ41 : ∀ (σ : MS), VV m_X12_person w g 0 0 (QM m_X12_person w g x) (fun b : Int32 × MS => b = x) 41 [none, none, none] [] σ (J_X12_person_41 n  σ) := by
    intro σ
    refine V_iconst (pc := 41) (v := (0 : Int32)) dX12_person_41 rfl ?_
    exact V_ireti (pc := 42) dX12_person_42 rfl (hk := fun h => h)
  have hJ34 : ∀ (t0 : Int32) (σ : MS), VV m_X12_person w g 0 0 (QM m_X12_person w g x) (fun b : Int32 × MS => b = x) 34 [some (.ref (wB w + 171)), some (.int p1), some (.int p2)] [.int t0, .ref (wB w + 171)] σ (J_X12_person_34 n p1 p2 t0 σ) := by
    intro t0 σ
    refine V_iconst (pc := 34) (v := (2 : Int32)) dX12_person_34 rfl ?_
    refine V_callVi (pc := 35) (As := [.int t0, .int (2 : Int32)]) (rest := []) (c_X12_throwsIf w t0 (2 : Int32) σ) cw_X12_257 rfl rfl dX12_person_35 kc_171 rfl ⟨Nat.le_of_ble_eq_true rfl, Nat.le_of_ble_eq_true rfl⟩ rfl rfl (Nat.le_of_ble_eq_true rfl) (Nat.le_of_ble_eq_true rfl) (Nat.le_of_ble_eq_true rfl) rfl (fun q35 => ?_)
    refine V_if_eq (pc := 38) (tgt := 43) dX12_person_38 (by decide) ?_ ?_
    · refine V_iload_n (pc := 43) dX12_person_43 rfl rfl ?_
      refine V_ite (c := p2 = (4 : Int32)) (fun hx => ?_) (fun hx4 => ?_)
      · refine V_tabIn (pc := 44) (x := p2) (tgt := 76) dX12_person_44 (by rw [hx]; decide) (by rw [hx]; decide) (by rw [hx]; rfl) (by decide) ?_
        refine V_aload_n (pc := 76) dX12_person_76 rfl rfl ?_
        refine V_iload_n (pc := 77) dX12_person_77 rfl rfl ?_
        refine V_callVpi (pc := 78) (As := [.int p1]) (rest := []) (c_X12_boundTo w n p1 q35.2) cw_X12_348 rfl rfl dX12_person_78 kc_171 rfl ⟨Nat.le_of_ble_eq_true rfl, Nat.le_of_ble_eq_true rfl⟩ rfl rfl (Nat.le_of_ble_eq_true rfl) (Nat.le_of_ble_eq_true rfl) (Nat.le_of_ble_eq_true rfl) rfl (fun q78 => ?_)
        exact V_ireti (pc := 81) dX12_person_81 rfl (hk := fun h => h)
      refine V_ite (c := p2 = (5 : Int32)) (fun hx => ?_) (fun hx5 => ?_)
      · refine V_tabIn (pc := 44) (x := p2) (tgt := 82) dX12_person_44 (by rw [hx]; decide) (by rw [hx]; decide) (by rw [hx]; rfl) (by decide) ?_
        refine V_aload_n (pc := 82) dX12_person_82 rfl rfl ?_
        refine V_iload_n (pc := 83) dX12_person_83 rfl rfl ?_
        refine V_callVpi (pc := 84) (As := [.int p1]) (rest := []) (c_X12_circleOf w n p1 q35.2) cw_X12_363 rfl rfl dX12_person_84 kc_171 rfl ⟨Nat.le_of_ble_eq_true rfl, Nat.le_of_ble_eq_true rfl⟩ rfl rfl (Nat.le_of_ble_eq_true rfl) (Nat.le_of_ble_eq_true rfl) (Nat.le_of_ble_eq_true rfl) rfl (fun q84 => ?_)
        exact V_ireti (pc := 87) dX12_person_87 rfl (hk := fun h => h)
      refine V_ite (c := p2 = (6 : Int32)) (fun hx => ?_) (fun hx6 => ?_)
      · refine V_tabIn (pc := 44) (x := p2) (tgt := 88) dX12_person_44 (by rw [hx]; decide) (by rw [hx]; decide) (by rw [hx]; rfl) (by decide) ?_
        refine V_aload_n (pc := 88) dX12_person_88 rfl rfl ?_
        refine V_iload_n (pc := 89) dX12_person_89 rfl rfl ?_
        refine V_callVpi (pc := 90) (As := [.int p1]) (rest := []) (c_X12_gladderBy w n p1 q35.2) cw_X12_366 rfl rfl dX12_person_90 kc_171 rfl ⟨Nat.le_of_ble_eq_true rfl, Nat.le_of_ble_eq_true rfl⟩ rfl rfl (Nat.le_of_ble_eq_true rfl) (Nat.le_of_ble_eq_true rfl) (Nat.le_of_ble_eq_true rfl) rfl (fun q90 => ?_)
        exact V_ireti (pc := 93) dX12_person_93 rfl (hk := fun h => h)
      refine V_ite (c := p2 = (7 : Int32)) (fun hx => ?_) (fun hx7 => ?_)
      · refine V_tabIn (pc := 44) (x := p2) (tgt := 94) dX12_person_44 (by rw [hx]; decide) (by rw [hx]; decide) (by rw [hx]; rfl) (by decide) ?_
        refine V_aload_n (pc := 94) dX12_person_94 rfl rfl ?_
        refine V_iload_n (pc := 95) dX12_person_95 rfl rfl ?_
        refine V_callVpi (pc := 96) (As := [.int p1]) (rest := []) (c_X12_mostOf w n p1 q35.2) cw_X12_354 rfl rfl dX12_person_96 kc_171 rfl ⟨Nat.le_of_ble_eq_true rfl, Nat.le_of_ble_eq_true rfl⟩ rfl rfl (Nat.le_of_ble_eq_true rfl) (Nat.le_of_ble_eq_true rfl) (Nat.le_of_ble_eq_true rfl) rfl (fun q96 => ?_)
        exact V_ireti (pc := 99) dX12_person_99 rfl (hk := fun h => h)
      refine V_tabOut (pc := 44) (tgt := 100) dX12_person_44 (tabout p2 4 7 (by decide) (by decide) (fun k h1 h2 => ?_)) (by decide) ?_
      · rcases (show k = 4 ∨ k = 5 ∨ k = 6 ∨ k = 7 by omega) with rfl | rfl | rfl | rfl
        · exact hx4
        · exact hx5
        · exact hx6
        · exact hx7
      · refine V_aload_n (pc := 100) dX12_person_100 rfl rfl ?_
        refine V_iload_n (pc := 101) dX12_person_101 rfl rfl ?_
        refine V_iload_n (pc := 102) dX12_person_102 rfl rfl ?_
        refine V_callVpi (pc := 103) (As := [.int p1, .int p2]) (rest := []) (c_X12_of w p1 p2 q35.2) cw_X12_73 rfl rfl dX12_person_103 kc_171 rfl ⟨Nat.le_of_ble_eq_true rfl, Nat.le_of_ble_eq_true rfl⟩ rfl rfl (Nat.le_of_ble_eq_true rfl) (Nat.le_of_ble_eq_true rfl) (Nat.le_of_ble_eq_true rfl) rfl (fun q103 => ?_)
        exact V_ireti (pc := 106) dX12_person_106 rfl (hk := fun h => h)
    · refine V_sub (vs' := [none, none, none]) (show vless _ _ from trivial) rfl ?_
      exact hJ41 q35.2
  refine V_aload_n (pc := 0) dX12_person_0 rfl rfl ?_
  refine V_iconst (pc := 1) (v := (0 : Int32)) dX12_person_1 rfl ?_
  refine V_puti (pc := 2) fp_X12_3 rfl dX12_person_2 kc_171 rfl (fun s2 => ?_)
  refine V_aload_n (pc := 5) dX12_person_5 rfl rfl ?_
  refine V_aload_n (pc := 6) dX12_person_6 rfl rfl ?_
  refine V_iload_n (pc := 7) dX12_person_7 rfl rfl ?_
  refine V_callVpi (pc := 8) (As := [.int p1]) (rest := [.ref (wB w + 171)]) (c_X12_noPerson w p1 s2) cw_X12_297 rfl rfl dX12_person_8 kc_171 rfl ⟨Nat.le_of_ble_eq_true rfl, Nat.le_of_ble_eq_true rfl⟩ rfl rfl (Nat.le_of_ble_eq_true rfl) (Nat.le_of_ble_eq_true rfl) (Nat.le_of_ble_eq_true rfl) rfl (fun q8 => ?_)
  refine V_iconst (pc := 11) (v := (1 : Int32)) dX12_person_11 rfl ?_
  refine V_callVi (pc := 12) (As := [.int q8, .int (1 : Int32)]) (rest := []) (c_X12_throwsIf w q8 (1 : Int32) s2) cw_X12_257 rfl rfl dX12_person_12 kc_171 rfl ⟨Nat.le_of_ble_eq_true rfl, Nat.le_of_ble_eq_true rfl⟩ rfl rfl (Nat.le_of_ble_eq_true rfl) (Nat.le_of_ble_eq_true rfl) (Nat.le_of_ble_eq_true rfl) rfl (fun q12 => ?_)
  refine V_if_ne (pc := 15) (tgt := 41) dX12_person_15 (by decide) ?_ ?_
  · refine V_sub (vs' := [none, none, none]) (show vless _ _ from trivial) rfl ?_
    exact hJ41 q12.2
  · refine V_aload_n (pc := 18) dX12_person_18 rfl rfl ?_
    refine V_iload_n (pc := 19) dX12_person_19 rfl rfl ?_
    refine V_iconst (pc := 20) (v := (0 : Int32)) dX12_person_20 rfl ?_
    refine V_bipush (pc := 21) (v := (7 : Int32)) dX12_person_21 rfl ?_
    refine V_callSpi (pc := 23) (As := [.int p2, .int (0 : Int32), .int (7 : Int32)]) (rest := [.ref (wB w + 171)]) (c_X12_in w p2 (0 : Int32) (7 : Int32) q12.2) cs_X12_79 rfl rfl dX12_person_23 ⟨Nat.le_of_ble_eq_true rfl, Nat.le_of_ble_eq_true rfl⟩ rfl rfl (Nat.le_of_ble_eq_true rfl) (Nat.le_of_ble_eq_true rfl) (Nat.le_of_ble_eq_true rfl) rfl (fun q23 => ?_)
    refine V_if_ne (pc := 26) (tgt := 33) dX12_person_26 (by decide) ?_ ?_
    · refine V_iconst (pc := 33) (v := (0 : Int32)) dX12_person_33 rfl ?_
      exact hJ34 (0 : Int32) q12.2
    · refine V_iconst (pc := 29) (v := (1 : Int32)) dX12_person_29 rfl ?_
      refine V_goto (pc := 30) (tgt := 34) dX12_person_30 (by decide) ?_
      exact hJ34 (1 : Int32) q12.2
def J_X12_liking_47 (t0 : Int32) (σ : MS) : Option (Int32 × MS) := some (t0, σ)
def J_X12_liking_37  (σ : MS) : Option (Int32 × MS) := J_X12_liking_47 (0 : Int32) σ
def J_X12_liking_30 (v1 : Int32) (v2 : Int32) (t0 : Int32) (σ : MS) : Option (Int32 × MS) := ((f_X12_throwsIf t0 (2 : Int32) σ).bind (fun q31 => (if q31.1 = 0 then ((f_X12_likes v1 v2 q31.2).bind (fun q44 => J_X12_liking_47 q44 q31.2)) else J_X12_liking_37  q31.2)))
def f_X12_liking (p1 : Int32) (p2 : Int32) (σ : MS) : Option (Int32 × MS) := (ltM (mu σ 171 0 (0 : Int32)) (fun s2 => ((f_X12_noBoth p1 p2 s2).bind (fun q9 => ((f_X12_throwsIf q9 (1 : Int32) s2).bind (fun q13 => (if q13.1 = 0 then (if p1 = p2 then J_X12_liking_30 p1 p2 (1 : Int32) q13.2 else J_X12_liking_30 p1 p2 (0 : Int32) q13.2) else J_X12_liking_37  q13.2)))))))
set_option maxRecDepth 20000 in
set_option maxHeartbeats 2000000 in
theorem c_X12_liking (w : TG) (p1 : Int32) (p2 : Int32) (σ : MS) : MC m_X12_liking w [.ref (wB w + 171), .int p1, .int p2] σ (f_X12_liking p1 p2 σ) := by
  refine V_meth (by decide +kernel) (Nat.le_of_ble_eq_true rfl) (by intro v hv; simp only [List.mem_cons, List.not_mem_nil, or_false] at hv; rcases hv with rfl | rfl | rfl <;> rfl) (fun g x => ?_)
  show VV m_X12_liking w g 0 0 (QM m_X12_liking w g x) (fun b : Int32 × MS => b = x) 0 [some (.ref (wB w + 171)), some (.int p1), some (.int p2)] [] σ (f_X12_liking p1 p2 σ)
  have hJ47 : ∀ (t0 : Int32) (σ : MS), VV m_X12_liking w g 0 0 (QM m_X12_liking w g x) (fun b : Int32 × MS => b = x) 47 [none, none, none] [.int t0] σ (J_X12_liking_47 t0 σ) := by
    intro t0 σ
    exact V_ireti (pc := 47) dX12_liking_47 rfl (hk := fun h => h)
  have hJ37 : ∀ (σ : MS), VV m_X12_liking w g 0 0 (QM m_X12_liking w g x) (fun b : Int32 × MS => b = x) 37 [none, none, none] [] σ (J_X12_liking_37  σ) := by
    intro σ
    refine V_iconst (pc := 37) (v := (0 : Int32)) dX12_liking_37 rfl ?_
    refine V_goto (pc := 38) (tgt := 47) dX12_liking_38 (by decide) ?_
    exact hJ47 (0 : Int32) σ
  have hJ30 : ∀ (t0 : Int32) (σ : MS), VV m_X12_liking w g 0 0 (QM m_X12_liking w g x) (fun b : Int32 × MS => b = x) 30 [some (.ref (wB w + 171)), some (.int p1), some (.int p2)] [.int t0, .ref (wB w + 171)] σ (J_X12_liking_30 p1 p2 t0 σ) := by
    intro t0 σ
    refine V_iconst (pc := 30) (v := (2 : Int32)) dX12_liking_30 rfl ?_
    refine V_callVi (pc := 31) (As := [.int t0, .int (2 : Int32)]) (rest := []) (c_X12_throwsIf w t0 (2 : Int32) σ) cw_X12_257 rfl rfl dX12_liking_31 kc_171 rfl ⟨Nat.le_of_ble_eq_true rfl, Nat.le_of_ble_eq_true rfl⟩ rfl rfl (Nat.le_of_ble_eq_true rfl) (Nat.le_of_ble_eq_true rfl) (Nat.le_of_ble_eq_true rfl) rfl (fun q31 => ?_)
    refine V_if_eq (pc := 34) (tgt := 41) dX12_liking_34 (by decide) ?_ ?_
    · refine V_aload_n (pc := 41) dX12_liking_41 rfl rfl ?_
      refine V_iload_n (pc := 42) dX12_liking_42 rfl rfl ?_
      refine V_iload_n (pc := 43) dX12_liking_43 rfl rfl ?_
      refine V_callVpi (pc := 44) (As := [.int p1, .int p2]) (rest := []) (c_X12_likes w p1 p2 q31.2) cw_X12_272 rfl rfl dX12_liking_44 kc_171 rfl ⟨Nat.le_of_ble_eq_true rfl, Nat.le_of_ble_eq_true rfl⟩ rfl rfl (Nat.le_of_ble_eq_true rfl) (Nat.le_of_ble_eq_true rfl) (Nat.le_of_ble_eq_true rfl) rfl (fun q44 => ?_)
      refine V_sub (vs' := [none, none, none]) (show vless _ _ from trivial) rfl ?_
      exact hJ47 q44 q31.2
    · refine V_sub (vs' := [none, none, none]) (show vless _ _ from trivial) rfl ?_
      exact hJ37 q31.2
  refine V_aload_n (pc := 0) dX12_liking_0 rfl rfl ?_
  refine V_iconst (pc := 1) (v := (0 : Int32)) dX12_liking_1 rfl ?_
  refine V_puti (pc := 2) fp_X12_3 rfl dX12_liking_2 kc_171 rfl (fun s2 => ?_)
  refine V_aload_n (pc := 5) dX12_liking_5 rfl rfl ?_
  refine V_aload_n (pc := 6) dX12_liking_6 rfl rfl ?_
  refine V_iload_n (pc := 7) dX12_liking_7 rfl rfl ?_
  refine V_iload_n (pc := 8) dX12_liking_8 rfl rfl ?_
  refine V_callVpi (pc := 9) (As := [.int p1, .int p2]) (rest := [.ref (wB w + 171)]) (c_X12_noBoth w p1 p2 s2) cw_X12_300 rfl rfl dX12_liking_9 kc_171 rfl ⟨Nat.le_of_ble_eq_true rfl, Nat.le_of_ble_eq_true rfl⟩ rfl rfl (Nat.le_of_ble_eq_true rfl) (Nat.le_of_ble_eq_true rfl) (Nat.le_of_ble_eq_true rfl) rfl (fun q9 => ?_)
  refine V_iconst (pc := 12) (v := (1 : Int32)) dX12_liking_12 rfl ?_
  refine V_callVi (pc := 13) (As := [.int q9, .int (1 : Int32)]) (rest := []) (c_X12_throwsIf w q9 (1 : Int32) s2) cw_X12_257 rfl rfl dX12_liking_13 kc_171 rfl ⟨Nat.le_of_ble_eq_true rfl, Nat.le_of_ble_eq_true rfl⟩ rfl rfl (Nat.le_of_ble_eq_true rfl) (Nat.le_of_ble_eq_true rfl) (Nat.le_of_ble_eq_true rfl) rfl (fun q13 => ?_)
  refine V_if_ne (pc := 16) (tgt := 37) dX12_liking_16 (by decide) ?_ ?_
  · refine V_sub (vs' := [none, none, none]) (show vless _ _ from trivial) rfl ?_
    exact hJ37 q13.2
  · refine V_aload_n (pc := 19) dX12_liking_19 rfl rfl ?_
    refine V_iload_n (pc := 20) dX12_liking_20 rfl rfl ?_
    refine V_iload_n (pc := 21) dX12_liking_21 rfl rfl ?_
    refine V_icmp_ne (pc := 22) (tgt := 29) dX12_liking_22 (by decide) ?_ ?_
    · refine V_iconst (pc := 29) (v := (0 : Int32)) dX12_liking_29 rfl ?_
      exact hJ30 (0 : Int32) q13.2
    · refine V_iconst (pc := 25) (v := (1 : Int32)) dX12_liking_25 rfl ?_
      refine V_goto (pc := 26) (tgt := 30) dX12_liking_26 (by decide) ?_
      exact hJ30 (1 : Int32) q13.2
