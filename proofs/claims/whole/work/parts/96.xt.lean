/-! what the law's entry gives: String constants, statics, exceptions -/
def stm (i : Nat) : Term := Term.string (strT.getD i ("", 0, "", 0)).1 (strT.getD i ("", 0, "", 0)).2.1
abbrev Fgn : List Cond := flatC (Jvm.Cond.and given_1 narrow_1)
theorem st_1 : ∀ i, i < 33 → Cond.exactly (stm i) "java/lang/String" ∈ Fgn := by decide +kernel
theorem st_2 : ∀ i, i < 33 → Cond.eq (.field (stm i) "java/lang/String" "coder" "B") (.int 0) ∈ Fgn := by decide +kernel
theorem st_3 : ∀ i, i < 33 → Cond.arrayOf (.field (stm i) "java/lang/String" "value" "[B") .byte ∈ Fgn := by decide +kernel
theorem st_4 : ∀ i, i < 33 → Cond.eq (.length (.field (stm i) "java/lang/String" "value" "[B")) (.int (Int32.ofNat (stL.getD i 0))) ∈ Fgn := by decide +kernel
def stb : List Nat := [259, 317, 249, 266, 275, 282, 291, 300, 309, 326, 384, 391, 400, 407, 415, 375, 367, 425, 433, 333, 341, 349, 360, 95, 142, 148, 156, 177, 236, 243, 183, 190, 203]
theorem st5_0 : ∀ j, j < stL.getD 0 0 → Fgn[stb.getD 0 0 + j]? = some (Cond.eq (.elem (.field (stm 0) "java/lang/String" "value" "[B") (.int (Int32.ofNat j))) (.int ((stB.getD 0 []).getD j 0))) := by decide +kernel
theorem st5_1 : ∀ j, j < stL.getD 1 0 → Fgn[stb.getD 1 0 + j]? = some (Cond.eq (.elem (.field (stm 1) "java/lang/String" "value" "[B") (.int (Int32.ofNat j))) (.int ((stB.getD 1 []).getD j 0))) := by decide +kernel
theorem st5_2 : ∀ j, j < stL.getD 2 0 → Fgn[stb.getD 2 0 + j]? = some (Cond.eq (.elem (.field (stm 2) "java/lang/String" "value" "[B") (.int (Int32.ofNat j))) (.int ((stB.getD 2 []).getD j 0))) := by decide +kernel
theorem st5_3 : ∀ j, j < stL.getD 3 0 → Fgn[stb.getD 3 0 + j]? = some (Cond.eq (.elem (.field (stm 3) "java/lang/String" "value" "[B") (.int (Int32.ofNat j))) (.int ((stB.getD 3 []).getD j 0))) := by decide +kernel
theorem st5_4 : ∀ j, j < stL.getD 4 0 → Fgn[stb.getD 4 0 + j]? = some (Cond.eq (.elem (.field (stm 4) "java/lang/String" "value" "[B") (.int (Int32.ofNat j))) (.int ((stB.getD 4 []).getD j 0))) := by decide +kernel
theorem st5_5 : ∀ j, j < stL.getD 5 0 → Fgn[stb.getD 5 0 + j]? = some (Cond.eq (.elem (.field (stm 5) "java/lang/String" "value" "[B") (.int (Int32.ofNat j))) (.int ((stB.getD 5 []).getD j 0))) := by decide +kernel
theorem st5_6 : ∀ j, j < stL.getD 6 0 → Fgn[stb.getD 6 0 + j]? = some (Cond.eq (.elem (.field (stm 6) "java/lang/String" "value" "[B") (.int (Int32.ofNat j))) (.int ((stB.getD 6 []).getD j 0))) := by decide +kernel
theorem st5_7 : ∀ j, j < stL.getD 7 0 → Fgn[stb.getD 7 0 + j]? = some (Cond.eq (.elem (.field (stm 7) "java/lang/String" "value" "[B") (.int (Int32.ofNat j))) (.int ((stB.getD 7 []).getD j 0))) := by decide +kernel
theorem st5_8 : ∀ j, j < stL.getD 8 0 → Fgn[stb.getD 8 0 + j]? = some (Cond.eq (.elem (.field (stm 8) "java/lang/String" "value" "[B") (.int (Int32.ofNat j))) (.int ((stB.getD 8 []).getD j 0))) := by decide +kernel
theorem st5_9 : ∀ j, j < stL.getD 9 0 → Fgn[stb.getD 9 0 + j]? = some (Cond.eq (.elem (.field (stm 9) "java/lang/String" "value" "[B") (.int (Int32.ofNat j))) (.int ((stB.getD 9 []).getD j 0))) := by decide +kernel
theorem st5_10 : ∀ j, j < stL.getD 10 0 → Fgn[stb.getD 10 0 + j]? = some (Cond.eq (.elem (.field (stm 10) "java/lang/String" "value" "[B") (.int (Int32.ofNat j))) (.int ((stB.getD 10 []).getD j 0))) := by decide +kernel
theorem st5_11 : ∀ j, j < stL.getD 11 0 → Fgn[stb.getD 11 0 + j]? = some (Cond.eq (.elem (.field (stm 11) "java/lang/String" "value" "[B") (.int (Int32.ofNat j))) (.int ((stB.getD 11 []).getD j 0))) := by decide +kernel
theorem st5_12 : ∀ j, j < stL.getD 12 0 → Fgn[stb.getD 12 0 + j]? = some (Cond.eq (.elem (.field (stm 12) "java/lang/String" "value" "[B") (.int (Int32.ofNat j))) (.int ((stB.getD 12 []).getD j 0))) := by decide +kernel
theorem st5_13 : ∀ j, j < stL.getD 13 0 → Fgn[stb.getD 13 0 + j]? = some (Cond.eq (.elem (.field (stm 13) "java/lang/String" "value" "[B") (.int (Int32.ofNat j))) (.int ((stB.getD 13 []).getD j 0))) := by decide +kernel
theorem st5_14 : ∀ j, j < stL.getD 14 0 → Fgn[stb.getD 14 0 + j]? = some (Cond.eq (.elem (.field (stm 14) "java/lang/String" "value" "[B") (.int (Int32.ofNat j))) (.int ((stB.getD 14 []).getD j 0))) := by decide +kernel
theorem st5_15 : ∀ j, j < stL.getD 15 0 → Fgn[stb.getD 15 0 + j]? = some (Cond.eq (.elem (.field (stm 15) "java/lang/String" "value" "[B") (.int (Int32.ofNat j))) (.int ((stB.getD 15 []).getD j 0))) := by decide +kernel
theorem st5_16 : ∀ j, j < stL.getD 16 0 → Fgn[stb.getD 16 0 + j]? = some (Cond.eq (.elem (.field (stm 16) "java/lang/String" "value" "[B") (.int (Int32.ofNat j))) (.int ((stB.getD 16 []).getD j 0))) := by decide +kernel
theorem st5_17 : ∀ j, j < stL.getD 17 0 → Fgn[stb.getD 17 0 + j]? = some (Cond.eq (.elem (.field (stm 17) "java/lang/String" "value" "[B") (.int (Int32.ofNat j))) (.int ((stB.getD 17 []).getD j 0))) := by decide +kernel
theorem st5_18 : ∀ j, j < stL.getD 18 0 → Fgn[stb.getD 18 0 + j]? = some (Cond.eq (.elem (.field (stm 18) "java/lang/String" "value" "[B") (.int (Int32.ofNat j))) (.int ((stB.getD 18 []).getD j 0))) := by decide +kernel
theorem st5_19 : ∀ j, j < stL.getD 19 0 → Fgn[stb.getD 19 0 + j]? = some (Cond.eq (.elem (.field (stm 19) "java/lang/String" "value" "[B") (.int (Int32.ofNat j))) (.int ((stB.getD 19 []).getD j 0))) := by decide +kernel
theorem st5_20 : ∀ j, j < stL.getD 20 0 → Fgn[stb.getD 20 0 + j]? = some (Cond.eq (.elem (.field (stm 20) "java/lang/String" "value" "[B") (.int (Int32.ofNat j))) (.int ((stB.getD 20 []).getD j 0))) := by decide +kernel
theorem st5_21 : ∀ j, j < stL.getD 21 0 → Fgn[stb.getD 21 0 + j]? = some (Cond.eq (.elem (.field (stm 21) "java/lang/String" "value" "[B") (.int (Int32.ofNat j))) (.int ((stB.getD 21 []).getD j 0))) := by decide +kernel
theorem st5_22 : ∀ j, j < stL.getD 22 0 → Fgn[stb.getD 22 0 + j]? = some (Cond.eq (.elem (.field (stm 22) "java/lang/String" "value" "[B") (.int (Int32.ofNat j))) (.int ((stB.getD 22 []).getD j 0))) := by decide +kernel
theorem st5_23 : ∀ j, j < stL.getD 23 0 → Fgn[stb.getD 23 0 + j]? = some (Cond.eq (.elem (.field (stm 23) "java/lang/String" "value" "[B") (.int (Int32.ofNat j))) (.int ((stB.getD 23 []).getD j 0))) := by decide +kernel
theorem st5_24 : ∀ j, j < stL.getD 24 0 → Fgn[stb.getD 24 0 + j]? = some (Cond.eq (.elem (.field (stm 24) "java/lang/String" "value" "[B") (.int (Int32.ofNat j))) (.int ((stB.getD 24 []).getD j 0))) := by decide +kernel
theorem st5_25 : ∀ j, j < stL.getD 25 0 → Fgn[stb.getD 25 0 + j]? = some (Cond.eq (.elem (.field (stm 25) "java/lang/String" "value" "[B") (.int (Int32.ofNat j))) (.int ((stB.getD 25 []).getD j 0))) := by decide +kernel
theorem st5_26 : ∀ j, j < stL.getD 26 0 → Fgn[stb.getD 26 0 + j]? = some (Cond.eq (.elem (.field (stm 26) "java/lang/String" "value" "[B") (.int (Int32.ofNat j))) (.int ((stB.getD 26 []).getD j 0))) := by decide +kernel
theorem st5_27 : ∀ j, j < stL.getD 27 0 → Fgn[stb.getD 27 0 + j]? = some (Cond.eq (.elem (.field (stm 27) "java/lang/String" "value" "[B") (.int (Int32.ofNat j))) (.int ((stB.getD 27 []).getD j 0))) := by decide +kernel
theorem st5_28 : ∀ j, j < stL.getD 28 0 → Fgn[stb.getD 28 0 + j]? = some (Cond.eq (.elem (.field (stm 28) "java/lang/String" "value" "[B") (.int (Int32.ofNat j))) (.int ((stB.getD 28 []).getD j 0))) := by decide +kernel
theorem st5_29 : ∀ j, j < stL.getD 29 0 → Fgn[stb.getD 29 0 + j]? = some (Cond.eq (.elem (.field (stm 29) "java/lang/String" "value" "[B") (.int (Int32.ofNat j))) (.int ((stB.getD 29 []).getD j 0))) := by decide +kernel
theorem st5_30 : ∀ j, j < stL.getD 30 0 → Fgn[stb.getD 30 0 + j]? = some (Cond.eq (.elem (.field (stm 30) "java/lang/String" "value" "[B") (.int (Int32.ofNat j))) (.int ((stB.getD 30 []).getD j 0))) := by decide +kernel
theorem st5_31 : ∀ j, j < stL.getD 31 0 → Fgn[stb.getD 31 0 + j]? = some (Cond.eq (.elem (.field (stm 31) "java/lang/String" "value" "[B") (.int (Int32.ofNat j))) (.int ((stB.getD 31 []).getD j 0))) := by decide +kernel
theorem st5_32 : ∀ j, j < stL.getD 32 0 → Fgn[stb.getD 32 0 + j]? = some (Cond.eq (.elem (.field (stm 32) "java/lang/String" "value" "[B") (.int (Int32.ofNat j))) (.int ((stB.getD 32 []).getD j 0))) := by decide +kernel
theorem st_5 : ∀ i, i < 33 → ∀ j, j < stL.getD i 0 → Cond.eq (.elem (.field (stm i) "java/lang/String" "value" "[B") (.int (Int32.ofNat j))) (.int ((stB.getD i []).getD j 0)) ∈ Fgn := by
  intro i hi
  match i, hi with
  | 0, _ => exact fun j hj => List.mem_of_getElem? (st5_0 j hj)
  | 1, _ => exact fun j hj => List.mem_of_getElem? (st5_1 j hj)
  | 2, _ => exact fun j hj => List.mem_of_getElem? (st5_2 j hj)
  | 3, _ => exact fun j hj => List.mem_of_getElem? (st5_3 j hj)
  | 4, _ => exact fun j hj => List.mem_of_getElem? (st5_4 j hj)
  | 5, _ => exact fun j hj => List.mem_of_getElem? (st5_5 j hj)
  | 6, _ => exact fun j hj => List.mem_of_getElem? (st5_6 j hj)
  | 7, _ => exact fun j hj => List.mem_of_getElem? (st5_7 j hj)
  | 8, _ => exact fun j hj => List.mem_of_getElem? (st5_8 j hj)
  | 9, _ => exact fun j hj => List.mem_of_getElem? (st5_9 j hj)
  | 10, _ => exact fun j hj => List.mem_of_getElem? (st5_10 j hj)
  | 11, _ => exact fun j hj => List.mem_of_getElem? (st5_11 j hj)
  | 12, _ => exact fun j hj => List.mem_of_getElem? (st5_12 j hj)
  | 13, _ => exact fun j hj => List.mem_of_getElem? (st5_13 j hj)
  | 14, _ => exact fun j hj => List.mem_of_getElem? (st5_14 j hj)
  | 15, _ => exact fun j hj => List.mem_of_getElem? (st5_15 j hj)
  | 16, _ => exact fun j hj => List.mem_of_getElem? (st5_16 j hj)
  | 17, _ => exact fun j hj => List.mem_of_getElem? (st5_17 j hj)
  | 18, _ => exact fun j hj => List.mem_of_getElem? (st5_18 j hj)
  | 19, _ => exact fun j hj => List.mem_of_getElem? (st5_19 j hj)
  | 20, _ => exact fun j hj => List.mem_of_getElem? (st5_20 j hj)
  | 21, _ => exact fun j hj => List.mem_of_getElem? (st5_21 j hj)
  | 22, _ => exact fun j hj => List.mem_of_getElem? (st5_22 j hj)
  | 23, _ => exact fun j hj => List.mem_of_getElem? (st5_23 j hj)
  | 24, _ => exact fun j hj => List.mem_of_getElem? (st5_24 j hj)
  | 25, _ => exact fun j hj => List.mem_of_getElem? (st5_25 j hj)
  | 26, _ => exact fun j hj => List.mem_of_getElem? (st5_26 j hj)
  | 27, _ => exact fun j hj => List.mem_of_getElem? (st5_27 j hj)
  | 28, _ => exact fun j hj => List.mem_of_getElem? (st5_28 j hj)
  | 29, _ => exact fun j hj => List.mem_of_getElem? (st5_29 j hj)
  | 30, _ => exact fun j hj => List.mem_of_getElem? (st5_30 j hj)
  | 31, _ => exact fun j hj => List.mem_of_getElem? (st5_31 j hj)
  | 32, _ => exact fun j hj => List.mem_of_getElem? (st5_32 j hj)
  | i + 33, h => exact absurd h (by omega)
theorem st_6 : ∀ q ∈ strT, Cond.stringRef q.1 q.2.1 q.2.2.1 ∈ lw_tbl ∧ q.2.2.2 < 33 ∧ (strT.getD q.2.2.2 ("", 0, "", 0)).1 = q.1 ∧ (strT.getD q.2.2.2 ("", 0, "", 0)).2.1 = q.2.1 := by decide +kernel
theorem st_7 : ∀ i, i < 33 → stL.getD i 0 < 2 ^ 31 := by decide +kernel
theorem ex_n : ∀ a, a < 5 → ∀ b, b < 5 → a ≠ b → Cond.not (.castable (exN a) (exN b)) ∈ Fgn := by decide +kernel
theorem ex_y : ∀ a, a < 5 → Cond.castable (exN a) (exN a) ∈ lw_tbl := by decide +kernel
theorem ex_d : ∀ x ∈ dcT, Cond.declares x ∈ lw_tbl := by decide +kernel
theorem xt_start {s : State} {args : Array Value} (hts : ∀ t ∈ lw_tbl, t.before args s = true) (hgv : (Jvm.Cond.and given_1 narrow_1).before args s = true) : ∃ S V : Nat → Nat, ∀ w : TG, wS w = S → wV w = V → wB w = s.heap.size → Xt w s s.heap := by
  have hs := flat_of_before _ hgv
  have h0 : ∀ i : Nat, ∃ q : Nat × Nat, i < 33 → (stm i).eval args s none [] s = some (.ref q.1) ∧ va_O "java/lang/String" q.1 (fun q => s.heap.size ≤ q) s s.heap ∧ va_OF "java/lang/String" "coder" "B" (.int 0) q.1 (fun q => s.heap.size ≤ q) s s.heap ∧ va_OF "java/lang/String" "value" "[B" (.ref q.2) q.1 (fun q => s.heap.size ≤ q) s s.heap ∧ va_T .byte q.2 (stL.getD i 0) (fun j => .int ((stB.getD i []).getD j 0)) (fun q => s.heap.size ≤ q) s s.heap := by
    intro i
    by_cases hi : i < 33
    · obtain ⟨aK, aV, h1, h2⟩ := vk_Sof (args := args) (s := s) (N := 1) (tm := fun _ => stm i) (len := [stL.getD i 0]) (byt := [stB.getD i []]) (A := fun q => s.heap.size ≤ q)
        (fun k hk => by rw [show k = 0 by omega]; exact st_7 i hi) (fun _ _ => hs _ (st_1 i hi)) (fun _ _ => hs _ (st_2 i hi)) (fun _ _ => hs _ (st_3 i hi)) (fun k hk => by rw [show k = 0 by omega]; exact hs _ (st_4 i hi)) (fun k hk j hj => by
          have hk0 : k = 0 := by omega
          subst hk0
          exact hs _ (st_5 i hi j hj)) (fun a b ha hb hab => absurd (show a = b by omega) hab) (fun a ha => Nat.not_le.mpr ha)
      exact ⟨(aK 0, aV 0), fun _ => ⟨h2 0 (by omega), h1.1 0 (by omega)⟩⟩
    · exact ⟨(0, 0), fun h => absurd h hi⟩
  obtain ⟨ad, had⟩ := Classical.axiomOfChoice h0
  refine ⟨fun i => (ad i).1, fun i => (ad i).2, fun w hS hV hB => ?_⟩
  have hA : wA w = fun q => s.heap.size ≤ q := by
    funext q
    show (wB w ≤ q) = _
    rw [hB]
  have hAn : ∀ a : Nat, a < s.heap.size → ¬ (fun q => s.heap.size ≤ q) a := fun a ha => Nat.not_le.mpr ha
  unfold Xt
  rw [hS, hV, hA]
  refine ⟨fun i hi => (had i hi).2, ?_, ?_, ?_, ?_, ?_, ?_, ?_, ?_⟩
  · intro q hq
    obtain ⟨a1, a2, a3, a4⟩ := st_6 q hq
    refine vk_R.of (A := args) (hts _ a1) ?_
    have := (had q.2.2.2 a2).1
    unfold stm at this
    rw [a3, a4] at this
    exact this
  · exact va_Zof (args := args) (hts _ (by decide +kernel)) (hts _ (by decide +kernel)) (va_eqt (hs _ (by decide +kernel))) hAn
  · exact vx_Zqof (args := args) (hts _ (by decide +kernel)) (hts _ (by decide +kernel)) (hs _ (by decide +kernel)) hAn
  · exact vx_Zqof (args := args) (hts _ (by decide +kernel)) (hts _ (by decide +kernel)) (hs _ (by decide +kernel)) hAn
  · intro a b ha hb hab
    exact va_Nc.of (args := args) (hs _ (ex_n a ha b hb hab))
  · exact va_Zqof (args := args) (hts _ (by decide +kernel)) (hts _ (by decide +kernel)) (hs _ (by decide +kernel)) hAn
  · intro a ha
    exact yc.of (args := args) (hts _ (ex_y a ha))
  · intro x hx
    have := ex_d x hx
    simp only [dcT, List.mem_cons, List.not_mem_nil, or_false] at hx
    rcases hx with rfl | rfl | rfl
    · exact va_tabs (A := args) rfl rfl (hts _ this)
    · exact va_tabs (A := args) rfl rfl (hts _ this)
    · exact va_tabs (A := args) rfl rfl (hts _ this)
