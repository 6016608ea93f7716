/-! layer 2: way, oath, alibi, person, free, between, trap, lovers, bond, count -/
theorem s_31 {j n : Nat} {σ : MS} {x1 x2 x3 x4 x5 : Int32} (hn : 6000 ≤ n) (hI : Inv j σ) : ∃ τ, step_31 n x1 x2 x3 x4 x5 σ = some τ ∧ Inv (j + 1) τ := by
  obtain ⟨N, e, gh, gw⟩ := Inv_v hI
  have h8 := gw.le8
  unfold step_31
  refine s_thr hI (f_L_way n x1 x2 σ) (fun s => f_X12_way n x1 x2 s) ?_
  cases hx : isP N x1
  · right
    refine ⟨1, 0, by decide, ?_, ?_⟩
    · simp only [f_L_way, f_X11_way, e_needPerson gh, hx, thn_l, thn_r, ltM_s, bnd_s, if_true, if_false, Bool.false_eq_true, Nat.reduceEqDiff, Nat.one_ne_zero]
    · simp only [f_X12_way, J_X12_way_54, J_X12_way_26, J_X12_way_21, e_X12_noPerson (g_thr gw), hx, ltM_s, bnd_s, e_X12_throwsIf, thr_1, thr_0, ite_bI, if_true, if_false, Bool.false_eq_true, Bool.not_true, Bool.not_false, one_ne0]
  · cases hr : isR x2
    · right
      refine ⟨1, 0, by decide, ?_, ?_⟩
      · simp only [f_L_way, f_X11_way, e_needPerson gh, e_needRoom, hx, hr, thn_l, thn_r, ltM_s, bnd_s, if_true, if_false, Bool.false_eq_true, Nat.reduceEqDiff, Nat.one_ne_zero]
      · simp only [f_X12_way, J_X12_way_54, J_X12_way_26, J_X12_way_21, e_X12_noPerson (g_thr gw), e_X12_noRoom, hx, hr, ltM_s, bnd_s, e_X12_throwsIf, thr_1, thr_0, ite_bI, if_true, if_false, Bool.false_eq_true, Bool.not_true, Bool.not_false, one_ne0]
    · left
      obtain ⟨p, hp, rfl⟩ := isP_t hx
      obtain ⟨b, hb, rfl⟩ := isR_t hr
      obtain ⟨hf, hf64⟩ := flN_is (V := hv σ 3) gh
      obtain ⟨ha, ha6⟩ := roN_is (V := hv σ 3) gh (show p < 8 by omega)
      have ra : σ 4 p = nN (roN (hv σ 3) p) := (h_one (σ := σ) (h := 3) (show p < 8 by omega)).1.symm.trans ha
      have hm := e_X3_steps (σ := σ) hn hf hf64 ha6 hb
      have hle := wayV_le hf64 ha6 hb
      have hw : ∀ v, f_X12_wayOf n (nN p) (nN b) (mu (mu σ 183 0 v) 171 0 0) = some (e2 (wayV (flN (hv σ 3)) (roN (hv σ 3) p) b)) := by
        intro v
        have hrow : mu (mu σ 183 0 v) 171 0 0 172 = σ 172 := by rw [thr0, out_row]
        refine e_X12_wayOf hn ?_ hf64 (by omega) ha6 hb ?_
        · rw [hrow]
          rw [e] at hf
          rw [e]
          exact hf
        · rw [hrow]
          rw [e] at ha
          rw [e]
          exact ha
      refine ⟨e1 (wayV (flN (hv σ 3)) (roN (hv σ 3) p) b), ?_, ?_⟩
      · simp (disch := omega) only [f_L_way, f_X11_way, e_needPerson gh, e_needRoom, hx, hr, inb_nN, ix_nN, ra, hm, thn_l, thn_r, ltM_s, bnd_s, if_true, if_false, Bool.false_eq_true, Nat.reduceEqDiff, Nat.one_ne_zero]
      · simp (disch := omega) only [f_X12_way, J_X12_way_54, J_X12_way_26, J_X12_way_21, e_X12_noPerson (g_thr (g_out gw _)), e_X12_noRoom, hx, hr, hw, ltM_s, bnd_s, e_X12_throwsIf, thr_1, thr_0, ite_bI, if_true, if_false, Bool.false_eq_true, Bool.not_true, Bool.not_false, one_ne0]
        revert hle
        cases wayV (flN (hv σ 3)) (roN (hv σ 3) p) b with
        | none => intro _; rfl
        | some k =>
          intro hle
          have hk : k ≤ 5 := hle
          simp only [e1_s, e2_s]
          rw [l1e6, it_lt (by omega) (by omega), if_pos (by omega)]
theorem s_34 {j n : Nat} {σ : MS} {x1 x2 x3 x4 x5 : Int32} (hn : 6000 ≤ n) (hI : Inv j σ) : ∃ τ, step_34 n x1 x2 x3 x4 x5 σ = some τ ∧ Inv (j + 1) τ := by
  obtain ⟨N, e, gh, gw⟩ := Inv_v hI
  have h8 := gw.le8
  have hcases : (∃ v, (v = 0 ∨ v = 1) ∧ f_L_oath x1 x2 σ = some (0, mu σ 183 0 v) ∧ f_X12_oath x1 x2 (mu σ 183 0 v) = some (v, mu (mu σ 183 0 v) 171 0 0)) ∨ (f_L_oath x1 x2 σ = some (1, σ) ∧ f_X12_oath x1 x2 σ = some (0, mu (mu σ 171 0 0) 171 0 1)) := by
    cases hx : isP N x1
    · right
      refine ⟨?_, ?_⟩
      · simp only [f_L_oath, J_L_oath_16, f_X11_oath, J_X11_oath_26, e_needPerson gh, hx, thn_l, thn_r, ltM_s, bnd_s, if_true, if_false, Bool.false_eq_true, Nat.reduceEqDiff, Nat.one_ne_zero]
      · simp only [f_X12_oath, J_X12_oath_36, J_X12_oath_35, e_X12_noPerson (g_thr gw), hx, ok_0, ok_1, true_or, or_true, ltM_s, bnd_s, e_X12_throwsIf, thr_1, thr_0, ite_bI, if_true, if_false, Bool.false_eq_true, Bool.not_true, Bool.not_false, one_ne0]
    · left
      obtain ⟨p, hp, rfl⟩ := isP_t hx
      have hm : σ 7 p = rv (σ 172) 4 p := by rw [← e]; exact (h_one (σ := σ) (h := 3) (show p < 8 by omega)).2.2.2.symm
      by_cases c : rv (σ 172) 4 p &&& (x2 ^^^ -1) = 0
      · refine ⟨1, Or.inr rfl, ?_, ?_⟩
        · simp (disch := omega) only [f_L_oath, J_L_oath_16, f_X11_oath, J_X11_oath_26, e_needPerson gh, hx, inb_nN, ix_nN, hm, c, ok_0, ok_1, true_or, or_true, one_ne0, thn_l, thn_r, ltM_s, bnd_s, if_true, if_false, Bool.false_eq_true, Nat.reduceEqDiff, Nat.one_ne_zero]
        · simp (disch := omega) only [f_X12_oath, J_X12_oath_36, J_X12_oath_35, e_X12_noPerson (g_thr (g_out gw _)), hx, e_X12_of3, thr0, out_row, c, ok_0, ok_1, true_or, or_true, ltM_s, bnd_s, e_X12_throwsIf, thr_1, thr_0, ite_bI, if_true, if_false, Bool.false_eq_true, Bool.not_true, Bool.not_false, one_ne0]
      · refine ⟨0, Or.inl rfl, ?_, ?_⟩
        · simp (disch := omega) only [f_L_oath, J_L_oath_16, f_X11_oath, J_X11_oath_26, e_needPerson gh, hx, inb_nN, ix_nN, hm, c, ok_0, ok_1, true_or, or_true, one_ne0, thn_l, thn_r, ltM_s, bnd_s, if_true, if_false, Bool.false_eq_true, Nat.reduceEqDiff, Nat.one_ne_zero]
        · simp (disch := omega) only [f_X12_oath, J_X12_oath_36, J_X12_oath_35, e_X12_noPerson (g_thr (g_out gw _)), hx, e_X12_of3, thr0, out_row, c, ok_0, ok_1, true_or, or_true, ltM_s, bnd_s, e_X12_throwsIf, thr_1, thr_0, ite_bI, if_true, if_false, Bool.false_eq_true, Bool.not_true, Bool.not_false, one_ne0]
  unfold step_34
  rcases hcases with ⟨v, hv01, h1, h2⟩ | ⟨h1, h2⟩
  · obtain ⟨a1, a2, a3⟩ := sm_ok σ v
    rw [h1]
    simp only [bnd_s, h2, f_X12_thrown, a2, if_true, J_L_law__2147, J_L_law__2153, a3]
    rcases hv01 with rfl | rfl
    · simp only [if_true]
      exact ⟨_, rfl, Inv_mono (Inv_same hI a1) (by omega)⟩
    · simp only [if_true, if_false, one_ne0]
      exact ⟨_, rfl, Inv_mono (Inv_same hI a1) (by omega)⟩
  · obtain ⟨a1, a2⟩ := sm_ex σ 1
    rw [h1]
    simp only [bnd_s, h2, f_X12_thrown, a2, if_true, J_L_law__2153, one_ne0, if_false]
    exact ⟨_, rfl, Inv_mono (Inv_same hI a1) (by omega)⟩
def alV (V : HV) (N p : Nat) : Nat := mset N (fun q => decide (V 4 q = nN (2 ^ p)))
theorem e_alibi {σ : MS} {n N p : Nat} (hn : 6000 ≤ n) (g : GH σ 3 N) (hp : p < 8) : itr (L_X11_alibi_9 n (nN p) σ) n (0, 0) = some (.inl (nN (alV (hv σ 3) N p)), σ) := by
  have hN := g.ppl
  have h8 := g.le8
  unfold alV mset
  refine itr_0 (fun (a : Nat) i => (nN a, i)) N (fun q a => if decide (hv σ 3 4 q = nN (2 ^ p)) = true then a ||| 2 ^ q else a) (fun a => (Sum.inl (nN a), σ)) (by omega) 0 ?_ ?_
  · intro i a hi
    have hm : σ 7 i = hv σ 3 4 i := (h_one (σ := σ) (h := 3) (show i < 8 by omega)).2.2.2.symm
    simp (disch := omega) only [L_X11_alibi_9, J_X11_alibi_41, hN, le_f, le_t, lt_f, lt_t, if_false, if_true, bnd_s, ite_bI, ok_bI, ok_0, ok_1, ltM_s, nN_s, Option.map_some, inb_nN, ix_nN, it_t, it_f, true_or, or_true, shl1, hm, nN_or, decide_eq_true_eq]
    split <;> rfl
  · intro a
    simp (disch := omega) only [L_X11_alibi_9, J_X11_alibi_41, hN, le_f, le_t, lt_f, lt_t, if_false, if_true, bnd_s, ite_bI, ok_bI, ok_0, ok_1, ltM_s, nN_s, Option.map_some, inb_nN, ix_nN, it_t, it_f, true_or, or_true]
theorem e_alibi2 {σ : MS} {n N p : Nat} (hn : 6000 ≤ n) (g : GW σ N) (hp : p < 8) : itr (L_X12_alibi_24 n (nN p) σ) n (0, 0) = some (nN (alV (rv (σ 172)) N p), σ) := by
  have hN := e_X12_people g
  have h8 := g.le8
  have z : (0 : Int32) = nN 0 := rfl
  unfold alV mset
  refine itr_0 (fun (a : Nat) i => (nN a, i)) N (fun q a => if decide (rv (σ 172) 4 q = nN (2 ^ p)) = true then a ||| 2 ^ q else a) (fun a => (nN a, σ)) (by omega) 0 ?_ ?_
  · intro i a hi
    simp (disch := omega) only [L_X12_alibi_24, J_X12_alibi_52, hN, le_f, le_t, lt_f, lt_t, if_false, if_true, bnd_s, ite_bI, ok_bI, ok_0, ok_1, ltM_s, nN_s, Option.map_some, inb_nN, ix_nN, it_t, it_f, true_or, or_true, shl1, e_X12_of3, decide_eq_true_eq]
    split
    · rw [nN_or]
    · rw [z, nN_or, Nat.or_zero]
  · intro a
    simp (disch := omega) only [L_X12_alibi_24, J_X12_alibi_52, hN, le_f, le_t, lt_f, lt_t, if_false, if_true, bnd_s, ite_bI, ok_bI, ok_0, ok_1, ltM_s, nN_s, Option.map_some, inb_nN, ix_nN, it_t, it_f, true_or, or_true]
theorem s_36 {j n : Nat} {σ : MS} {x1 x2 x3 x4 x5 : Int32} (hn : 6000 ≤ n) (hI : Inv j σ) : ∃ τ, step_36 n x1 x2 x3 x4 x5 σ = some τ ∧ Inv (j + 1) τ := by
  obtain ⟨N, e, gh, gw⟩ := Inv_v hI
  have h8 := gw.le8
  unfold step_36
  refine s_thr hI (f_L_alibi n x1 σ) (fun s => f_X12_alibi n x1 s) ?_
  cases hx : isP N x1
  · right
    refine ⟨1, 0, by decide, ?_, ?_⟩
    · simp only [f_L_alibi, f_X11_alibi, J_X11_alibi_41, e_needPerson gh, hx, thn_l, thn_r, ltM_s, bnd_s, if_true, if_false, Bool.false_eq_true, Nat.reduceEqDiff, Nat.one_ne_zero]
    · simp only [f_X12_alibi, J_X12_alibi_52, e_X12_noPerson (g_thr gw), hx, ltM_s, bnd_s, e_X12_throwsIf, thr_1, thr_0, ite_bI, if_true, if_false, Bool.false_eq_true, Bool.not_true, Bool.not_false, one_ne0]
  · left
    obtain ⟨p, hp, rfl⟩ := isP_t hx
    refine ⟨nN (alV (hv σ 3) N p), ?_, ?_⟩
    · simp (disch := omega) only [f_L_alibi, f_X11_alibi, J_X11_alibi_41, e_needPerson gh, hx, e_alibi hn gh, thn_l, thn_r, ltM_s, bnd_s, if_true, if_false, Bool.false_eq_true, Nat.reduceEqDiff, Nat.one_ne_zero]
    · simp (disch := omega) only [f_X12_alibi, J_X12_alibi_52, e_X12_noPerson (g_thr (g_out gw _)), hx, e_alibi2 hn (g_thr (g_out gw _)), thr0, out_row, e, ltM_s, bnd_s, e_X12_throwsIf, thr_1, thr_0, ite_bI, if_true, if_false, Bool.false_eq_true, Bool.not_true, Bool.not_false, one_ne0]
theorem s_18 {j n : Nat} {σ : MS} {x1 x2 x3 x4 x5 : Int32} (hn : 6000 ≤ n) (hI : Inv j σ) : ∃ τ, step_18 n x1 x2 x3 x4 x5 σ = some τ ∧ Inv (j + 1) τ := by
  obtain ⟨N, e, gh, gw⟩ := Inv_v hI
  have h8 := gw.le8
  unfold step_18
  refine s_thr hI (f_L_free n x1 σ) (fun s => f_X12_free n x1 s) ?_
  cases hd : decide ((0 : Int32) ≤ x1 ∧ x1 ≤ 9999)
  · right
    refine ⟨1, 0, by decide, ?_, (e_X12_free hn gw x1).2 hd⟩
    simp only [f_L_free, f_X11_free, e_needNumber, hd, thn_l, thn_r, ltM_s, bnd_s, if_true, if_false, Bool.false_eq_true, Nat.reduceEqDiff, Nat.one_ne_zero]
  · left
    obtain ⟨r, h1, h2⟩ := e_X10_unboundOn hn gh x1
    obtain ⟨r', h3, h4⟩ := (e_X12_free hn (g_out gw (nN r)) x1).1 hd
    rw [out_row, ← e] at h4
    rw [← FRE_one h2 h4] at h3
    refine ⟨nN r, ?_, h3⟩
    simp only [f_L_free, f_X11_free, e_needNumber, hd, h1, thn_l, thn_r, ltM_s, bnd_s, if_true, if_false, Bool.false_eq_true, Nat.reduceEqDiff, Nat.one_ne_zero]
theorem s_27 {j n : Nat} {σ : MS} {x1 x2 x3 x4 x5 : Int32} (hn : 6000 ≤ n) (hI : Inv j σ) : ∃ τ, step_27 n x1 x2 x3 x4 x5 σ = some τ ∧ Inv (j + 1) τ := by
  obtain ⟨N, e, gh, gw⟩ := Inv_v hI
  have h8 := gw.le8
  unfold step_27
  refine s_thr hI (f_L_between n x1 x2 σ) (fun s => f_X12_between n x1 x2 s) ?_
  cases hx : isP N x1
  · right
    refine ⟨1, 0, by decide, ?_, (e_X12_between hn gw x1 x2).2 (by rw [hx]; rfl)⟩
    simp only [f_L_between, f_X11_between, e_needPerson gh, hx, thn_l, thn_r, ltM_s, bnd_s, if_true, if_false, Bool.false_eq_true, Nat.reduceEqDiff, Nat.one_ne_zero]
  · cases hy : isP N x2
    · right
      refine ⟨1, 0, by decide, ?_, (e_X12_between hn gw x1 x2).2 (by rw [hy, Bool.and_false])⟩
      simp only [f_L_between, f_X11_between, e_needPerson gh, hx, hy, thn_l, thn_r, ltM_s, bnd_s, if_true, if_false, Bool.false_eq_true, Nat.reduceEqDiff, Nat.one_ne_zero]
    · left
      obtain ⟨p, hp, hxp⟩ := isP_t hx
      obtain ⟨o, ho, hyo⟩ := isP_t hy
      obtain ⟨r, h1, h2⟩ := e_X10_steps hn gh hp ho
      obtain ⟨p', o', r', hp', ho', e1', e2', h3, h4⟩ := (e_X12_between hn (g_out gw r) x1 x2).1 hx hy
      have ep : p = p' := by
        have := hxp.symm.trans e1'
        rw [nN_eq (by omega) (by omega)] at this
        exact this
      have eo : o = o' := by
        have := hyo.symm.trans e2'
        rw [nN_eq (by omega) (by omega)] at this
        exact this
      subst ep
      subst eo
      rw [out_row, ← e] at h4
      rw [← ST_one h2 h4] at h3
      refine ⟨r, ?_, h3⟩
      rw [← hxp, ← hyo] at h1
      simp only [f_L_between, f_X11_between, e_needPerson gh, hx, hy, h1, thn_l, thn_r, ltM_s, bnd_s, if_true, if_false, Bool.false_eq_true, Nat.reduceEqDiff, Nat.one_ne_zero]
