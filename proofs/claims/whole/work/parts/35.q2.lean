/-! layer 2: more cases that only ask -/
theorem thr_1 (σ : MS) (c : Int32) : f_X12_throwsIf 1 c σ = some (1, mu σ 171 0 c) := e_X12_throwsIf (σ := σ) true c
theorem thr_0 (σ : MS) (c : Int32) : f_X12_throwsIf 0 c σ = some (0, σ) := e_X12_throwsIf (σ := σ) false c
theorem g_thr {σ : MS} {N : Nat} (g : GW σ N) : GW (mu σ 171 0 0) N := g.row (thr0 σ)
theorem one_ne0 : ((1 : Int32) = 0) = False := by decide
theorem s_6 {j n : Nat} {σ : MS} {x1 x2 x3 x4 x5 : Int32} (hn : 6000 ≤ n) (hI : Inv j σ) : ∃ τ, step_6 n x1 x2 x3 x4 x5 σ = some τ ∧ Inv (j + 1) τ := by
  obtain ⟨N, e, gh, gw⟩ := Inv_v hI
  have h8 := gw.le8
  unfold step_6
  refine s_thr hI (f_L_liking x1 x2 σ) (fun s => f_X12_liking x1 x2 s) ?_
  cases hxy : (isP N x1 && isP N x2)
  · right
    refine ⟨1, 0, by decide, ?_, ?_⟩
    · simp only [f_L_liking, f_X11_liking, e_needTwo gh, hxy, thn_l, thn_r, ltM_s, bnd_s, if_true, if_false, Bool.false_eq_true, Nat.reduceEqDiff, Nat.one_ne_zero]
    · simp only [f_X12_liking, J_X12_liking_47, J_X12_liking_37, J_X12_liking_30, e_X12_noBoth (g_thr gw), hxy, ltM_s, bnd_s, e_X12_throwsIf, thr_1, thr_0, ite_bI, if_true, if_false, Bool.false_eq_true, Bool.not_true, Bool.not_false, one_ne0]
  · by_cases c : x1 = x2
    · have c' : (x1 = x2) = True := eq_true c
      right
      refine ⟨2, 0, by decide, ?_, ?_⟩
      · simp only [f_L_liking, f_X11_liking, e_needTwo gh, hxy, c', thn_l, thn_r, ltM_s, bnd_s, if_true, if_false, Bool.false_eq_true, Nat.reduceEqDiff, Nat.one_ne_zero]
      · simp only [f_X12_liking, J_X12_liking_47, J_X12_liking_37, J_X12_liking_30, e_X12_noBoth (g_thr gw), hxy, c', ltM_s, bnd_s, e_X12_throwsIf, thr_1, thr_0, ite_bI, if_true, if_false, Bool.false_eq_true, Bool.not_true, Bool.not_false, one_ne0]
    · left
      have hx := hxy
      rw [Bool.and_eq_true] at hx
      obtain ⟨p, hp, rfl⟩ := isP_t hx.1
      obtain ⟨o, ho, rfl⟩ := isP_t hx.2
      refine ⟨likeV (hv σ 3) p o, ?_, ?_⟩
      · simp (disch := omega) only [f_L_liking, f_X11_liking, e_needTwo gh, hxy, c, e_X4_likingOf, thn_l, thn_r, ltM_s, bnd_s, if_true, if_false, Bool.false_eq_true, Nat.reduceEqDiff, Nat.one_ne_zero]
      · simp (disch := omega) only [f_X12_liking, J_X12_liking_47, J_X12_liking_37, J_X12_liking_30, e_X12_noBoth (g_thr (g_out gw _)), hxy, c, e_X12_likes, thr0, out_row, e, ltM_s, bnd_s, e_X12_throwsIf, thr_1, thr_0, ite_bI, if_true, if_false, Bool.false_eq_true, Bool.not_true, Bool.not_false, one_ne0]
theorem s_37 {j n : Nat} {σ : MS} {x1 x2 x3 x4 x5 : Int32} (hn : 6000 ≤ n) (hI : Inv j σ) : ∃ τ, step_37 n x1 x2 x3 x4 x5 σ = some τ ∧ Inv (j + 1) τ := by
  obtain ⟨N, e, gh, gw⟩ := Inv_v hI
  have h8 := gw.le8
  unfold step_37
  refine s_thr hI (f_L_odds n x1 x2 σ) (fun s => f_X12_odds n x1 x2 s) ?_
  cases hxy : (isP N x1 && isP N x2)
  · right
    refine ⟨1, 0, by decide, ?_, ?_⟩
    · simp only [f_L_odds, f_X11_odds, e_needTwo gh, hxy, thn_l, thn_r, ltM_s, bnd_s, if_true, if_false, Bool.false_eq_true, Nat.reduceEqDiff, Nat.one_ne_zero]
    · simp only [f_X12_odds, J_X12_odds_52, J_X12_odds_37, J_X12_odds_30, e_X12_noBoth (g_thr gw), hxy, ltM_s, bnd_s, e_X12_throwsIf, thr_1, thr_0, ite_bI, if_true, if_false, Bool.false_eq_true, Bool.not_true, Bool.not_false, one_ne0]
  · by_cases c : x1 = x2
    · have c' : (x1 = x2) = True := eq_true c
      right
      refine ⟨2, 0, by decide, ?_, ?_⟩
      · simp only [f_L_odds, f_X11_odds, e_needTwo gh, hxy, c', thn_l, thn_r, ltM_s, bnd_s, if_true, if_false, Bool.false_eq_true, Nat.reduceEqDiff, Nat.one_ne_zero]
      · simp only [f_X12_odds, J_X12_odds_52, J_X12_odds_37, J_X12_odds_30, e_X12_noBoth (g_thr gw), hxy, c', ltM_s, bnd_s, e_X12_throwsIf, thr_1, thr_0, ite_bI, if_true, if_false, Bool.false_eq_true, Bool.not_true, Bool.not_false, one_ne0]
    · left
      have hx := hxy
      rw [Bool.and_eq_true] at hx
      obtain ⟨p, hp, rfl⟩ := isP_t hx.1
      obtain ⟨o, ho, rfl⟩ := isP_t hx.2
      refine ⟨(mostV (hv σ 3) N p).1 * (mostV (hv σ 3) N o).1, ?_, ?_⟩
      · simp (disch := omega) only [f_L_odds, f_X11_odds, e_needTwo gh, hxy, c, e_X4_strongest hn gh, thn_l, thn_r, ltM_s, bnd_s, if_true, if_false, Bool.false_eq_true, Nat.reduceEqDiff, Nat.one_ne_zero]
      · simp (disch := omega) only [f_X12_odds, J_X12_odds_52, J_X12_odds_37, J_X12_odds_30, e_X12_noBoth (g_thr (g_out gw _)), hxy, c, e_X12_oddsOf hn (g_thr (g_out gw _)), thr0, out_row, e, ltM_s, bnd_s, e_X12_throwsIf, thr_1, thr_0, ite_bI, if_true, if_false, Bool.false_eq_true, Bool.not_true, Bool.not_false, one_ne0]
theorem s_35 {j n : Nat} {σ : MS} {x1 x2 x3 x4 x5 : Int32} (hn : 6000 ≤ n) (hI : Inv j σ) : ∃ τ, step_35 n x1 x2 x3 x4 x5 σ = some τ ∧ Inv (j + 1) τ := by
  obtain ⟨N, e, gh, gw⟩ := Inv_v hI
  have h8 := gw.le8
  unfold step_35
  refine s_thr hI (f_L_shortest x1 σ) (fun s => f_X12_shortest x1 s) ?_
  cases hx : isP N x1
  · right
    refine ⟨1, 0, by decide, ?_, ?_⟩
    · simp only [f_L_shortest, f_X11_shortest, e_needPerson gh, hx, thn_l, thn_r, ltM_s, bnd_s, if_true, if_false, Bool.false_eq_true, Nat.reduceEqDiff, Nat.one_ne_zero]
    · simp only [f_X12_shortest, J_X12_shortest_31, e_X12_noPerson (g_thr gw), hx, ltM_s, bnd_s, e_X12_throwsIf, thr_1, thr_0, ite_bI, if_true, if_false, Bool.false_eq_true, Bool.not_true, Bool.not_false, one_ne0]
  · left
    obtain ⟨p, hp, rfl⟩ := isP_t hx
    have hm3 : ∃ t, hv σ 3 4 p = nN t ∧ t < 256 := by
      obtain ⟨-, -, -, -, -, -, -, -, -, ⟨h, -⟩, -⟩ := gh
      exact h p (by omega)
    obtain ⟨t, ht, h256⟩ := hm3
    have hm : σ 7 p = nN t := (h_one (σ := σ) (h := 3) (show p < 8 by omega)).2.2.2.symm.trans ht
    have hm2 : rv (σ 172) 4 p = nN t := by rw [← e]; exact ht
    refine ⟨nN (bc t), ?_, ?_⟩
    · simp (disch := omega) only [f_L_shortest, f_X11_shortest, e_needPerson gh, hx, inb_nN, ix_nN, hm, e_bc, thn_l, thn_r, ltM_s, bnd_s, if_true, if_false, Bool.false_eq_true, Nat.reduceEqDiff, Nat.one_ne_zero]
    · simp (disch := omega) only [f_X12_shortest, J_X12_shortest_31, e_X12_noPerson (g_thr (g_out gw _)), hx, e_X12_of3, hm2, e_bc, thr0, out_row, ltM_s, bnd_s, e_X12_throwsIf, thr_1, thr_0, ite_bI, if_true, if_false, Bool.false_eq_true, Bool.not_true, Bool.not_false, one_ne0]
