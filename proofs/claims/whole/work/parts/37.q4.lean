/-! layer 2: person, bond, trap, lovers, count, fault -/
theorem in_k {x : Int32} {m : Nat} (hm : m < 100) (h : decide ((0 : Int32) ≤ x ∧ x ≤ nN m) = true) : ∃ k, k ≤ m ∧ x = nN k := by
  have h' := of_decide_eq_true h
  rw [Int32.le_iff_toInt_le, Int32.le_iff_toInt_le, nN_toInt (by omega)] at h'
  have z : (0 : Int32).toInt = 0 := rfl
  rw [z] at h'
  obtain ⟨k, hk, -, h2, -⟩ := nN_of (x := x) (a := 0) (b := (m : Int)) (by omega) h'.1 h'.2
  exact ⟨k, by omega, hk⟩
theorem in_dec {k m : Nat} (hk : k ≤ m) (hm : m < 100) : decide ((0 : Int32) ≤ nN k ∧ nN k ≤ nN m) = true := decide_eq_true ⟨by rw [nN_0le (by omega)]; trivial, by rw [nN_le (by omega) (by omega)]; exact hk⟩
theorem ne_0_1 : ((0 : Int32) = 1) = False := by decide
theorem ne_0_2 : ((0 : Int32) = 2) = False := by decide
theorem ne_0_3 : ((0 : Int32) = 3) = False := by decide
theorem ne_0_4 : ((0 : Int32) = 4) = False := by decide
theorem ne_0_5 : ((0 : Int32) = 5) = False := by decide
theorem ne_0_6 : ((0 : Int32) = 6) = False := by decide
theorem ne_0_7 : ((0 : Int32) = 7) = False := by decide
theorem ne_0_8 : ((0 : Int32) = 8) = False := by decide
theorem ne_0_9 : ((0 : Int32) = 9) = False := by decide
theorem ne_0_10 : ((0 : Int32) = 10) = False := by decide
theorem ne_0_11 : ((0 : Int32) = 11) = False := by decide
theorem ne_0_12 : ((0 : Int32) = 12) = False := by decide
theorem ne_1_0 : ((1 : Int32) = 0) = False := by decide
theorem ne_1_2 : ((1 : Int32) = 2) = False := by decide
theorem ne_1_3 : ((1 : Int32) = 3) = False := by decide
theorem ne_1_4 : ((1 : Int32) = 4) = False := by decide
theorem ne_1_5 : ((1 : Int32) = 5) = False := by decide
theorem ne_1_6 : ((1 : Int32) = 6) = False := by decide
theorem ne_1_7 : ((1 : Int32) = 7) = False := by decide
theorem ne_1_8 : ((1 : Int32) = 8) = False := by decide
theorem ne_1_9 : ((1 : Int32) = 9) = False := by decide
theorem ne_1_10 : ((1 : Int32) = 10) = False := by decide
theorem ne_1_11 : ((1 : Int32) = 11) = False := by decide
theorem ne_1_12 : ((1 : Int32) = 12) = False := by decide
theorem ne_2_0 : ((2 : Int32) = 0) = False := by decide
theorem ne_2_1 : ((2 : Int32) = 1) = False := by decide
theorem ne_2_3 : ((2 : Int32) = 3) = False := by decide
theorem ne_2_4 : ((2 : Int32) = 4) = False := by decide
theorem ne_2_5 : ((2 : Int32) = 5) = False := by decide
theorem ne_2_6 : ((2 : Int32) = 6) = False := by decide
theorem ne_2_7 : ((2 : Int32) = 7) = False := by decide
theorem ne_2_8 : ((2 : Int32) = 8) = False := by decide
theorem ne_2_9 : ((2 : Int32) = 9) = False := by decide
theorem ne_2_10 : ((2 : Int32) = 10) = False := by decide
theorem ne_2_11 : ((2 : Int32) = 11) = False := by decide
theorem ne_2_12 : ((2 : Int32) = 12) = False := by decide
theorem ne_3_0 : ((3 : Int32) = 0) = False := by decide
theorem ne_3_1 : ((3 : Int32) = 1) = False := by decide
theorem ne_3_2 : ((3 : Int32) = 2) = False := by decide
theorem ne_3_4 : ((3 : Int32) = 4) = False := by decide
theorem ne_3_5 : ((3 : Int32) = 5) = False := by decide
theorem ne_3_6 : ((3 : Int32) = 6) = False := by decide
theorem ne_3_7 : ((3 : Int32) = 7) = False := by decide
theorem ne_3_8 : ((3 : Int32) = 8) = False := by decide
theorem ne_3_9 : ((3 : Int32) = 9) = False := by decide
theorem ne_3_10 : ((3 : Int32) = 10) = False := by decide
theorem ne_3_11 : ((3 : Int32) = 11) = False := by decide
theorem ne_3_12 : ((3 : Int32) = 12) = False := by decide
theorem ne_4_0 : ((4 : Int32) = 0) = False := by decide
theorem ne_4_1 : ((4 : Int32) = 1) = False := by decide
theorem ne_4_2 : ((4 : Int32) = 2) = False := by decide
theorem ne_4_3 : ((4 : Int32) = 3) = False := by decide
theorem ne_4_5 : ((4 : Int32) = 5) = False := by decide
theorem ne_4_6 : ((4 : Int32) = 6) = False := by decide
theorem ne_4_7 : ((4 : Int32) = 7) = False := by decide
theorem ne_4_8 : ((4 : Int32) = 8) = False := by decide
theorem ne_4_9 : ((4 : Int32) = 9) = False := by decide
theorem ne_4_10 : ((4 : Int32) = 10) = False := by decide
theorem ne_4_11 : ((4 : Int32) = 11) = False := by decide
theorem ne_4_12 : ((4 : Int32) = 12) = False := by decide
theorem ne_5_0 : ((5 : Int32) = 0) = False := by decide
theorem ne_5_1 : ((5 : Int32) = 1) = False := by decide
theorem ne_5_2 : ((5 : Int32) = 2) = False := by decide
theorem ne_5_3 : ((5 : Int32) = 3) = False := by decide
theorem ne_5_4 : ((5 : Int32) = 4) = False := by decide
theorem ne_5_6 : ((5 : Int32) = 6) = False := by decide
theorem ne_5_7 : ((5 : Int32) = 7) = False := by decide
theorem ne_5_8 : ((5 : Int32) = 8) = False := by decide
theorem ne_5_9 : ((5 : Int32) = 9) = False := by decide
theorem ne_5_10 : ((5 : Int32) = 10) = False := by decide
theorem ne_5_11 : ((5 : Int32) = 11) = False := by decide
theorem ne_5_12 : ((5 : Int32) = 12) = False := by decide
theorem ne_6_0 : ((6 : Int32) = 0) = False := by decide
theorem ne_6_1 : ((6 : Int32) = 1) = False := by decide
theorem ne_6_2 : ((6 : Int32) = 2) = False := by decide
theorem ne_6_3 : ((6 : Int32) = 3) = False := by decide
theorem ne_6_4 : ((6 : Int32) = 4) = False := by decide
theorem ne_6_5 : ((6 : Int32) = 5) = False := by decide
theorem ne_6_7 : ((6 : Int32) = 7) = False := by decide
theorem ne_6_8 : ((6 : Int32) = 8) = False := by decide
theorem ne_6_9 : ((6 : Int32) = 9) = False := by decide
theorem ne_6_10 : ((6 : Int32) = 10) = False := by decide
theorem ne_6_11 : ((6 : Int32) = 11) = False := by decide
theorem ne_6_12 : ((6 : Int32) = 12) = False := by decide
theorem ne_7_0 : ((7 : Int32) = 0) = False := by decide
theorem ne_7_1 : ((7 : Int32) = 1) = False := by decide
theorem ne_7_2 : ((7 : Int32) = 2) = False := by decide
theorem ne_7_3 : ((7 : Int32) = 3) = False := by decide
theorem ne_7_4 : ((7 : Int32) = 4) = False := by decide
theorem ne_7_5 : ((7 : Int32) = 5) = False := by decide
theorem ne_7_6 : ((7 : Int32) = 6) = False := by decide
theorem ne_7_8 : ((7 : Int32) = 8) = False := by decide
theorem ne_7_9 : ((7 : Int32) = 9) = False := by decide
theorem ne_7_10 : ((7 : Int32) = 10) = False := by decide
theorem ne_7_11 : ((7 : Int32) = 11) = False := by decide
theorem ne_7_12 : ((7 : Int32) = 12) = False := by decide
theorem ne_8_0 : ((8 : Int32) = 0) = False := by decide
theorem ne_8_1 : ((8 : Int32) = 1) = False := by decide
theorem ne_8_2 : ((8 : Int32) = 2) = False := by decide
theorem ne_8_3 : ((8 : Int32) = 3) = False := by decide
theorem ne_8_4 : ((8 : Int32) = 4) = False := by decide
theorem ne_8_5 : ((8 : Int32) = 5) = False := by decide
theorem ne_8_6 : ((8 : Int32) = 6) = False := by decide
theorem ne_8_7 : ((8 : Int32) = 7) = False := by decide
theorem ne_8_9 : ((8 : Int32) = 9) = False := by decide
theorem ne_8_10 : ((8 : Int32) = 10) = False := by decide
theorem ne_8_11 : ((8 : Int32) = 11) = False := by decide
theorem ne_8_12 : ((8 : Int32) = 12) = False := by decide
theorem ne_9_0 : ((9 : Int32) = 0) = False := by decide
theorem ne_9_1 : ((9 : Int32) = 1) = False := by decide
theorem ne_9_2 : ((9 : Int32) = 2) = False := by decide
theorem ne_9_3 : ((9 : Int32) = 3) = False := by decide
theorem ne_9_4 : ((9 : Int32) = 4) = False := by decide
theorem ne_9_5 : ((9 : Int32) = 5) = False := by decide
theorem ne_9_6 : ((9 : Int32) = 6) = False := by decide
theorem ne_9_7 : ((9 : Int32) = 7) = False := by decide
theorem ne_9_8 : ((9 : Int32) = 8) = False := by decide
theorem ne_9_10 : ((9 : Int32) = 10) = False := by decide
theorem ne_9_11 : ((9 : Int32) = 11) = False := by decide
theorem ne_9_12 : ((9 : Int32) = 12) = False := by decide
theorem ne_10_0 : ((10 : Int32) = 0) = False := by decide
theorem ne_10_1 : ((10 : Int32) = 1) = False := by decide
theorem ne_10_2 : ((10 : Int32) = 2) = False := by decide
theorem ne_10_3 : ((10 : Int32) = 3) = False := by decide
theorem ne_10_4 : ((10 : Int32) = 4) = False := by decide
theorem ne_10_5 : ((10 : Int32) = 5) = False := by decide
theorem ne_10_6 : ((10 : Int32) = 6) = False := by decide
theorem ne_10_7 : ((10 : Int32) = 7) = False := by decide
theorem ne_10_8 : ((10 : Int32) = 8) = False := by decide
theorem ne_10_9 : ((10 : Int32) = 9) = False := by decide
theorem ne_10_11 : ((10 : Int32) = 11) = False := by decide
theorem ne_10_12 : ((10 : Int32) = 12) = False := by decide
theorem ne_11_0 : ((11 : Int32) = 0) = False := by decide
theorem ne_11_1 : ((11 : Int32) = 1) = False := by decide
theorem ne_11_2 : ((11 : Int32) = 2) = False := by decide
theorem ne_11_3 : ((11 : Int32) = 3) = False := by decide
theorem ne_11_4 : ((11 : Int32) = 4) = False := by decide
theorem ne_11_5 : ((11 : Int32) = 5) = False := by decide
theorem ne_11_6 : ((11 : Int32) = 6) = False := by decide
theorem ne_11_7 : ((11 : Int32) = 7) = False := by decide
theorem ne_11_8 : ((11 : Int32) = 8) = False := by decide
theorem ne_11_9 : ((11 : Int32) = 9) = False := by decide
theorem ne_11_10 : ((11 : Int32) = 10) = False := by decide
theorem ne_11_12 : ((11 : Int32) = 12) = False := by decide
theorem ne_12_0 : ((12 : Int32) = 0) = False := by decide
theorem ne_12_1 : ((12 : Int32) = 1) = False := by decide
theorem ne_12_2 : ((12 : Int32) = 2) = False := by decide
theorem ne_12_3 : ((12 : Int32) = 3) = False := by decide
theorem ne_12_4 : ((12 : Int32) = 4) = False := by decide
theorem ne_12_5 : ((12 : Int32) = 5) = False := by decide
theorem ne_12_6 : ((12 : Int32) = 6) = False := by decide
theorem ne_12_7 : ((12 : Int32) = 7) = False := by decide
theorem ne_12_8 : ((12 : Int32) = 8) = False := by decide
theorem ne_12_9 : ((12 : Int32) = 9) = False := by decide
theorem ne_12_10 : ((12 : Int32) = 10) = False := by decide
theorem ne_12_11 : ((12 : Int32) = 11) = False := by decide
theorem s_5 {j n : Nat} {σ : MS} {x1 x2 x3 x4 x5 : Int32} (hn : 6000 ≤ n) (hI : Inv j σ) : ∃ τ, step_5 n x1 x2 x3 x4 x5 σ = some τ ∧ Inv (j + 1) τ := by
  obtain ⟨N, e, gh, gw⟩ := Inv_v hI
  have h8 := gw.le8
  unfold step_5
  refine s_thr hI (f_L_person n x1 x2 σ) (fun s => f_X12_person n x1 x2 s) ?_
  cases hx : isP N x1
  · right
    refine ⟨1, 0, by decide, ?_, ?_⟩
    · simp only [f_L_person, f_X11_person, e_needPerson gh, hx, thn_l, thn_r, ltM_s, bnd_s, if_true, if_false, Bool.false_eq_true, Nat.reduceEqDiff, Nat.one_ne_zero]
    · simp only [f_X12_person, J_X12_person_41, J_X12_person_34, e_X12_noPerson (g_thr gw), hx, ltM_s, bnd_s, e_X12_throwsIf, thr_1, thr_0, ite_bI, if_true, if_false, Bool.false_eq_true, Bool.not_true, Bool.not_false, one_ne0]
  · cases hw : decide ((0 : Int32) ≤ x2 ∧ x2 ≤ 7)
    · right
      refine ⟨2, 0, by decide, ?_, ?_⟩
      · have nk : ∀ k : Nat, k ≤ 7 → ¬ x2 = nN k := by
          intro k hk hh
          rw [hh, l7, in_dec hk (by omega)] at hw
          cases hw
        have n0 : ¬ x2 = 0 := nk 0 (by omega)
        have n1 : ¬ x2 = 1 := nk 1 (by omega)
        have n2 : ¬ x2 = 2 := nk 2 (by omega)
        have n3 : ¬ x2 = 3 := nk 3 (by omega)
        have n4 : ¬ x2 = 4 := nk 4 (by omega)
        have n5 : ¬ x2 = 5 := nk 5 (by omega)
        have n6 : ¬ x2 = 6 := nk 6 (by omega)
        have n7 : ¬ x2 = 7 := nk 7 (by omega)
        simp only [f_L_person, f_X11_person, e_needPerson gh, hx, n0, n1, n2, n3, n4, n5, n6, n7, thn_l, thn_r, ltM_s, bnd_s, if_true, if_false, Bool.false_eq_true, Nat.reduceEqDiff, Nat.one_ne_zero]
      · simp only [f_X12_person, J_X12_person_41, J_X12_person_34, e_X12_noPerson (g_thr gw), e_X12_in, hx, hw, ltM_s, bnd_s, e_X12_throwsIf, thr_1, thr_0, ite_bI, if_true, if_false, Bool.false_eq_true, Bool.not_true, Bool.not_false, one_ne0]
    · left
      obtain ⟨p, hp, rfl⟩ := isP_t hx
      obtain ⟨k, hk, rfl⟩ := in_k (m := 7) (by omega) hw
      obtain ⟨r1', r2', r3', r4'⟩ := h_one (σ := σ) (h := 3) (show p < 8 by omega)
      have r1 : σ 4 p = hv σ 3 1 p := r1'.symm
      have r2 : σ 5 p = hv σ 3 2 p := r2'.symm
      have r3 : σ 6 p = hv σ 3 3 p := r3'.symm
      have r4 : σ 7 p = hv σ 3 4 p := r4'.symm
      have hk' : k = 0 ∨ k = 1 ∨ k = 2 ∨ k = 3 ∨ k = 4 ∨ k = 5 ∨ k = 6 ∨ k = 7 := by omega
      have hin : ∀ (s : MS) (m : Nat), m ≤ 7 → f_X12_in (nN m) 0 7 s = some 1 := by
        intro s m hm
        rw [e_X12_in, l7, in_dec hm (by omega)]
        rfl
      rcases hk' with h | h | h | h | h | h | h | h <;> subst h
      · have ek : nN 0 = (0 : Int32) := rfl
        have hi := fun s => hin s 0 (by omega)
        rw [ek] at hi ⊢
        refine ⟨hv σ 3 1 p, ?_, ?_⟩
        · simp (disch := omega) only [f_L_person, f_X11_person, e_needPerson gh, hx, inb_nN, ix_nN, r1, ne_0_1, ne_0_2, ne_0_3, ne_0_4, ne_0_5, ne_0_6, ne_0_7, ne_0_8, ne_0_9, ne_0_10, ne_0_11, ne_0_12, thn_l, thn_r, ltM_s, bnd_s, if_true, if_false, Bool.false_eq_true, Nat.reduceEqDiff, Nat.one_ne_zero]
        · simp (disch := omega) only [f_X12_person, J_X12_person_41, J_X12_person_34, e_X12_noPerson (g_thr (g_out gw _)), hx, hi, e_X12_of0, thr0, out_row, e, ne_0_1, ne_0_2, ne_0_3, ne_0_4, ne_0_5, ne_0_6, ne_0_7, ne_0_8, ne_0_9, ne_0_10, ne_0_11, ne_0_12, ltM_s, bnd_s, e_X12_throwsIf, thr_1, thr_0, ite_bI, if_true, if_false, Bool.false_eq_true, Bool.not_true, Bool.not_false, one_ne0]
      · have ek : nN 1 = (1 : Int32) := rfl
        have hi := fun s => hin s 1 (by omega)
        rw [ek] at hi ⊢
        refine ⟨hv σ 3 2 p, ?_, ?_⟩
        · simp (disch := omega) only [f_L_person, f_X11_person, e_needPerson gh, hx, inb_nN, ix_nN, r2, ne_1_0, ne_1_2, ne_1_3, ne_1_4, ne_1_5, ne_1_6, ne_1_7, ne_1_8, ne_1_9, ne_1_10, ne_1_11, ne_1_12, thn_l, thn_r, ltM_s, bnd_s, if_true, if_false, Bool.false_eq_true, Nat.reduceEqDiff, Nat.one_ne_zero]
        · simp (disch := omega) only [f_X12_person, J_X12_person_41, J_X12_person_34, e_X12_noPerson (g_thr (g_out gw _)), hx, hi, e_X12_of1, thr0, out_row, e, ne_1_0, ne_1_2, ne_1_3, ne_1_4, ne_1_5, ne_1_6, ne_1_7, ne_1_8, ne_1_9, ne_1_10, ne_1_11, ne_1_12, ltM_s, bnd_s, e_X12_throwsIf, thr_1, thr_0, ite_bI, if_true, if_false, Bool.false_eq_true, Bool.not_true, Bool.not_false, one_ne0]
      · have ek : nN 2 = (2 : Int32) := rfl
        have hi := fun s => hin s 2 (by omega)
        rw [ek] at hi ⊢
        refine ⟨hv σ 3 3 p, ?_, ?_⟩
        · simp (disch := omega) only [f_L_person, f_X11_person, e_needPerson gh, hx, inb_nN, ix_nN, r3, ne_2_0, ne_2_1, ne_2_3, ne_2_4, ne_2_5, ne_2_6, ne_2_7, ne_2_8, ne_2_9, ne_2_10, ne_2_11, ne_2_12, thn_l, thn_r, ltM_s, bnd_s, if_true, if_false, Bool.false_eq_true, Nat.reduceEqDiff, Nat.one_ne_zero]
        · simp (disch := omega) only [f_X12_person, J_X12_person_41, J_X12_person_34, e_X12_noPerson (g_thr (g_out gw _)), hx, hi, e_X12_of2, thr0, out_row, e, ne_2_0, ne_2_1, ne_2_3, ne_2_4, ne_2_5, ne_2_6, ne_2_7, ne_2_8, ne_2_9, ne_2_10, ne_2_11, ne_2_12, ltM_s, bnd_s, e_X12_throwsIf, thr_1, thr_0, ite_bI, if_true, if_false, Bool.false_eq_true, Bool.not_true, Bool.not_false, one_ne0]
      · have ek : nN 3 = (3 : Int32) := rfl
        have hi := fun s => hin s 3 (by omega)
        rw [ek] at hi ⊢
        refine ⟨hv σ 3 4 p, ?_, ?_⟩
        · simp (disch := omega) only [f_L_person, f_X11_person, e_needPerson gh, hx, inb_nN, ix_nN, r4, ne_3_0, ne_3_1, ne_3_2, ne_3_4, ne_3_5, ne_3_6, ne_3_7, ne_3_8, ne_3_9, ne_3_10, ne_3_11, ne_3_12, thn_l, thn_r, ltM_s, bnd_s, if_true, if_false, Bool.false_eq_true, Nat.reduceEqDiff, Nat.one_ne_zero]
        · simp (disch := omega) only [f_X12_person, J_X12_person_41, J_X12_person_34, e_X12_noPerson (g_thr (g_out gw _)), hx, hi, e_X12_of3, thr0, out_row, e, ne_3_0, ne_3_1, ne_3_2, ne_3_4, ne_3_5, ne_3_6, ne_3_7, ne_3_8, ne_3_9, ne_3_10, ne_3_11, ne_3_12, ltM_s, bnd_s, e_X12_throwsIf, thr_1, thr_0, ite_bI, if_true, if_false, Bool.false_eq_true, Bool.not_true, Bool.not_false, one_ne0]
      · have ek : nN 4 = (4 : Int32) := rfl
        have hi := fun s => hin s 4 (by omega)
        rw [ek] at hi ⊢
        refine ⟨nN (bndV (hv σ 3) N p), ?_, ?_⟩
        · simp (disch := omega) only [f_L_person, f_X11_person, e_needPerson gh, hx, e_X4_boundTo hn gh, ne_4_0, ne_4_1, ne_4_2, ne_4_3, ne_4_5, ne_4_6, ne_4_7, ne_4_8, ne_4_9, ne_4_10, ne_4_11, ne_4_12, thn_l, thn_r, ltM_s, bnd_s, if_true, if_false, Bool.false_eq_true, Nat.reduceEqDiff, Nat.one_ne_zero]
        · simp (disch := omega) only [f_X12_person, J_X12_person_41, J_X12_person_34, e_X12_noPerson (g_thr (g_out gw _)), hx, hi, e_X12_boundTo hn (g_thr (g_out gw _)), thr0, out_row, e, ne_4_0, ne_4_1, ne_4_2, ne_4_3, ne_4_5, ne_4_6, ne_4_7, ne_4_8, ne_4_9, ne_4_10, ne_4_11, ne_4_12, ltM_s, bnd_s, e_X12_throwsIf, thr_1, thr_0, ite_bI, if_true, if_false, Bool.false_eq_true, Bool.not_true, Bool.not_false, one_ne0]
      · have ek : nN 5 = (5 : Int32) := rfl
        have hi := fun s => hin s 5 (by omega)
        rw [ek] at hi ⊢
        refine ⟨nN (wIt (hv σ 3) N 8 (2 ^ p)), ?_, ?_⟩
        · simp (disch := omega) only [f_L_person, f_X11_person, e_needPerson gh, hx, e_X10_around hn gh, ne_5_0, ne_5_1, ne_5_2, ne_5_3, ne_5_4, ne_5_6, ne_5_7, ne_5_8, ne_5_9, ne_5_10, ne_5_11, ne_5_12, thn_l, thn_r, ltM_s, bnd_s, if_true, if_false, Bool.false_eq_true, Nat.reduceEqDiff, Nat.one_ne_zero]
        · simp (disch := omega) only [f_X12_person, J_X12_person_41, J_X12_person_34, e_X12_noPerson (g_thr (g_out gw _)), hx, hi, e_X12_circleOf hn (g_thr (g_out gw _)), thr0, out_row, e, ne_5_0, ne_5_1, ne_5_2, ne_5_3, ne_5_4, ne_5_6, ne_5_7, ne_5_8, ne_5_9, ne_5_10, ne_5_11, ne_5_12, ltM_s, bnd_s, e_X12_throwsIf, thr_1, thr_0, ite_bI, if_true, if_false, Bool.false_eq_true, Bool.not_true, Bool.not_false, one_ne0]
      · have ek : nN 6 = (6 : Int32) := rfl
        have hi := fun s => hin s 6 (by omega)
        rw [ek] at hi ⊢
        refine ⟨nN (mset N (glV (hv σ 3) N p)), ?_, ?_⟩
        · simp (disch := omega) only [f_L_person, f_X11_person, e_needPerson gh, hx, e_X8_gladder hn gh, ne_6_0, ne_6_1, ne_6_2, ne_6_3, ne_6_4, ne_6_5, ne_6_7, ne_6_8, ne_6_9, ne_6_10, ne_6_11, ne_6_12, thn_l, thn_r, ltM_s, bnd_s, if_true, if_false, Bool.false_eq_true, Nat.reduceEqDiff, Nat.one_ne_zero]
        · simp (disch := omega) only [f_X12_person, J_X12_person_41, J_X12_person_34, e_X12_noPerson (g_thr (g_out gw _)), hx, hi, e_X12_gladderBy hn (g_thr (g_out gw _)), thr0, out_row, e, ne_6_0, ne_6_1, ne_6_2, ne_6_3, ne_6_4, ne_6_5, ne_6_7, ne_6_8, ne_6_9, ne_6_10, ne_6_11, ne_6_12, ltM_s, bnd_s, e_X12_throwsIf, thr_1, thr_0, ite_bI, if_true, if_false, Bool.false_eq_true, Bool.not_true, Bool.not_false, one_ne0]
      · have ek : nN 7 = (7 : Int32) := rfl
        have hi := fun s => hin s 7 (by omega)
        rw [ek] at hi ⊢
        refine ⟨(mostV (hv σ 3) N p).2, ?_, ?_⟩
        · simp (disch := omega) only [f_L_person, f_X11_person, e_needPerson gh, hx, e_X4_closest hn gh, ne_7_0, ne_7_1, ne_7_2, ne_7_3, ne_7_4, ne_7_5, ne_7_6, ne_7_8, ne_7_9, ne_7_10, ne_7_11, ne_7_12, thn_l, thn_r, ltM_s, bnd_s, if_true, if_false, Bool.false_eq_true, Nat.reduceEqDiff, Nat.one_ne_zero]
        · simp (disch := omega) only [f_X12_person, J_X12_person_41, J_X12_person_34, e_X12_noPerson (g_thr (g_out gw _)), hx, hi, e_X12_mostOf hn (g_thr (g_out gw _)), thr0, out_row, e, ne_7_0, ne_7_1, ne_7_2, ne_7_3, ne_7_4, ne_7_5, ne_7_6, ne_7_8, ne_7_9, ne_7_10, ne_7_11, ne_7_12, ltM_s, bnd_s, e_X12_throwsIf, thr_1, thr_0, ite_bI, if_true, if_false, Bool.false_eq_true, Bool.not_true, Bool.not_false, one_ne0]
def Agr (σ : MS) (A : Option (Int32 × MS)) (M : MS → Option (Int32 × MS)) : Prop := (∃ v, A = some (0, mu σ 183 0 v) ∧ M (mu σ 183 0 v) = some (v, mu (mu σ 183 0 v) 171 0 0)) ∨ (∃ c b, c ≠ 0 ∧ A = some (c, σ) ∧ M σ = some (b, mu (mu σ 171 0 0) 171 0 c))
theorem a_bond {j : Nat} {σ : MS} {x1 x2 : Int32} (hI : Inv j σ) (b : Bool) : Agr σ (f_L_bond x1 x2 (bI b) σ) (fun s => f_X12_bond x1 x2 (bI b) s) := by
  obtain ⟨N, e, gh, gw⟩ := Inv_v hI
  have h8 := gw.le8
  cases hxy : (isP N x1 && isP N x2)
  · right
    refine ⟨1, 0, by decide, ?_, ?_⟩
    · simp only [f_L_bond, f_X11_bond, J_X11_bond_31, e_needTwo gh, hxy, thn_l, thn_r, ltM_s, bnd_s, if_true, if_false, Bool.false_eq_true, Nat.reduceEqDiff, Nat.one_ne_zero]
    · simp only [f_X12_bond, J_X12_bond_79, J_X12_bond_37, J_X12_bond_30, e_X12_noBoth (g_thr gw), hxy, ltM_s, bnd_s, e_X12_throwsIf, thr_1, thr_0, ite_bI, if_true, if_false, Bool.false_eq_true, Bool.not_true, Bool.not_false, one_ne0]
  · by_cases c : x1 = x2
    · have c' : (x1 = x2) = True := eq_true c
      right
      refine ⟨2, 0, by decide, ?_, ?_⟩
      · simp only [f_L_bond, f_X11_bond, J_X11_bond_31, e_needTwo gh, hxy, c', thn_l, thn_r, ltM_s, bnd_s, if_true, if_false, Bool.false_eq_true, Nat.reduceEqDiff, Nat.one_ne_zero]
      · simp only [f_X12_bond, J_X12_bond_79, J_X12_bond_37, J_X12_bond_30, e_X12_noBoth (g_thr gw), hxy, c', ltM_s, bnd_s, e_X12_throwsIf, thr_1, thr_0, ite_bI, if_true, if_false, Bool.false_eq_true, Bool.not_true, Bool.not_false, one_ne0]
    · left
      have hx := hxy
      rw [Bool.and_eq_true] at hx
      obtain ⟨p, hp, rfl⟩ := isP_t hx.1
      obtain ⟨o, ho, rfl⟩ := isP_t hx.2
      refine ⟨if b = true then tillV (hv σ 3) p o else heldV (hv σ 3) p o, ?_, ?_⟩
      · simp (disch := omega) only [f_L_bond, f_X11_bond, J_X11_bond_31, e_needTwo gh, hxy, c, e_X4_held, e_X4_heldTill, ite_bI, thn_l, thn_r, ltM_s, bnd_s, if_true, if_false, Bool.false_eq_true, Nat.reduceEqDiff, Nat.one_ne_zero]
        cases b <;> rfl
      · obtain ⟨w5, w6, w7⟩ := w_pair (σ := σ) (p := p) (q := o) (by omega) (by omega)
        simp (disch := omega) only [f_X12_bond, J_X12_bond_79, J_X12_bond_37, J_X12_bond_30, f_X12_both, e_X12_noBoth (g_thr (g_out gw _)), hxy, c, e_X12_bondOf, e_X12_holds, i8', a170, inb_nN, ix_nN, it_t, thr0, out_row, e, ltM_s, bnd_s, e_X12_throwsIf, thr_1, thr_0, ite_bI, if_true, if_false, Bool.false_eq_true, Bool.not_true, Bool.not_false, one_ne0]
        cases b
        · rfl
        · unfold tillV
          rw [w7]
          cases holdsV (rv (σ 172)) p o <;> rfl
theorem s_7 {j n : Nat} {σ : MS} {x1 x2 x3 x4 x5 : Int32} (hn : 6000 ≤ n) (hI : Inv j σ) : ∃ τ, step_7 n x1 x2 x3 x4 x5 σ = some τ ∧ Inv (j + 1) τ := by
  obtain ⟨N, e, gh, gw⟩ := Inv_v hI
  have h8 := gw.le8
  unfold step_7
  by_cases c : x3 = 0
  · simp only [J_L_law__614, J_L_law__647, c, if_true]
    exact s_thr hI (f_L_bond x1 x2 0 σ) (fun s => f_X12_bond x1 x2 0 s) (a_bond hI false)
  · simp only [J_L_law__614, J_L_law__647, c, if_false]
    exact s_thr hI (f_L_bond x1 x2 1 σ) (fun s => f_X12_bond x1 x2 1 s) (a_bond hI true)
theorem m1lt0 : ((-1 : Int32) < 0) = True := by decide
theorem e_X12_trap {σ : MS} {n N k : Nat} (hn : 6000 ≤ n) (g : GW σ N) (h1 : 1 ≤ k) (h6 : k ≤ 6) (b : Bool) : itr (L_X12_trap_35 n (nN k) (bI b) σ) n (-1, 0) = some (if b = true then nN (trN (rv (σ 172)) N ((trapV (rv (σ 172)) N k).getD 0)) else e1 (trapV (rv (σ 172)) N k), σ) := by
  have h8 := g.le8
  obtain ⟨s0, hs0, hs64⟩ := trap_some (V := rv (σ 172)) (N := N) h1 h6
  refine itr_0P (f := L_X12_trap_35 n (nN k) (bI b) σ) (n := n) (fun (a : Option Nat) i => (e1 a, i)) 64 (trapG (rv (σ 172)) N k) (fun a => (if b = true then nN (trN (rv (σ 172)) N (a.getD 0)) else e1 a, σ)) (fun i a => a = fR i (trapG (rv (σ 172)) N k) none ∧ a.getD 0 < 64) (by omega) none ⟨rfl, by decide⟩ ?_ ?_
  · intro s a hs ⟨ha, ha64⟩
    refine ⟨?_, by rw [ha]; rfl, trapG_lt hs ha64⟩
    clear ha
    have hb := bc_le s
    have ht := trN_le (rv (σ 172)) s h8
    unfold trapG
    cases a with
    | none =>
      simp (disch := omega) only [L_X12_trap_35, J_X12_trap_91, J_X12_trap_72, J_X12_trap_69, J_X12_trap_21, l64, le_f, le_t, lt_f, lt_t, if_false, if_true, bnd_s, ite_bI, ok_bI, ok_0, ok_1, ltM_s, nN_s, Option.map_some, inb_nN, ix_nN, it_t, it_f, true_or, or_true, e_bc, e1_n, m1lt0, nN_eq]
      by_cases c : bc s = k
      · simp only [c, if_true, e1_s]
      · simp only [c, if_false, e1_n]
    | some d =>
      have hd : d < 64 := ha64
      have ht2 := trN_le (rv (σ 172)) d h8
      simp (disch := omega) only [L_X12_trap_35, J_X12_trap_91, J_X12_trap_72, J_X12_trap_69, J_X12_trap_21, l64, le_f, le_t, lt_f, lt_t, if_false, if_true, bnd_s, ite_bI, ok_bI, ok_0, ok_1, ltM_s, nN_s, Option.map_some, inb_nN, ix_nN, it_t, it_f, true_or, or_true, e_bc, e1_s, nN_lt0, nN_eq, e_X12_trappedIn hn g, nN_le]
      by_cases c : bc s = k
      · simp only [c, if_true]
        by_cases d2 : trN (rv (σ 172)) N d < trN (rv (σ 172)) N s
        · have d3 : ¬ trN (rv (σ 172)) N s ≤ trN (rv (σ 172)) N d := by omega
          simp only [d2, d3, if_true, if_false, e1_s]
        · have d3 : trN (rv (σ 172)) N s ≤ trN (rv (σ 172)) N d := by omega
          simp only [d2, d3, if_true, if_false, e1_s]
      · simp only [c, if_false, e1_s]
  · intro a ⟨ha, _⟩
    have ha' : a = some s0 := ha.trans hs0
    subst ha'
    simp (disch := omega) only [L_X12_trap_35, J_X12_trap_91, J_X12_trap_72, J_X12_trap_69, J_X12_trap_21, l64, le_f, le_t, lt_f, lt_t, if_false, if_true, bnd_s, ite_bI, ok_bI, ok_0, ok_1, ltM_s, nN_s, Option.map_some, inb_nN, ix_nN, it_t, it_f, true_or, or_true, e1_s, e_X12_trappedIn hn g]
    cases b <;> rfl
theorem a_trap {j n : Nat} {σ : MS} {x1 : Int32} (hn : 6000 ≤ n) (hI : Inv j σ) (b : Bool) : Agr σ (f_L_trap n x1 (bI b) σ) (fun s => f_X12_trap n x1 (bI b) s) := by
  obtain ⟨N, e, gh, gw⟩ := Inv_v hI
  have h8 := gw.le8
  cases hd : decide ((1 : Int32) ≤ x1 ∧ x1 ≤ 6)
  · right
    refine ⟨1, 0, by decide, ?_, ?_⟩
    · simp only [f_L_trap, f_X11_trap, J_X11_trap_33, e_needNumber, hd, thn_l, thn_r, ltM_s, bnd_s, if_true, if_false, Bool.false_eq_true, Nat.reduceEqDiff, Nat.one_ne_zero]
    · simp only [f_X12_trap, J_X12_trap_91, J_X12_trap_72, J_X12_trap_69, J_X12_trap_21, e_X12_in, hd, ltM_s, bnd_s, e_X12_throwsIf, thr_1, thr_0, ite_bI, if_true, if_false, Bool.false_eq_true, Bool.not_true, Bool.not_false, one_ne0]
  · left
    have h' := of_decide_eq_true hd
    rw [Int32.le_iff_toInt_le, Int32.le_iff_toInt_le] at h'
    have z1 : (1 : Int32).toInt = 1 := rfl
    have z6 : (6 : Int32).toInt = 6 := rfl
    rw [z1, z6] at h'
    obtain ⟨k, hk, h1, h6, -⟩ := nN_of (x := x1) (a := 1) (b := 6) (by omega) h'.1 h'.2
    subst hk
    obtain ⟨s0, hs0, hs64⟩ := trap_some (V := hv σ 3) (N := N) (k := k) (by omega) (by omega)
    refine ⟨if b = true then nN (trN (hv σ 3) N ((trapV (hv σ 3) N k).getD 0)) else e1 (trapV (hv σ 3) N k), ?_, ?_⟩
    · simp (disch := omega) only [f_L_trap, f_X11_trap, J_X11_trap_33, e_needNumber, hd, e_X3_catching hn gh, hs0, e1_s, e_X3_caught hn gh, ite_bI, thn_l, thn_r, ltM_s, bnd_s, if_true, if_false, Bool.false_eq_true, Nat.reduceEqDiff, Nat.one_ne_zero]
      cases b <;> rfl
    · simp (disch := omega) only [f_X12_trap, J_X12_trap_91, J_X12_trap_72, J_X12_trap_69, J_X12_trap_21, e_X12_in, hd, e_X12_trap hn (g_thr (g_out gw _)), thr0, out_row, e, ltM_s, bnd_s, e_X12_throwsIf, thr_1, thr_0, ite_bI, if_true, if_false, Bool.false_eq_true, Bool.not_true, Bool.not_false, one_ne0]
theorem s_33 {j n : Nat} {σ : MS} {x1 x2 x3 x4 x5 : Int32} (hn : 6000 ≤ n) (hI : Inv j σ) : ∃ τ, step_33 n x1 x2 x3 x4 x5 σ = some τ ∧ Inv (j + 1) τ := by
  obtain ⟨N, e, gh, gw⟩ := Inv_v hI
  have h8 := gw.le8
  unfold step_33
  by_cases c : x2 = 0
  · simp only [J_L_law__2018, J_L_law__2045, c, if_true]
    exact s_thr hI (f_L_trap n x1 0 σ) (fun s => f_X12_trap n x1 0 s) (a_trap hn hI false)
  · simp only [J_L_law__2018, J_L_law__2045, c, if_false]
    exact s_thr hI (f_L_trap n x1 1 σ) (fun s => f_X12_trap n x1 1 s) (a_trap hn hI true)
theorem s_23 {j n : Nat} {σ : MS} {x1 x2 x3 x4 x5 : Int32} (hn : 6000 ≤ n) (hI : Inv j σ) : ∃ τ, step_23 n x1 x2 x3 x4 x5 σ = some τ ∧ Inv (j + 1) τ := by
  obtain ⟨N, e, gh, gw⟩ := Inv_v hI
  have h8 := gw.le8
  obtain ⟨r, h1, h2⟩ := e_X8_firstLovers hn gh
  unfold step_23
  by_cases c : x1 = 0
  · obtain ⟨r', h3, h4⟩ := e_X12_lovers hn gw 0
    simp only [if_true] at h3
    simp only [J_L_law__1556, J_L_law__1574, f_X11_lovers, J_X11_lovers_21, c, if_true, e_X8_manyLovers hn gh, bnd_s, h3, e]
    exact ⟨_, rfl, Inv_mono (Inv_same hI (Sm_thr σ 0)) (by omega)⟩
  · obtain ⟨r', h3, h4⟩ := e_X12_lovers hn gw 1
    rw [← e] at h4
    have hr := FL_one h8 h2 h4
    simp only [one_ne0, if_false] at h3
    simp only [J_L_law__1556, J_L_law__1574, f_X11_lovers, J_X11_lovers_21, c, if_false, one_ne0, h1, bnd_s, h3, hr, if_true]
    exact ⟨_, rfl, Inv_mono (Inv_same hI (Sm_thr σ 0)) (by omega)⟩
theorem s_4 {j n : Nat} {σ : MS} {x1 x2 x3 x4 x5 : Int32} (hn : 6000 ≤ n) (hI : Inv j σ) : ∃ τ, step_4 n x1 x2 x3 x4 x5 σ = some τ ∧ Inv (j + 1) τ := by
  obtain ⟨N, e, gh, gw⟩ := Inv_v hI
  have h8 := gw.le8
  unfold step_4
  have h := hI.2.2.2.2.2
  have h14 : mu σ 171 0 0 171 14 = σ 171 14 := by rw [mu_at, if_neg (by omega)]
  simp only [f_X11_fault, f_X12_fault, ltM_s, bnd_s, h14, h, if_true]
  exact ⟨_, rfl, Inv_mono (Inv_same hI (Sm_thr σ 0)) (by omega)⟩
