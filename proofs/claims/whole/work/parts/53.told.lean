/-! layer 2: told -/
/-- rows that are scratch -/
def Scr (s t : MS) : Prop := ∀ o, es o = true ∨ o = 0 ∨ o = 1 ∨ o = 171 ∨ o = 183 → t o = s o
theorem Scr_Sm {s t : MS} (h : Scr s t) : Sm s t := ⟨fun o ho => h o (Or.inl ho), by rw [h 1 (by omega)], by rw [h 171 (by omega)], by rw [h 171 (by omega)], by rw [h 171 (by omega)], by rw [h 171 (by omega)]⟩
theorem Scr_c {s t : MS} (h : ∀ o, o ≠ 35 → o ≠ 36 → t o = s o) : Scr s t := fun o ho => h o (by rintro rfl; revert ho; decide) (by rintro rfl; revert ho; decide)
theorem scr_fin {j : Nat} {σ t2 υ : MS} {v : Int32} (hI : Inv j σ) (h1 : Sm σ t2) (h2 : Sm (mu (mu t2 183 0 v) 171 0 0) υ) (h3 : υ 171 0 = (mu (mu t2 183 0 v) 171 0 0) 171 0) (h4 : υ 183 = (mu (mu t2 183 0 v) 171 0 0) 183) : υ 171 0 = 0 ∧ υ 183 0 = v ∧ Inv (j + 1) υ := by
  refine ⟨by rw [h3, mu_own]; rfl, by rw [h4, mu_row (by omega), mu_own]; rfl, ?_⟩
  exact Inv_mono (Inv_same hI (Sm_trans h1 (Sm_trans (Sm_out t2 v) (Sm_trans (Sm_thr _ 0) h2)))) (by omega)
theorem s_8 {j n : Nat} {σ : MS} {x1 x2 x3 x4 x5 : Int32} (hn : 6000 ≤ n) (hI : Inv j σ) : ∃ τ, step_8 n x1 x2 x3 x4 x5 σ = some τ ∧ Inv (j + 1) τ := by
  obtain ⟨N, e, gh, gw⟩ := Inv_v hI
  have h8 := gw.le8
  obtain ⟨S, hS⟩ := law_is hn hI.2.1
  unfold step_8
  refine s_act hI (f_L_told n x1 x2 x3 x4 x5 σ) (fun s => f_X12_told n x1 x2 x3 x4 x5 s) ?_
  cases hxy : (isP N x1 && isP N x2)
  · right
    refine ⟨1, 0, by decide, ?_, ?_⟩
    · simp only [f_L_told, f_X11_told, e_needTwo gh, hxy, thn_l, thn_r, ltM_s, bnd_s, if_true, if_false, Bool.false_eq_true, Nat.reduceEqDiff, Nat.one_ne_zero]
    · simp only [f_X12_told, J_X12_told_140, J_X12_told_108, J_X12_told_96, J_X12_told_80, J_X12_told_73, J_X12_told_50, J_X12_told_45, e_X12_noBoth (g_thr gw), hxy, ltM_s, bnd_s, e_X12_throwsIf, thr_1, thr_0, ite_bI, if_true, if_false, Bool.false_eq_true, Bool.not_true, Bool.not_false, one_ne0]
  · by_cases ce : x1 = x2
    · have c' : (x1 = x2) = True := eq_true ce
      right
      refine ⟨2, 0, by decide, ?_, ?_⟩
      · simp only [f_L_told, f_X11_told, e_needTwo gh, hxy, c', thn_l, thn_r, ltM_s, bnd_s, if_true, if_false, Bool.false_eq_true, Nat.reduceEqDiff, Nat.one_ne_zero]
      · simp only [f_X12_told, J_X12_told_140, J_X12_told_108, J_X12_told_96, J_X12_told_80, J_X12_told_73, J_X12_told_50, J_X12_told_45, e_X12_noBoth (g_thr gw), hxy, c', ltM_s, bnd_s, e_X12_throwsIf, thr_1, thr_0, ite_bI, if_true, if_false, Bool.false_eq_true, Bool.not_true, Bool.not_false, one_ne0]
    · cases hs : decide ((0 : Int32) ≤ x3 ∧ x3 ≤ 3)
      · right
        refine ⟨2, 0, by decide, ?_, ?_⟩
        · simp only [f_L_told, f_X11_told, e_needTwo gh, hxy, ce, e_needNumber, hs, thn_l, thn_r, ltM_s, bnd_s, if_true, if_false, Bool.false_eq_true, Nat.reduceEqDiff, Nat.one_ne_zero]
        · simp only [f_X12_told, J_X12_told_140, J_X12_told_108, J_X12_told_96, J_X12_told_80, J_X12_told_73, J_X12_told_50, J_X12_told_45, e_X12_noBoth (g_thr gw), hxy, ce, e_X12_in, hs, ltM_s, bnd_s, e_X12_throwsIf, thr_1, thr_0, ite_bI, if_true, if_false, Bool.false_eq_true, Bool.not_true, Bool.not_false, one_ne0]
      · cases hm : decide ((2 : Int32) ≤ x4 ∧ x4 ≤ 8)
        · right
          refine ⟨2, 0, by decide, ?_, ?_⟩
          · simp only [f_L_told, f_X11_told, e_needTwo gh, hxy, ce, e_needNumber, hs, hm, thn_l, thn_r, ltM_s, bnd_s, if_true, if_false, Bool.false_eq_true, Nat.reduceEqDiff, Nat.one_ne_zero]
          · simp only [f_X12_told, J_X12_told_140, J_X12_told_108, J_X12_told_96, J_X12_told_80, J_X12_told_73, J_X12_told_50, J_X12_told_45, e_X12_noBoth (g_thr gw), hxy, ce, e_X12_in, hs, hm, ltM_s, bnd_s, e_X12_throwsIf, thr_1, thr_0, ite_bI, if_true, if_false, Bool.false_eq_true, Bool.not_true, Bool.not_false, one_ne0]
        · cases hw : decide ((0 : Int32) ≤ x5 ∧ x5 ≤ 2)
          · right
            refine ⟨3, 0, by decide, ?_, ?_⟩
            · have nk : ∀ k : Nat, k ≤ 2 → ¬ x5 = nN k := by
                intro k hk hh
                rw [hh, l2, in_dec hk (by omega)] at hw
                cases hw
              have n0 : ¬ x5 = 0 := nk 0 (by omega)
              have n1 : ¬ x5 = 1 := nk 1 (by omega)
              have n2 : ¬ x5 = 2 := nk 2 (by omega)
              simp only [f_L_told, f_X11_told, e_needTwo gh, hxy, ce, e_needNumber, hs, hm, n0, n1, n2, thn_l, thn_r, ltM_s, bnd_s, if_true, if_false, Bool.false_eq_true, Nat.reduceEqDiff, Nat.one_ne_zero]
            · simp only [f_X12_told, J_X12_told_140, J_X12_told_108, J_X12_told_96, J_X12_told_80, J_X12_told_73, J_X12_told_50, J_X12_told_45, e_X12_noBoth (g_thr gw), hxy, ce, e_X12_in, hs, hm, hw, ltM_s, bnd_s, e_X12_throwsIf, thr_1, thr_0, ite_bI, if_true, if_false, Bool.false_eq_true, Bool.not_true, Bool.not_false, one_ne0]
          · left
            have hx := hxy
            rw [Bool.and_eq_true] at hx
            obtain ⟨p, hp, rfl⟩ := isP_t hx.1
            obtain ⟨q, hq, rfl⟩ := isP_t hx.2
            obtain ⟨k, hk, rfl⟩ := in_k (m := 2) (by omega) hw
            have hk' : k = 0 ∨ k = 1 ∨ k = 2 := by omega
            have mn : mnI (nN p) (nN q) = nN (min p q) := mnI_nN (by omega) (by omega)
            have mx : mxI (nN p) (nN q) = nN (max p q) := mxI_nN (by omega) (by omega)
            have lmin : min p q < 8 := by omega
            have lmax : max p q < 8 := by omega
            rcases hk' with rfl | rfl | rfl
            · have ek : nN 0 = (0 : Int32) := rfl
              rw [ek] at hw ⊢
              obtain ⟨t2, a1, a2⟩ := e_bindsBy (σ := σ) (s := σ) (n := n) (h := 3) (sip := x3) (many := x4) hS (fun _ _ => rfl) (by omega) lmin lmax
              have st2 := Scr_c a2
              have r172 : mu (mu t2 183 0 (bnS S (hv σ 3) (min p q) (max p q) x3 x4)) 171 0 0 172 = σ 172 := by rw [mu_row (by omega), mu_row (by omega), st2 172 (Or.inl (by decide))]
              obtain ⟨t3, b1, b2, b3, b4⟩ := e_looks (s := mu (mu t2 183 0 (bnS S (hv σ 3) (min p q) (max p q) x3 x4)) 171 0 0) (sip := x3) (many := x4) (show p < 8 by omega) (show q < 8 by omega)
              have r3 : t3 172 = σ 172 := by rw [b4 172 (by omega), r172]
              obtain ⟨υ, c1, c2⟩ := m_bindsBy (σ := σ) (s := t3) (n := n) hS (fun k _ _ => by rw [r3]) b2 lmin lmax
              rw [r3, ← e] at c1
              have gw2 : GW (mu (mu t2 183 0 (bnS S (hv σ 3) (min p q) (max p q) x3 x4)) 171 0 0) N := gw.row r172
              have hsm : Sm (mu (mu t2 183 0 (bnS S (hv σ 3) (min p q) (max p q) x3 x4)) 171 0 0) υ := by
                refine ⟨fun o ho => ?_, ?_, ?_, ?_, ?_, ?_⟩
                · rw [c2 o (by rintro rfl; revert ho; decide), b4 o (by rintro rfl; revert ho; decide)]
                · rw [c2 1 (by omega), b4 1 (by omega)]
                · rw [c2 171 (by omega), b3 6 (by omega)]
                · rw [c2 171 (by omega), b3 7 (by omega)]
                · rw [c2 171 (by omega), b3 9 (by omega)]
                · rw [c2 171 (by omega), b3 14 (by omega)]
              have hfin := scr_fin hI (Scr_Sm st2) hsm (by rw [c2 171 (by omega), b3 0 (by omega)]) (by rw [c2 183 (by omega), b4 183 (by omega)])
              refine ⟨bnS S (hv σ 3) (min p q) (max p q) x3 x4, t2, υ, ?_, ?_, hfin⟩
              · simp only [f_L_told, f_X11_told, e_needTwo gh, hxy, ce, e_needNumber, hs, hm, mn, mx, ne_0_1, ne_0_2, a1, thn_l, thn_r, ltM_s, bnd_s, if_true, if_false, Bool.false_eq_true, Nat.reduceEqDiff, Nat.one_ne_zero]
              · simp only [f_X12_told, J_X12_told_140, J_X12_told_108, J_X12_told_96, J_X12_told_80, J_X12_told_73, J_X12_told_50, J_X12_told_45, e_X12_noBoth gw2, hxy, ce, e_X12_in, hs, hm, hw, ne_0_1, ne_0_2, b1, c1, ltM_s, bnd_s, e_X12_throwsIf, thr_1, thr_0, ite_bI, if_true, if_false, Bool.false_eq_true, Bool.not_true, Bool.not_false, one_ne0]
            · have ek : nN 1 = (1 : Int32) := rfl
              rw [ek] at hw ⊢
              obtain ⟨t2, a1, a2⟩ := e_lastsFor (σ := σ) (s := σ) (n := n) (h := 3) (sip := x3) (many := x4) hS (fun _ _ => rfl) (by omega) lmin lmax
              have st2 := Scr_c a2
              have r172 : mu (mu t2 183 0 (lsS S (hv σ 3) (min p q) (max p q) x3 x4)) 171 0 0 172 = σ 172 := by rw [mu_row (by omega), mu_row (by omega), st2 172 (Or.inl (by decide))]
              obtain ⟨t3, b1, b2, b3, b4⟩ := e_looks (s := mu (mu t2 183 0 (lsS S (hv σ 3) (min p q) (max p q) x3 x4)) 171 0 0) (sip := x3) (many := x4) (show p < 8 by omega) (show q < 8 by omega)
              have r3 : t3 172 = σ 172 := by rw [b4 172 (by omega), r172]
              obtain ⟨υ, c1, c2⟩ := m_lastsFor (σ := σ) (s := t3) (n := n) hS (fun k _ _ => by rw [r3]) b2 lmin lmax
              rw [r3, ← e] at c1
              have gw2 : GW (mu (mu t2 183 0 (lsS S (hv σ 3) (min p q) (max p q) x3 x4)) 171 0 0) N := gw.row r172
              have hsm : Sm (mu (mu t2 183 0 (lsS S (hv σ 3) (min p q) (max p q) x3 x4)) 171 0 0) υ := by
                refine ⟨fun o ho => ?_, ?_, ?_, ?_, ?_, ?_⟩
                · rw [c2 o (by rintro rfl; revert ho; decide), b4 o (by rintro rfl; revert ho; decide)]
                · rw [c2 1 (by omega), b4 1 (by omega)]
                · rw [c2 171 (by omega), b3 6 (by omega)]
                · rw [c2 171 (by omega), b3 7 (by omega)]
                · rw [c2 171 (by omega), b3 9 (by omega)]
                · rw [c2 171 (by omega), b3 14 (by omega)]
              have hfin := scr_fin hI (Scr_Sm st2) hsm (by rw [c2 171 (by omega), b3 0 (by omega)]) (by rw [c2 183 (by omega), b4 183 (by omega)])
              refine ⟨lsS S (hv σ 3) (min p q) (max p q) x3 x4, t2, υ, ?_, ?_, hfin⟩
              · simp only [f_L_told, f_X11_told, e_needTwo gh, hxy, ce, e_needNumber, hs, hm, mn, mx, ne_1_0, ne_1_2, a1, thn_l, thn_r, ltM_s, bnd_s, if_true, if_false, Bool.false_eq_true, Nat.reduceEqDiff, Nat.one_ne_zero]
              · simp only [f_X12_told, J_X12_told_140, J_X12_told_108, J_X12_told_96, J_X12_told_80, J_X12_told_73, J_X12_told_50, J_X12_told_45, e_X12_noBoth gw2, hxy, ce, e_X12_in, hs, hm, hw, ne_1_0, ne_1_2, b1, c1, ltM_s, bnd_s, e_X12_throwsIf, thr_1, thr_0, ite_bI, if_true, if_false, Bool.false_eq_true, Bool.not_true, Bool.not_false, one_ne0]
            · have ek : nN 2 = (2 : Int32) := rfl
              rw [ek] at hw ⊢
              obtain ⟨t2, a1, a2⟩ := e_suspectsBy (σ := σ) (s := σ) (n := n) (h := 3) hS (fun _ _ => rfl) (by omega) lmin lmax
              have st2 := Scr_c a2
              have r172 : mu (mu t2 183 0 (suS σ S (hv σ 3) (min p q) (max p q))) 171 0 0 172 = σ 172 := by rw [mu_row (by omega), mu_row (by omega), st2 172 (Or.inl (by decide))]
              obtain ⟨t3, b1, b2, b3, b4⟩ := e_looks (s := mu (mu t2 183 0 (suS σ S (hv σ 3) (min p q) (max p q))) 171 0 0) (sip := 0) (many := 0) (show p < 8 by omega) (show q < 8 by omega)
              have r3 : t3 172 = σ 172 := by rw [b4 172 (by omega), r172]
              obtain ⟨υ, c1, c2⟩ := m_suspectsBy (σ := σ) (s := t3) (n := n) hS (fun k _ _ => by rw [r3]) b2 lmin lmax
              rw [r3, ← e] at c1
              have gw2 : GW (mu (mu t2 183 0 (suS σ S (hv σ 3) (min p q) (max p q))) 171 0 0) N := gw.row r172
              have hsm : Sm (mu (mu t2 183 0 (suS σ S (hv σ 3) (min p q) (max p q))) 171 0 0) υ := by
                refine ⟨fun o ho => ?_, ?_, ?_, ?_, ?_, ?_⟩
                · rw [c2 o (by rintro rfl; revert ho; decide), b4 o (by rintro rfl; revert ho; decide)]
                · rw [c2 1 (by omega), b4 1 (by omega)]
                · rw [c2 171 (by omega), b3 6 (by omega)]
                · rw [c2 171 (by omega), b3 7 (by omega)]
                · rw [c2 171 (by omega), b3 9 (by omega)]
                · rw [c2 171 (by omega), b3 14 (by omega)]
              have hfin := scr_fin hI (Scr_Sm st2) hsm (by rw [c2 171 (by omega), b3 0 (by omega)]) (by rw [c2 183 (by omega), b4 183 (by omega)])
              refine ⟨suS σ S (hv σ 3) (min p q) (max p q), t2, υ, ?_, ?_, hfin⟩
              · simp only [f_L_told, f_X11_told, e_needTwo gh, hxy, ce, e_needNumber, hs, hm, mn, mx, ne_2_0, ne_2_1, a1, thn_l, thn_r, ltM_s, bnd_s, if_true, if_false, Bool.false_eq_true, Nat.reduceEqDiff, Nat.one_ne_zero]
              · simp only [f_X12_told, J_X12_told_140, J_X12_told_108, J_X12_told_96, J_X12_told_80, J_X12_told_73, J_X12_told_50, J_X12_told_45, e_X12_noBoth gw2, hxy, ce, e_X12_in, hs, hm, hw, ne_2_0, ne_2_1, b1, c1, ltM_s, bnd_s, e_X12_throwsIf, thr_1, thr_0, ite_bI, if_true, if_false, Bool.false_eq_true, Bool.not_true, Bool.not_false, one_ne0]
