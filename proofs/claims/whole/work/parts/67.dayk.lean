/-! layer 2: the cases of days -/
theorem num_k {x : Int32} {a b : Nat} (ha : a < 1000) (hb : b < 1000) (h : decide (nN a ≤ x ∧ x ≤ nN b) = true) : ∃ k, a ≤ k ∧ k ≤ b ∧ x = nN k := by
  have h' := of_decide_eq_true h
  rw [Int32.le_iff_toInt_le, Int32.le_iff_toInt_le, nN_toInt (show b < 2147483648 by omega), nN_toInt (show a < 2147483648 by omega)] at h'
  obtain ⟨k, hk, h1, h2, -⟩ := nN_of (x := x) (a := (a : Int)) (b := (b : Int)) (by omega) h'.1 h'.2
  exact ⟨k, by omega, by omega, hk⟩
theorem s_15 {j n : Nat} {σ : MS} {x1 x2 x3 x4 x5 : Int32} (hn : 6000 ≤ n) (hj : j ≤ 600) (hI : Inv j σ) : ∃ τ, step_15 n x1 x2 x3 x4 x5 σ = some τ ∧ Inv (j + 1) τ := by
  obtain ⟨N, e, gh, gw⟩ := Inv_v hI
  have h8 := gw.le8
  obtain ⟨a, c, ha, hc, h15, h16, h7⟩ := Inv_past hI
  obtain ⟨S, hS⟩ := law_is hn hI.2.1
  obtain ⟨N', Z, zg, zb, zc, zm⟩ := Inv_Z hI
  have hNN := Inv_N (j := j) zg zm gw
  subst hNN
  have hsu := su_ok hS
  unfold step_15
  refine s_act hI (f_L_days n x1 σ) (fun s => f_X12_days n x1 s) ?_
  cases hd : decide ((1 : Int32) ≤ x1 ∧ x1 ≤ 60)
  · right
    refine ⟨1, 0, by decide, ?_, ?_⟩
    · simp only [f_L_days, f_X11_days, e_needNumber, hd, thn_l, thn_r, ltM_s, bnd_s, if_true, if_false, Bool.false_eq_true, Nat.reduceEqDiff, Nat.one_ne_zero]
    · simp only [f_X12_days, J_X12_days_21, e_X12_in, hd, ltM_s, bnd_s, e_X12_throwsIf, thr_1, thr_0, ite_bI, if_true, if_false, Bool.false_eq_true, Bool.not_true, Bool.not_false, one_ne0]
  · left
    obtain ⟨D, hD1, hD60, rfl⟩ := num_k (a := 1) (b := 60) (by omega) (by omega) hd
    obtain ⟨τ1, hr1, hr⟩ := e_remember ha hc h15 h16
    have zc1 : CR τ1 3 Z := CR_rows zc (fun k hk => Rem_keep hr (by omega) (by omega))
    obtain ⟨t2, a1, a2, a3⟩ := c_pass (D := D) hn hS (fun k hk => Rem_keep hr (by omega) (by omega)) (by omega) zg zc1 (by omega) (by omega) true
    obtain ⟨zg2, zf2⟩ := dZ_g (dr := true) hsu zg D
    have zge := dZ_ge (su := suS σ S) (N := N') (dr := true) (Z := Z) D
    have e71 : τ1 3 7 = nN Z.1 := by
      rw [← zg.2.1, ← zc1.1]
      exact (hv_0 τ1 3 7 (by omega)).symm
    have e72 : t2 3 7 = nN (dZ (suS σ S) N' true D Z).2.1 := by
      rw [← zg2.2.1, ← a2.1]
      exact (hv_0 t2 3 7 (by omega)).symm
    have hval : nN (dZ (suS σ S) N' true D Z).2.1 - nN Z.1 = nN (prZ (suS σ S) N' true D Z) := by rw [nN_sub zge]; rfl
    generalize hv1 : nN (prZ (suS σ S) N' true D Z) = v at hval
    have t172 : t2 172 = τ1 172 := a3 172 (by omega) (by omega) (by omega)
    have t171 : t2 171 = τ1 171 := a3 171 (by omega) (by omega) (by omega)
    obtain ⟨gw', τ4, hm1, hm2, hm3⟩ := pre_mrem2 (t2 := t2) (v := v) hn hc hr t172 t171 h7 gw
    have key : ∃ b, itr (L_X12_days_38 n (nN D) (mu (mu t2 183 0 v) 171 0 0)) n (0, 0, τ4) = some b ∧ b.1 = v ∧ MR (b.2 172) (dZ (suS σ S) N' true D Z).2 ∧ offM τ4 b.2 := by
      refine m_sum (D := D) hn hS (fun k _ => by rw [hm3]) zg (by rw [hm3]; exact zm) (by omega) (by omega) ?_ ?_
      · intro x i s' w t hi ht
        simp (disch := omega) only [L_X12_days_38, le_f, if_false, ht, bnd_s, nN_s]
      · intro s' q1 q2
        refine ⟨(v, s'), ?_, rfl, q1, q2⟩
        simp (disch := omega) only [L_X12_days_38, le_t, if_true, hv1, Option.map_some]
    obtain ⟨⟨v', υ⟩, b1, b2, b3, b4⟩ := key
    simp only at b2
    subst b2
    have hfin := act_fin2 (υ := υ) (v := v') hI ha hc h15 h16 hr
      (fun o ho h3 => a3 o (by omega) (by rintro rfl; revert ho; decide) (by rintro rfl; revert ho; decide))
      (a3 1 (by omega) (by omega) (by omega)) t171 hm2
      (fun o ho hn => b4.1 o (by rintro rfl; revert ho; decide) hn (by rintro rfl; revert ho; decide)) (b4.1 1 (by omega) (by omega) (by omega)) (b4.1 183 (by omega) (by omega) (by omega))
      (fun k hk => b4.2.1 k (by omega)) (fun k _ hk => b4.2.2 k hk)
      (Z_HR zg2 (by omega) a2.1 a2.2 b3)
    refine ⟨v', t2, υ, ?_, ?_, hfin.1, hfin.2.1, hfin.2.2⟩
    · have b1' : (1 : Int32) = bI true := rfl
      simp only [f_L_days, f_X11_days, e_needNumber, hd, hr1, thn_l, if_true, bnd_s]
      rw [b1', a1]
      simp only [bnd_s, e71, e72, hval, thn_l, ltM_s]
    · simp only [f_X12_days, J_X12_days_21, e_X12_in, hd, hm1, b1, ltM_s, bnd_s, e_X12_throwsIf, thr_1, thr_0, ite_bI, if_true, if_false, Bool.false_eq_true, Bool.not_true, Bool.not_false, one_ne0]
theorem e_spare {σ : MS} {Z : ZS} (zc : CR σ 3 Z) : ∃ τ, f_X4_become 12 3 σ = some (0, τ) ∧ CR τ 12 Z ∧ (∀ o, (o < 12 ∨ 20 < o) → τ o = σ o) := by
  obtain ⟨τ, h1, h2⟩ := e_become σ (h0 := 12) (h1 := 3) (by omega)
  exact ⟨τ, h1, CR_bec zc h2, fun o ho => h2.2.2 o (by omega)⟩
theorem spare_scr {σ τ t : MS} (h1 : ∀ o, (o < 12 ∨ 20 < o) → τ o = σ o) (h2 : offD 12 τ t) : Scr σ t := by
  intro o ho
  have n1 : o < 12 ∨ 20 < o := by
    apply Classical.byContradiction
    intro hc
    have : o = 12 ∨ o = 13 ∨ o = 14 ∨ o = 15 ∨ o = 16 ∨ o = 17 ∨ o = 18 ∨ o = 19 ∨ o = 20 := by omega
    rcases this with rfl | rfl | rfl | rfl | rfl | rfl | rfl | rfl | rfl <;> revert ho <;> decide
  rw [h2 o (by omega) (by rintro rfl; revert ho; decide) (by rintro rfl; revert ho; decide), h1 o n1]
theorem day_fin {j : Nat} {σ t2 m0 υ : MS} {v : Int32} (hI : Inv j σ) (h1 : Scr σ t2) (hm0 : mu (mu t2 183 0 v) 171 0 0 = m0) (h2 : υ 172 = m0 172) (h3 : ∀ o, o ≠ 171 → o ≠ 175 → o ≠ 179 → υ o = m0 o) (h4 : ∀ i, (i < 18 ∨ 21 < i) → υ 171 i = m0 171 i) : υ 171 0 = 0 ∧ υ 183 0 = v ∧ Inv (j + 1) υ := by
  have hsm : Sm m0 υ := ⟨fun o ho => h3 o (by rintro rfl; revert ho; decide) (by rintro rfl; revert ho; decide) (by rintro rfl; revert ho; decide), by rw [h3 1 (by omega) (by omega) (by omega)], h4 6 (by omega), h4 7 (by omega), h4 9 (by omega), h4 14 (by omega)⟩
  exact scr_fin (v := v) (υ := υ) hI (Scr_Sm h1) (by rw [hm0]; exact hsm) (by rw [hm0]; exact h4 0 (by omega)) (by rw [hm0]; exact h3 183 (by omega) (by omega) (by omega))
theorem s_39 {j n : Nat} {σ : MS} {x1 x2 x3 x4 x5 : Int32} (hn : 6000 ≤ n) (hj : j ≤ 600) (hI : Inv j σ) : ∃ τ, step_39 n x1 x2 x3 x4 x5 σ = some τ ∧ Inv (j + 1) τ := by
  obtain ⟨N, e, gh, gw⟩ := Inv_v hI
  have h8 := gw.le8
  obtain ⟨S, hS⟩ := law_is hn hI.2.1
  obtain ⟨N', Z, zg, zb, zc, zm⟩ := Inv_Z hI
  have hNN := Inv_N (j := j) zg zm gw
  subst hNN
  have hsu := su_ok hS
  unfold step_39
  refine s_act hI (f_L_calm n x1 σ) (fun s => f_X12_calm n x1 s) ?_
  cases hd : decide ((0 : Int32) ≤ x1 ∧ x1 ≤ 400)
  · right
    refine ⟨1, 0, by decide, ?_, ?_⟩
    · simp only [f_L_calm, f_X11_calm, e_needNumber, hd, thn_l, thn_r, ltM_s, bnd_s, if_true, if_false, Bool.false_eq_true, Nat.reduceEqDiff, Nat.one_ne_zero]
    · simp only [f_X12_calm, J_X12_calm_58, J_X12_calm_22, e_X12_in, hd, ltM_s, bnd_s, e_X12_throwsIf, thr_1, thr_0, ite_bI, if_true, if_false, Bool.false_eq_true, Bool.not_true, Bool.not_false, one_ne0]
  · left
    obtain ⟨D, hD1, hD60, rfl⟩ := num_k (a := 0) (b := 400) (by omega) (by omega) hd
    obtain ⟨τ1, p1, p2, p3⟩ := e_spare zc
    obtain ⟨t2, a1, a2, a3⟩ := c_pass (D := D) hn hS (fun k hk => p3 _ (by omega)) (by omega) zg p2 (by omega) (by omega) false
    have st2 := spare_scr p3 a3
    generalize hv1 : nN (dZ (suS σ S) N' false D Z).1 = v at a1
    generalize hm0 : mu (mu t2 183 0 v) 171 0 0 = m0
    have r172 : m0 172 = σ 172 := by rw [← hm0, mu_row (by omega), mu_row (by omega), st2 172 (Or.inl (by decide))]
    generalize hm1 : rsw m0 175 (fun k => if k < 474 then m0 172 k else m0 175 k) = m1
    have r172' : m1 172 = σ 172 := by rw [← hm1, rsw_row (by omega)]; exact r172
    have key : ∃ b, itr (L_X12_calm_39 n (nN D) m0) n (0, 0, m1) = some b ∧ b.1 = v ∧ b.2 172 = m0 172 ∧ (∀ o, o ≠ 171 → o ≠ 175 → o ≠ 179 → b.2 o = m0 o) ∧ (∀ i, (i < 18 ∨ 21 < i) → b.2 171 i = m0 171 i) := by
      refine itr_inv (fun i st => ∃ s', st = (nN (dZ (suS σ S) N' false i Z).1, nN i, s') ∧ MR (s' 172) (dZ (suS σ S) N' false i Z).2 ∧ offM m1 s') _ D ?_ ?_ n 0 _ (by omega) (by omega) ⟨m1, rfl, by rw [r172']; exact zm, offM_refl m1⟩
      · rintro i st hi ⟨s', rfl, hm', ho⟩
        left
        obtain ⟨g', hf'⟩ := dZ_g (dr := false) hsu zg i
        obtain ⟨t, q1, q2, q3⟩ := m_day hn hS (fun k hk => by rw [ho.2.2 k hk, r172']) g' hm' (by omega) false
        have q1' : f_X12_oneDay n 1 s' = some (nN (zDay (suS σ S) N' false (dZ (suS σ S) N' false i Z).2).1 - nN (dZ (suS σ S) N' false i Z).2.1, t) := q1
        have hge := day_ge (su := suS σ S) (N := N') (dr := false) (Z := (dZ (suS σ S) N' false i Z).2)
        obtain ⟨gd, hfd⟩ := ZG_day false hsu g'
        rw [nN_sub hge] at q1'
        have es : dZ (suS σ S) N' false (i + 1) Z = dG (suS σ S) N' false i (dZ (suS σ S) N' false i Z) := rfl
        refine ⟨_, ?_, t, rfl, q2, offM_trans ho q3⟩
        have zz : (0 : Int32) = nN 0 := rfl
        simp (disch := omega) only [L_X12_calm_39, J_X12_calm_58, le_f, if_false, q1', bnd_s, nN_s]
        rw [es]
        unfold dG
        rw [zz, it_eq (by omega) (by omega)]
        by_cases c : (zDay (suS σ S) N' false (dZ (suS σ S) N' false i Z).2).1 = (dZ (suS σ S) N' false i Z).2.1
        · rw [if_pos (by omega), if_pos c]
        · rw [if_neg (by omega), if_neg c, nN_add]
          rfl
      · rintro st ⟨s', rfl, hm', ho⟩
        obtain ⟨υ, k1, k2, k3, k4⟩ := bb_back (m0 := m0) (s' := s') hn (by rw [hm1]; exact ho)
        refine ⟨(v, υ), ?_, rfl, k2, k3, k4⟩
        simp (disch := omega) only [L_X12_calm_39, le_t, if_true, k1, bnd_s, hv1, Option.map_some]
    obtain ⟨⟨v', υ⟩, b1, b2, b3, b4, b5⟩ := key
    simp only at b2
    subst b2
    have hfin := day_fin hI st2 hm0 b3 b4 b5
    refine ⟨v', t2, υ, ?_, ?_, hfin⟩
    · have b0' : (0 : Int32) = bI false := rfl
      simp only [f_L_calm, f_X11_calm, e_needNumber, hd, p1, thn_l, if_true, bnd_s]
      rw [b0', a1]
      rfl
    · simp only [f_X12_calm, J_X12_calm_22, e_X12_in, hd, ltM_s, hm0, ltM_s, bnd_s, e_X12_throwsIf, thr_1, thr_0, ite_bI, if_true, if_false, Bool.false_eq_true, Bool.not_true, Bool.not_false, one_ne0, e_keepsAll m0 hn, hm1, b1]
