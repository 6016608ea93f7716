/-! layer 2: ahead, trial -/
theorem a_ahead {j n : Nat} {σ : MS} {x1 x2 : Int32} (hn : 6000 ≤ n) (hj : j ≤ 600) (hI : Inv j σ) (b : Bool) : (∃ v t2 υ, f_L_ahead n x1 x2 (bI b) σ = some (0, mu t2 183 0 v) ∧ f_X12_ahead n x1 x2 (bI b) (mu t2 183 0 v) = some (v, υ) ∧ υ 171 0 = 0 ∧ υ 183 0 = v ∧ Inv (j + 1) υ) ∨ (∃ c b', c ≠ 0 ∧ f_L_ahead n x1 x2 (bI b) σ = some (c, σ) ∧ f_X12_ahead n x1 x2 (bI b) σ = some (b', mu (mu σ 171 0 0) 171 0 c)) := by
  obtain ⟨N, e, gh, gw⟩ := Inv_v hI
  have h8 := gw.le8
  obtain ⟨S, hS⟩ := law_is hn hI.2.1
  obtain ⟨N', Z, zg, zb, zc, zm⟩ := Inv_Z hI
  have hNN := Inv_N (j := j) zg zm gw
  subst hNN
  have hsu := su_ok hS
  cases hx : isP N' x1
  · right
    refine ⟨1, 0, by decide, ?_, ?_⟩
    · simp only [f_L_ahead, f_X11_ahead, J_X11_ahead_64, e_needPerson gh, hx, thn_l, thn_r, ltM_s, bnd_s, if_true, if_false, Bool.false_eq_true, Nat.reduceEqDiff, Nat.one_ne_zero]
    · simp only [f_X12_ahead, J_X12_ahead_42, e_X12_noPerson (g_thr gw), hx, ltM_s, bnd_s, e_X12_throwsIf, thr_1, thr_0, ite_bI, if_true, if_false, Bool.false_eq_true, Bool.not_true, Bool.not_false, one_ne0]
  · cases hd : decide ((0 : Int32) ≤ x2 ∧ x2 ≤ 400)
    · right
      refine ⟨2, 0, by decide, ?_, ?_⟩
      · simp only [f_L_ahead, f_X11_ahead, J_X11_ahead_64, e_needPerson gh, e_needNumber, hx, hd, thn_l, thn_r, ltM_s, bnd_s, if_true, if_false, Bool.false_eq_true, Nat.reduceEqDiff, Nat.one_ne_zero]
      · simp only [f_X12_ahead, J_X12_ahead_42, J_X12_ahead_35, e_X12_noPerson (g_thr gw), e_X12_in, hx, hd, ltM_s, bnd_s, e_X12_throwsIf, thr_1, thr_0, ite_bI, if_true, if_false, Bool.false_eq_true, Bool.not_true, Bool.not_false, one_ne0]
    · left
      obtain ⟨p, hp, rfl⟩ := isP_t hx
      obtain ⟨D, hD1, hD60, rfl⟩ := num_k (a := 0) (b := 400) (by omega) (by omega) hd
      obtain ⟨τ1, p1, p2, p3⟩ := e_spare zc
      obtain ⟨t2, a1, a2, a3⟩ := c_pass (D := D) hn hS (fun k hk => p3 _ (by omega)) (by omega) zg p2 (by omega) (by omega) false
      have st2 := spare_scr p3 a3
      have r1 : t2 13 p = (dZ (suS σ S) N' false D Z).2.2.1 1 p := by rw [← a2.1]; exact (hv_at (σ := t2) (h := 12) (k := 1) (show p < 8 by omega)).symm
      have r3 : t2 15 p = (dZ (suS σ S) N' false D Z).2.2.1 3 p := by rw [← a2.1]; exact (hv_at (σ := t2) (h := 12) (k := 3) (show p < 8 by omega)).symm
      generalize hv1 : (if b = true then (dZ (suS σ S) N' false D Z).2.2.1 3 p else (dZ (suS σ S) N' false D Z).2.2.1 1 p) = v
      generalize hm0 : mu (mu t2 183 0 v) 171 0 0 = m0
      have r172 : m0 172 = σ 172 := by rw [← hm0, mu_row (by omega), mu_row (by omega), st2 172 (Or.inl (by decide))]
      generalize hm1 : rsw m0 175 (fun k => if k < 474 then m0 172 k else m0 175 k) = m1
      have r172' : m1 172 = σ 172 := by rw [← hm1, rsw_row (by omega)]; exact r172
      have key : ∃ c, itr (L_X12_ahead_51 n (nN p) (nN D) (bI b) m0) n (0, m1) = some c ∧ c.1 = v ∧ c.2 172 = m0 172 ∧ (∀ o, o ≠ 171 → o ≠ 175 → o ≠ 179 → c.2 o = m0 o) ∧ (∀ i, (i < 18 ∨ 21 < i) → c.2 171 i = m0 171 i) := by
        refine itr_inv (fun i st => ∃ s', st = (nN i, s') ∧ MR (s' 172) (dZ (suS σ S) N' false i Z).2 ∧ offM m1 s') _ D ?_ ?_ n 0 _ (by omega) (by omega) ⟨m1, rfl, by rw [r172']; exact zm, offM_refl m1⟩
        · rintro i st hi ⟨s', rfl, hm', ho⟩
          left
          obtain ⟨g', hf'⟩ := dZ_g (dr := false) hsu zg i
          obtain ⟨t, q1, q2, q3⟩ := m_day hn hS (fun k hk => by rw [ho.2.2 k hk, r172']) g' hm' (by omega) false
          have q1' : f_X12_oneDay n 1 s' = some (nN (zDay (suS σ S) N' false (dZ (suS σ S) N' false i Z).2).1 - nN (dZ (suS σ S) N' false i Z).2.1, t) := q1
          refine ⟨_, ?_, t, rfl, q2, offM_trans ho q3⟩
          simp (disch := omega) only [L_X12_ahead_51, le_f, if_false, q1', bnd_s, nN_s]
        · rintro st ⟨s', rfl, hm', ho⟩
          obtain ⟨υ, k1, k2, k3, k4⟩ := bb_back (m0 := m0) (s' := s') hn (by rw [hm1]; exact ho)
          have o0 := e_X12_of0 (σ := s') (show p < 8 by omega)
          have o2 := e_X12_of2 (σ := s') (show p < 8 by omega)
          rw [hm'.1] at o0 o2
          refine ⟨(v, υ), ?_, rfl, k2, k3, k4⟩
          rw [← hv1]
          cases b
          · simp (disch := omega) only [L_X12_ahead_51, J_X12_ahead_80, le_t, if_true, bI_f, o0, k1, bnd_s, Bool.false_eq_true, if_false, Option.map_some]
          · simp (disch := omega) only [L_X12_ahead_51, J_X12_ahead_80, le_t, if_true, bI_t, one_ne0, if_false, o2, k1, bnd_s, Option.map_some]
      obtain ⟨⟨v', υ⟩, b1, b2, b3, b4, b5⟩ := key
      simp only at b2
      subst b2
      have hfin := day_fin hI st2 hm0 b3 b4 b5
      refine ⟨v', t2, υ, ?_, ?_, hfin⟩
      · have b0' : f_X0_pass n 12 30 (nN D) 0 τ1 = some (nN (dZ (suS σ S) N' false D Z).1, t2) := a1
        rw [← hv1]
        cases b
        · simp (disch := omega) only [f_L_ahead, f_X11_ahead, J_X11_ahead_64, e_needPerson gh, e_needNumber, hx, hd, p1, b0', bI_f, inb_nN, ix_nN, it_t, r1, thn_l, thn_r, ltM_s, bnd_s, if_true, if_false, Bool.false_eq_true, Nat.reduceEqDiff, Nat.one_ne_zero]
        · simp (disch := omega) only [f_L_ahead, f_X11_ahead, J_X11_ahead_64, e_needPerson gh, e_needNumber, hx, hd, p1, b0', bI_t, one_ne0, inb_nN, ix_nN, it_t, r3, thn_l, thn_r, ltM_s, bnd_s, if_true, if_false, Bool.false_eq_true, Nat.reduceEqDiff, Nat.one_ne_zero]
      · simp only [f_X12_ahead, J_X12_ahead_35, J_X12_ahead_42, ltM_s, hm0, e_X12_noPerson (gw.row r172), e_X12_in, hx, hd, ltM_s, bnd_s, e_X12_throwsIf, thr_1, thr_0, ite_bI, if_true, if_false, Bool.false_eq_true, Bool.not_true, Bool.not_false, one_ne0, e_keepsAll m0 hn, hm1, b1]
theorem s_38 {j n : Nat} {σ : MS} {x1 x2 x3 x4 x5 : Int32} (hn : 6000 ≤ n) (hj : j ≤ 600) (hI : Inv j σ) : ∃ τ, step_38 n x1 x2 x3 x4 x5 σ = some τ ∧ Inv (j + 1) τ := by
  obtain ⟨N, e, gh, gw⟩ := Inv_v hI
  have h8 := gw.le8
  unfold step_38
  by_cases c : x3 = 0
  · simp only [J_L_law__2363, J_L_law__2396, c, if_true]
    exact s_act hI (f_L_ahead n x1 x2 0 σ) (fun s => f_X12_ahead n x1 x2 0 s) (a_ahead hn hj hI false)
  · simp only [J_L_law__2363, J_L_law__2396, c, if_false]
    exact s_act hI (f_L_ahead n x1 x2 1 σ) (fun s => f_X12_ahead n x1 x2 1 s) (a_ahead hn hj hI true)
def zC (Z : ZS) (c : Int32) : ZS := (Z.1, vset Z.2.1 0 6 c, Z.2.2)
theorem zC_same (Z : ZS) : zC Z (Z.2.1 0 6) = Z := by
  have : vset Z.2.1 0 6 (Z.2.1 0 6) = Z.2.1 := by
    funext k i
    unfold vset
    by_cases c : k = 0 ∧ i = 6
    · rw [if_pos c, c.1, c.2]
    · rw [if_neg c]
  unfold zC
  rw [this]
theorem zC_g {N : Nat} {Z : ZS} (g : ZG N Z) (c : Int32) : ZG N (zC Z c) := ⟨GV_ch6 g.1 c, (show vset Z.2.1 0 6 c 0 7 = nN Z.1 from (vs_ne (by omega)).trans g.2.1), g.2.2⟩
theorem c_try {σ s : MS} {n N D : Nat} {Z : ZS} {S : (Nat → Int32) → Int32 → Int32} (start : Int32) (hn : 6000 ≤ n) (hS : LawF σ n S) (hr : ∀ k, k < 5 → s (30 + k) = σ (30 + k)) (g : ZG N Z) (hc : CR s 3 Z) (hf : Z.1 < 1000000000) (hD : D ≤ 400) : ∃ t, f_X11_tryDays n (nN D) start s = some (nN (prZ (suS σ S) N true D (zC Z start)), t) ∧ CR t 12 (dZ (suS σ S) N true D (zC Z start)).2 ∧ (∀ o, (o < 12 ∨ 20 < o) → o ≠ 35 → o ≠ 36 → t o = s o) := by
  obtain ⟨τ1, p1, p2, p3⟩ := e_spare hc
  generalize hτ2 : mu τ1 12 6 start = τ2
  have hc2 : CR τ2 12 (zC Z start) := by
    refine ⟨?_, ?_⟩
    · rw [← hτ2, hv_mu0 (by omega), p2.1]
      rfl
    · show CL (τ2 20) Z.1 Z.2.2
      rw [← hτ2, mu_row (by omega)]
      exact p2.2
  obtain ⟨t2, a1, a2, a3⟩ := c_pass (D := D) hn hS (fun k hk => by rw [← hτ2, mu_row (by omega), p3 _ (by omega)]; exact hr k hk) (by omega) (zC_g g start) hc2 hf hD true
  have hsu := su_ok hS
  obtain ⟨zg2, zf2⟩ := dZ_g (dr := true) hsu (zC_g g start) D
  have zge := dZ_ge (su := suS σ S) (N := N) (dr := true) (Z := zC Z start) D
  have e12 : t2 12 7 = nN (dZ (suS σ S) N true D (zC Z start)).2.1 := by
    rw [← zg2.2.1, ← a2.1]
    exact (hv_0 t2 12 7 (by omega)).symm
  have e3 : t2 3 7 = nN Z.1 := by
    rw [a3 3 (by omega) (by omega) (by omega), ← hτ2, mu_row (by omega), p3 3 (by omega), ← g.2.1, ← hc.1]
    exact (hv_0 s 3 7 (by omega)).symm
  refine ⟨t2, ?_, a2, fun o o1 o2 o3 => by rw [a3 o (by omega) o2 o3, ← hτ2, mu_row (by omega), p3 o o1]⟩
  have b1' : f_X0_pass n 12 30 (nN D) 1 τ2 = some (nN (dZ (suS σ S) N true D (zC Z start)).1, t2) := a1
  have hval : nN (dZ (suS σ S) N true D (zC Z start)).2.1 - nN Z.1 = nN (prZ (suS σ S) N true D (zC Z start)) := by
    exact nN_sub (b := Z.1) zge
  simp only [f_X11_tryDays, p1, bnd_s, ltM_s, hτ2, b1', e12, e3, hval]
theorem try_scr {σ t : MS} (h : ∀ o, (o < 12 ∨ 20 < o) → o ≠ 35 → o ≠ 36 → t o = σ o) : Scr σ t := by
  intro o ho
  have n1 : o < 12 ∨ 20 < o := by
    apply Classical.byContradiction
    intro hc
    have : o = 12 ∨ o = 13 ∨ o = 14 ∨ o = 15 ∨ o = 16 ∨ o = 17 ∨ o = 18 ∨ o = 19 ∨ o = 20 := by omega
    rcases this with rfl | rfl | rfl | rfl | rfl | rfl | rfl | rfl | rfl <;> revert ho <;> decide
  exact h o n1 (by rintro rfl; revert ho; decide) (by rintro rfl; revert ho; decide)
theorem a_trial {j n : Nat} {σ : MS} {x1 : Int32} (hn : 6000 ≤ n) (hj : j ≤ 600) (hI : Inv j σ) (b : Bool) : (∃ v t2 υ, f_L_trial n x1 (bI b) σ = some (0, mu t2 183 0 v) ∧ f_X12_trial n x1 (bI b) (mu t2 183 0 v) = some (v, υ) ∧ υ 171 0 = 0 ∧ υ 183 0 = v ∧ Inv (j + 1) υ) ∨ (∃ c b', c ≠ 0 ∧ f_L_trial n x1 (bI b) σ = some (c, σ) ∧ f_X12_trial n x1 (bI b) σ = some (b', mu (mu σ 171 0 0) 171 0 c)) := by
  obtain ⟨N, e, gh, gw⟩ := Inv_v hI
  have h8 := gw.le8
  obtain ⟨S, hS⟩ := law_is hn hI.2.1
  obtain ⟨N', Z, zg, zb, zc, zm⟩ := Inv_Z hI
  have hNN := Inv_N (j := j) zg zm gw
  subst hNN
  have hsu := su_ok hS
  cases hd : decide ((0 : Int32) ≤ x1 ∧ x1 ≤ 60)
  · right
    refine ⟨1, 0, by decide, ?_, ?_⟩
    · simp only [f_L_trial, f_X11_trial, J_X11_trial_36, e_needNumber, hd, thn_l, thn_r, ltM_s, bnd_s, if_true, if_false, Bool.false_eq_true, Nat.reduceEqDiff, Nat.one_ne_zero]
    · simp only [f_X12_trial, J_X12_trial_21, e_X12_in, hd, ltM_s, bnd_s, e_X12_throwsIf, thr_1, thr_0, ite_bI, if_true, if_false, Bool.false_eq_true, Bool.not_true, Bool.not_false, one_ne0]
  · left
    obtain ⟨D, hD1, hD60, rfl⟩ := num_k (a := 0) (b := 60) (by omega) (by omega) hd
    have c6 : σ 3 6 = Z.2.1 0 6 := by rw [← zc.1]; exact (hv_0 σ 3 6 (by omega)).symm
    obtain ⟨t2, a1, a2, a3⟩ := c_try (D := D) (Z.2.1 0 6) hn hS (fun _ _ => rfl) zg zc (by omega) (by omega)
    rw [zC_same] at a1 a2
    obtain ⟨zg2, zf2⟩ := dZ_g (dr := true) hsu zg D
    have st2 := try_scr a3
    have gs : GH t2 12 N' := by unfold GH; rw [a2.1]; exact zg2.1
    have esus := e_X4_allSuspicion hn gs
    rw [a2.1] at esus
    generalize hv1 : (if b = true then susV (dZ (suS σ S) N' true D Z).2.2.1 N' else nN (prZ (suS σ S) N' true D Z)) = v
    generalize hm0 : mu (mu t2 183 0 v) 171 0 0 = m0
    have r172 : m0 172 = σ 172 := by rw [← hm0, mu_row (by omega), mu_row (by omega), st2 172 (Or.inl (by decide))]
    generalize hm1 : rsw m0 175 (fun k => if k < 474 then m0 172 k else m0 175 k) = m1
    have r172' : m1 172 = σ 172 := by rw [← hm1, rsw_row (by omega)]; exact r172
    have key : ∃ c, itr (L_X12_trial_39 n (nN D) (bI b) m0) n (0, 0, m1) = some c ∧ c.1 = v ∧ c.2 172 = m0 172 ∧ (∀ o, o ≠ 171 → o ≠ 175 → o ≠ 179 → c.2 o = m0 o) ∧ (∀ i, (i < 18 ∨ 21 < i) → c.2 171 i = m0 171 i) := by
      refine m_sum (D := D) hn hS (fun k _ => by rw [r172']) zg (by rw [r172']; exact zm) (by omega) (by omega) ?_ ?_
      · intro x i s' w t hi ht
        simp (disch := omega) only [L_X12_trial_39, le_f, if_false, ht, bnd_s, nN_s]
      · intro s' hm' ho
        obtain ⟨υ, k1, k2, k3, k4⟩ := bb_back (m0 := m0) (s' := s') hn (by rw [hm1]; exact ho)
        have gws : GW s' N' := by unfold GW; rw [hm'.1]; exact zg2.1
        have es2 := e_X12_suspectedOfAll hn gws
        rw [hm'.1] at es2
        refine ⟨(v, υ), ?_, rfl, k2, k3, k4⟩
        rw [← hv1]
        cases b
        · simp (disch := omega) only [L_X12_trial_39, J_X12_trial_71, le_t, if_true, bI_f, k1, bnd_s, Bool.false_eq_true, if_false, Option.map_some]
        · simp (disch := omega) only [L_X12_trial_39, J_X12_trial_71, le_t, if_true, bI_t, one_ne0, if_false, es2, k1, bnd_s, Option.map_some]
    obtain ⟨⟨v', υ⟩, b1, b2, b3, b4, b5⟩ := key
    simp only at b2
    subst b2
    have hfin := day_fin hI st2 hm0 b3 b4 b5
    refine ⟨v', t2, υ, ?_, ?_, hfin⟩
    · rw [← hv1]
      cases b
      · simp only [f_L_trial, f_X11_trial, J_X11_trial_36, e_needNumber, hd, c6, a1, bI_f, thn_l, thn_r, ltM_s, bnd_s, if_true, if_false, Bool.false_eq_true, Nat.reduceEqDiff, Nat.one_ne_zero]
      · simp only [f_L_trial, f_X11_trial, J_X11_trial_36, e_needNumber, hd, c6, a1, bI_t, one_ne0, esus, thn_l, thn_r, ltM_s, bnd_s, if_true, if_false, Bool.false_eq_true, Nat.reduceEqDiff, Nat.one_ne_zero]
    · simp only [f_X12_trial, J_X12_trial_21, ltM_s, hm0, e_X12_in, hd, ltM_s, bnd_s, e_X12_throwsIf, thr_1, thr_0, ite_bI, if_true, if_false, Bool.false_eq_true, Bool.not_true, Bool.not_false, one_ne0, e_keepsAll m0 hn, hm1, b1]
theorem s_40 {j n : Nat} {σ : MS} {x1 x2 x3 x4 x5 : Int32} (hn : 6000 ≤ n) (hj : j ≤ 600) (hI : Inv j σ) : ∃ τ, step_40 n x1 x2 x3 x4 x5 σ = some τ ∧ Inv (j + 1) τ := by
  obtain ⟨N, e, gh, gw⟩ := Inv_v hI
  have h8 := gw.le8
  unfold step_40
  by_cases c : x2 = 0
  · simp only [J_L_law__2509, J_L_law__2536, c, if_true]
    exact s_act hI (f_L_trial n x1 0 σ) (fun s => f_X12_trial n x1 0 s) (a_trial hn hj hI false)
  · simp only [J_L_law__2509, J_L_law__2536, c, if_false]
    exact s_act hI (f_L_trial n x1 1 σ) (fun s => f_X12_trial n x1 1 s) (a_trial hn hj hI true)
