theorem s_10 {j n : Nat} {σ : MS} {x1 x2 x3 x4 x5 : Int32} (hn : 6000 ≤ n) (hI : Inv j σ) : ∃ τ, step_10 n x1 x2 x3 x4 x5 σ = some τ ∧ Inv (j + 1) τ := by
  obtain ⟨N, e, gh, gw⟩ := Inv_v hI
  have h8 := gw.le8
  obtain ⟨a, c, ha, hc, h15, h16, h7⟩ := Inv_past hI
  unfold step_10
  refine s_act hI (f_L_wash x1 x2 σ) (fun s => f_X12_wash n x1 x2 s) ?_
  cases hxy : (isP N x1 && isP N x2)
  · right
    refine ⟨1, 0, by decide, ?_, ?_⟩
    · simp only [f_L_wash, f_X11_wash, e_needTwo gh, hxy, thn_l, thn_r, ltM_s, bnd_s, if_true, if_false, Bool.false_eq_true, Nat.reduceEqDiff, Nat.one_ne_zero]
    · simp only [f_X12_wash, J_X12_wash_37, J_X12_wash_30, e_X12_noBoth (g_thr gw), hxy, ltM_s, bnd_s, e_X12_throwsIf, thr_1, thr_0, ite_bI, if_true, if_false, Bool.false_eq_true, Bool.not_true, Bool.not_false, one_ne0]
  · by_cases ce : x1 = x2
    · have c' : (x1 = x2) = True := eq_true ce
      right
      refine ⟨2, 0, by decide, ?_, ?_⟩
      · simp only [f_L_wash, f_X11_wash, e_needTwo gh, hxy, c', thn_l, thn_r, ltM_s, bnd_s, if_true, if_false, Bool.false_eq_true, Nat.reduceEqDiff, Nat.one_ne_zero]
      · simp only [f_X12_wash, J_X12_wash_37, J_X12_wash_30, e_X12_noBoth (g_thr gw), hxy, c', ltM_s, bnd_s, e_X12_throwsIf, thr_1, thr_0, ite_bI, if_true, if_false, Bool.false_eq_true, Bool.not_true, Bool.not_false, one_ne0]
    · left
      have hx := hxy
      rw [Bool.and_eq_true] at hx
      obtain ⟨p, hp, rfl⟩ := isP_t hx.1
      obtain ⟨q, hq, rfl⟩ := isP_t hx.2
      have hpq : p ≠ q := fun h => ce (by rw [h])
      obtain ⟨τ1, hr1, hr⟩ := e_remember ha hc h15 h16
      obtain ⟨ev, gh1⟩ := Rem_g hr gh
      obtain ⟨t2, ht1, ht2, ht3⟩ := e_X4_tie (σ := τ1) (h := 3) (s := 0) (t := 0) (show p < 8 by omega) (show q < 8 by omega)
      obtain ⟨gw', τ4, hm1, hm2, hm3⟩ := pre_mrem (t2 := t2) (v := heldV (hv σ 3) p q) hn hc hr (fun o ho => ht3 o (by omega) (by omega)) h7 gw
      obtain ⟨υ, hb1, hb2, hb3, hb4⟩ := e_X12_binds (σ := τ4) (s := 0) (t := 0) (show p < 8 by omega) (show q < 8 by omega)
      rw [hm3] at hb2
      have hfin := act_fin (υ := υ) (v := heldV (hv σ 3) p q) hI ha hc h15 h16 hr (fun o ho => ht3 o (by omega) (by omega)) (ht3 11 (by omega) (by omega)) hm2 hb3 (fun k hk => hb4 k (by omega)) (by rw [ht2, hb2, ev, e]) ⟨N, by rw [hb2]; exact GV_tie gw (by omega) (by omega) hpq ⟨0, rfl, by omega⟩ ⟨0, rfl, by omega⟩⟩
      refine ⟨heldV (hv σ 3) p q, t2, υ, ?_, ?_, hfin.1, hfin.2.1, hfin.2.2⟩
      · simp (disch := omega) only [f_L_wash, f_X11_wash, e_needTwo gh, hxy, ce, hr1, e_X4_held, ev, ht1, thn_l, thn_r, ltM_s, bnd_s, if_true, if_false, Bool.false_eq_true, Nat.reduceEqDiff, Nat.one_ne_zero]
      · simp (disch := omega) only [f_X12_wash, J_X12_wash_37, J_X12_wash_30, e_X12_noBoth gw', hxy, ce, hm1, e_X12_bondOf, hm3, hb1, ltM_s, bnd_s, e_X12_throwsIf, thr_1, thr_0, ite_bI, if_true, if_false, Bool.false_eq_true, Bool.not_true, Bool.not_false, one_ne0]
        rw [e]
theorem s_11 {j n : Nat} {σ : MS} {x1 x2 x3 x4 x5 : Int32} (hn : 6000 ≤ n) (hI : Inv j σ) : ∃ τ, step_11 n x1 x2 x3 x4 x5 σ = some τ ∧ Inv (j + 1) τ := by
  obtain ⟨N, e, gh, gw⟩ := Inv_v hI
  have h8 := gw.le8
  obtain ⟨a, c, ha, hc, h15, h16, h7⟩ := Inv_past hI
  unfold step_11
  refine s_act hI (f_L_go x1 x2 σ) (fun s => f_X12_go n x1 x2 s) ?_
  cases hx : isP N x1
  · right
    refine ⟨1, 0, by decide, ?_, ?_⟩
    · simp only [f_L_go, f_X11_go, e_needPerson gh, hx, thn_l, thn_r, ltM_s, bnd_s, if_true, if_false, Bool.false_eq_true, Nat.reduceEqDiff, Nat.one_ne_zero]
    · simp only [f_X12_go, J_X12_go_26, J_X12_go_21, e_X12_noPerson (g_thr gw), hx, ltM_s, bnd_s, e_X12_throwsIf, thr_1, thr_0, ite_bI, if_true, if_false, Bool.false_eq_true, Bool.not_true, Bool.not_false, one_ne0]
  · cases hr2 : isR x2
    · right
      refine ⟨1, 0, by decide, ?_, ?_⟩
      · simp only [f_L_go, f_X11_go, e_needPerson gh, e_needRoom, hx, hr2, thn_l, thn_r, ltM_s, bnd_s, if_true, if_false, Bool.false_eq_true, Nat.reduceEqDiff, Nat.one_ne_zero]
      · simp only [f_X12_go, J_X12_go_26, J_X12_go_21, e_X12_noPerson (g_thr gw), e_X12_noRoom, hx, hr2, ltM_s, bnd_s, e_X12_throwsIf, thr_1, thr_0, ite_bI, if_true, if_false, Bool.false_eq_true, Bool.not_true, Bool.not_false, one_ne0]
    · left
      obtain ⟨p, hp, rfl⟩ := isP_t hx
      obtain ⟨r, hr6, rfl⟩ := isR_t hr2
      obtain ⟨τ1, hr1, hr⟩ := e_remember ha hc h15 h16
      obtain ⟨ev, gh1⟩ := Rem_g hr gh
      have hv0 : τ1 4 p = rv (σ 172) 1 p := by rw [← e, ← ev]; exact (hv_at (σ := τ1) (h := 3) (k := 1) (show p < 8 by omega)).symm
      have ht3 : ∀ o, o ≠ 4 → (mu τ1 4 p (nN r)) o = τ1 o := fun o ho => mu_row ho
      have ht2 : hv (mu τ1 4 p (nN r)) 3 = vset (rv (σ 172)) 1 p (nN r) := by rw [← e, ← ev]; exact hv_mu (h := 3) (k := 1) (show p < 8 by omega)
      obtain ⟨gw', τ4, hm1, hm2, hm3⟩ := pre_mrem (t2 := mu τ1 4 p (nN r)) (v := rv (σ 172) 1 p) hn hc hr (fun o ho => ht3 o (by omega)) h7 gw
      have hb2 : rv (mu τ4 172 (10 + 4 * p) (nN r) 172) = vset (rv (σ 172)) 1 p (nN r) := by
        rw [mu_rset, hm3]
        exact rv_set (k := 1) (show p < 8 by omega)
      have hfin := act_fin (υ := mu τ4 172 (10 + 4 * p) (nN r)) (v := rv (σ 172) 1 p) hI ha hc h15 h16 hr (fun o ho => ht3 o (by omega)) (ht3 11 (by omega)) hm2 (fun o ho => mu_row ho) (fun k hk => by rw [mu_at, if_neg (by omega)]) (by rw [ht2, hb2]) ⟨N, by rw [hb2]; exact GV_1 gw (fun k i hk => by unfold vset; rw [if_neg (by omega)]) (fun x hx8 => by
        unfold vset
        by_cases cx : x = p
        · rw [if_pos ⟨rfl, cx⟩]
          exact ⟨r, rfl, hr6⟩
        · rw [if_neg (by omega)]
          exact room_of gw hx8)⟩
      refine ⟨rv (σ 172) 1 p, mu τ1 4 p (nN r), mu τ4 172 (10 + 4 * p) (nN r), ?_, ?_, hfin.1, hfin.2.1, hfin.2.2⟩
      · simp (disch := omega) only [f_L_go, f_X11_go, e_needPerson gh, hx, e_needRoom, hr2, hr1, inb_nN, ix_nN, hv0, thn_l, thn_r, ltM_s, bnd_s, if_true, if_false, Bool.false_eq_true, Nat.reduceEqDiff, Nat.one_ne_zero]
      · simp (disch := omega) only [f_X12_go, J_X12_go_26, J_X12_go_21, f_X12_at, e_X12_noPerson gw', hx, e_X12_noRoom, hr2, hm1, e_X12_of0, hm3, a10_0, inb_nN, ix_nN, ltM_s, bnd_s, e_X12_throwsIf, thr_1, thr_0, ite_bI, if_true, if_false, Bool.false_eq_true, Bool.not_true, Bool.not_false, one_ne0]
theorem s_14 {j n : Nat} {σ : MS} {x1 x2 x3 x4 x5 : Int32} (hn : 6000 ≤ n) (hI : Inv j σ) : ∃ τ, step_14 n x1 x2 x3 x4 x5 σ = some τ ∧ Inv (j + 1) τ := by
  obtain ⟨N, e, gh, gw⟩ := Inv_v hI
  have h8 := gw.le8
  obtain ⟨a, c, ha, hc, h15, h16, h7⟩ := Inv_past hI
  unfold step_14
  refine s_act hI (f_L_clear x1 σ) (fun s => f_X12_clear n x1 s) ?_
  cases hx : isP N x1
  · right
    refine ⟨1, 0, by decide, ?_, ?_⟩
    · simp only [f_L_clear, f_X11_clear, e_needPerson gh, hx, thn_l, thn_r, ltM_s, bnd_s, if_true, if_false, Bool.false_eq_true, Nat.reduceEqDiff, Nat.one_ne_zero]
    · simp only [f_X12_clear, e_X12_noPerson (g_thr gw), hx, ltM_s, bnd_s, e_X12_throwsIf, thr_1, thr_0, ite_bI, if_true, if_false, Bool.false_eq_true, Bool.not_true, Bool.not_false, one_ne0]
  · · left
      obtain ⟨p, hp, rfl⟩ := isP_t hx
      obtain ⟨τ1, hr1, hr⟩ := e_remember ha hc h15 h16
      obtain ⟨ev, gh1⟩ := Rem_g hr gh
      have hv0 : τ1 6 p = rv (σ 172) 3 p := by rw [← e, ← ev]; exact (hv_at (σ := τ1) (h := 3) (k := 3) (show p < 8 by omega)).symm
      have ht3 : ∀ o, o ≠ 6 → (mu τ1 6 p 0) o = τ1 o := fun o ho => mu_row ho
      have ht2 : hv (mu τ1 6 p 0) 3 = vset (rv (σ 172)) 3 p 0 := by rw [← e, ← ev]; exact hv_mu (h := 3) (k := 3) (show p < 8 by omega)
      obtain ⟨gw', τ4, hm1, hm2, hm3⟩ := pre_mrem (t2 := mu τ1 6 p 0) (v := rv (σ 172) 3 p) hn hc hr (fun o ho => ht3 o (by omega)) h7 gw
      have hb2 : rv (mu τ4 172 (12 + 4 * p) 0 172) = vset (rv (σ 172)) 3 p 0 := by
        rw [mu_rset, hm3]
        exact rv_set (k := 3) (show p < 8 by omega)
      have hfin := act_fin (υ := mu τ4 172 (12 + 4 * p) 0) (v := rv (σ 172) 3 p) hI ha hc h15 h16 hr (fun o ho => ht3 o (by omega)) (ht3 11 (by omega)) hm2 (fun o ho => mu_row ho) (fun k hk => by rw [mu_at, if_neg (by omega)]) (by rw [ht2, hb2]) ⟨N, by rw [hb2]; exact GV_3 gw (fun k i hk => by unfold vset; rw [if_neg (by omega)]) (by
        have gw2 : GV (rv (σ 172)) N := gw
        obtain ⟨-, -, -, -, -, -, -, -, ⟨s1, s2⟩, -⟩ := gw2
        refine ⟨fun x hx8 => ?_, fun x hx8 hxN => ?_⟩
        · unfold vset
          by_cases cx : x = p
          · rw [if_pos ⟨rfl, cx⟩]
            exact ⟨0, rfl, by omega⟩
          · rw [if_neg (by omega)]
            exact s1 x hx8
        · unfold vset
          rw [if_neg (by omega)]
          exact s2 x hx8 hxN)⟩
      refine ⟨rv (σ 172) 3 p, mu τ1 6 p 0, mu τ4 172 (12 + 4 * p) 0, ?_, ?_, hfin.1, hfin.2.1, hfin.2.2⟩
      · simp (disch := omega) only [f_L_clear, f_X11_clear, e_needPerson gh, hx, hr1, inb_nN, ix_nN, hv0, thn_l, thn_r, ltM_s, bnd_s, if_true, if_false, Bool.false_eq_true, Nat.reduceEqDiff, Nat.one_ne_zero]
      · simp (disch := omega) only [f_X12_clear, f_X12_at, e_X12_noPerson gw', hx, hm1, e_X12_of2, hm3, a10_2, inb_nN, ix_nN, ltM_s, bnd_s, e_X12_throwsIf, thr_1, thr_0, ite_bI, if_true, if_false, Bool.false_eq_true, Bool.not_true, Bool.not_false, one_ne0]
