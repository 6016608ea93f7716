/-! layer 2: widest -/
theorem m_widest {σ s0 : MS} {n N k m : Nat} {S : (Nat → Int32) → Int32 → Int32} (σx : MS) (hn : 6000 ≤ n) (hS : LawF σ n S) (hw : ∀ k, k < 1323 → (k = 2 ∨ 474 ≤ k) → s0 172 k = σ 172 k) (g : GW s0 N) (h175 : s0 175 = fun k => if k < 474 then s0 172 k else 0 + s0 175 k) (hk : k ≤ 3) (hm : m < 100) : ∃ τ, itr (L_X12_widest_51 n (nN k) (nN m) σx) n (-1, -1, 0, s0) = some (e1 (fR (2 ^ N) (wdG (nwN S (rv (s0 172)) N k (nN m)) m) none), τ) ∧ (∀ o, o ≠ 171 → o ≠ 179 → τ o = s0 o) ∧ (∀ i, (i < 18 ∨ 21 < i) → τ 171 i = s0 171 i) := by
  have h8 := g.le8
  have hk28 := p28 h8
  have hp2 := p2sub (N := N)
  have gV : GV (rv (s0 172)) N := g
  have key : ∃ c, itr (L_X12_widest_51 n (nN k) (nN m) σx) n (-1, -1, 0, s0) = some c ∧ c.1 = e1 (fR (2 ^ N) (wdG (nwN S (rv (s0 172)) N k (nN m)) m) none) ∧ (∀ o, o ≠ 171 → o ≠ 179 → c.2 o = s0 o) ∧ (∀ i, (i < 18 ∨ 21 < i) → c.2 171 i = s0 171 i) := by
    refine itr_inv (fun i st => ∃ s', st = (e1 (fR i (wdG (nwN S (rv (s0 172)) N k (nN m)) m) none), e1 ((fR i (wdG (nwN S (rv (s0 172)) N k (nN m)) m) none).map (fun x => cD N (holdsV (rv (s0 172))) + nwN S (rv (s0 172)) N k (nN m) x)), nN i, s') ∧ (∀ o, o ≠ 171 → o ≠ 179 → s' o = s0 o) ∧ (∀ i, (i < 18 ∨ 21 < i) → s' 171 i = s0 171 i)) _ (2 ^ N) ?_ ?_ n 0 _ (by omega) (by omega) ⟨s0, rfl, fun _ _ _ => rfl, fun _ _ => rfl⟩
    · rintro x st hx ⟨s', rfl, hs, hs2⟩
      left
      rw [fR_s]
      generalize fR x (wdG (nwN S (rv (s0 172)) N k (nN m)) m) none = A
      have r172 : s' 172 = s0 172 := hs 172 (by omega) (by omega)
      have r175 : s' 175 = s0 175 := hs 175 (by omega) (by omega)
      have gw' : GW s' N := g.row r172
      have hb := bc_le x
      by_cases c : bc x = m
      · obtain ⟨t2, b1, b2, b3, b4, b5, b6⟩ := m_shares (s := s') (N := N) (set := x) (k := k) hn hS (fun k h1 h2 => by rw [r172]; exact hw k h1 h2) gw' (show x < 256 by omega) hk
        rw [r172] at b2 b3
        obtain ⟨-, -, s3⟩ := sh_all (S := S) (V0 := rv (s0 172)) (set := x) (k := k) (many := nN (bc x)) h8
        have gt : GW t2 N := by unfold GW; rw [b2]; exact b3
        have hbond := e_X12_bondsThatHold (σ := t2) hn gt
        have hcnt : cD N (holdsV (rv (t2 172))) = cD N (holdsV (rv (s0 172))) + nwN S (rv (s0 172)) N k (nN m) x := by
          rw [← b2] at s3
          have := bonds_after (V := rv (t2 172)) hS.1 gV gt s3
          rw [c] at this
          exact this
        rw [hcnt] at hbond
        have t175 : t2 175 = s0 175 := by rw [b4 175 (by omega) (by omega) (by omega), r175]
        have hrow : (fun k => if k < 474 then t2 175 k else t2 172 k) = s0 172 := by
          funext i
          by_cases ci : i < 474
          · rw [if_pos ci, t175, h175]
            exact if_pos ci
          · rw [if_neg ci, b6 i (by omega), r172]
        have hbb := e_bringsBack t2 hn
        rw [hrow] at hbb
        have q1 : ∀ o, o ≠ 171 → o ≠ 179 → rsw t2 172 (s0 172) o = s0 o := by
          intro o o1 o2
          by_cases co : o = 172
          · rw [co, rsw_own]
          · rw [rsw_row co, b4 o o1 co o2, hs o o1 o2]
        have q2 : ∀ i, (i < 18 ∨ 21 < i) → rsw t2 172 (s0 172) 171 i = s0 171 i := by
          intro i hi
          rw [rsw_row (by omega), b5 i hi, hs2 i hi]
        have hnw := nwN_le (S := S) (V := rv (s0 172)) (k := k) (set := x) (many := nN m) h8
        have hcd := cD_28 gV
        have hmeq : (nN (bc x) = nN m) = True := by rw [c]; exact eq_true rfl
        have hcond : (nN (2 ^ N - 1) < nN x) = False := lt_f (by omega) (by omega)
        cases A with
        | none =>
          refine ⟨_, ?_, rsw t2 172 (s0 172), rfl, q1, q2⟩
          have hlt : mxI (-1) (nN (cD N (holdsV (rv (s0 172))) + nwN S (rv (s0 172)) N k (nN m) x)) = nN (cD N (holdsV (rv (s0 172))) + nwN S (rv (s0 172)) N k (nN m) x) := mx_r (by rw [nN_m1lt (by omega)]; trivial)
          have hle : (nN (cD N (holdsV (rv (s0 172))) + nwN S (rv (s0 172)) N k (nN m) x) ≤ -1) = False := nN_lem1 (by omega)
          simp only [L_X12_widest_51, J_X12_widest_113, J_X12_widest_103, J_X12_widest_30, J_X12_widest_25, e_X12_everybody gw', bnd_s, hcond, if_false, e_bc s' (show x < 256 by omega), hmeq, if_true, b1, hbond, hbb, Option.map_none, e1_n, hle, hlt, nN_s]
          unfold wdG
          rw [if_pos c]
          rfl
        | some y =>
          have hny := nwN_le (S := S) (V := rv (s0 172)) (k := k) (set := y) (many := nN m) h8
          refine ⟨_, ?_, rsw t2 172 (s0 172), rfl, q1, q2⟩
          simp only [L_X12_widest_51, J_X12_widest_113, J_X12_widest_103, J_X12_widest_30, J_X12_widest_25, e_X12_everybody gw', bnd_s, hcond, if_false, e_bc s' (show x < 256 by omega), hmeq, if_true, b1, hbond, hbb, Option.map_some, e1_s, nN_s]
          rw [it_le (by omega) (by omega), mxI_nN (by omega) (by omega)]
          unfold wdG
          rw [if_pos c]
          by_cases d : nwN S (rv (s0 172)) N k (nN m) y < nwN S (rv (s0 172)) N k (nN m) x
          · rw [if_neg (by omega), Nat.max_eq_right (by omega)]
            simp only [d, if_true, Option.map_some, e1_s]
          · rw [if_pos (by omega), Nat.max_eq_left (by omega)]
            simp only [d, if_false, Option.map_some, e1_s]
      · refine ⟨_, ?_, s', rfl, hs, hs2⟩
        have hmeq : (nN (bc x) = nN m) = False := nN_eqf c (by omega) (by omega)
        have hcond : (nN (2 ^ N - 1) < nN x) = False := lt_f (by omega) (by omega)
        simp only [L_X12_widest_51, J_X12_widest_113, J_X12_widest_103, J_X12_widest_30, J_X12_widest_25, e_X12_everybody gw', bnd_s, hcond, if_false, e_bc s' (show x < 256 by omega), hmeq, nN_s]
        have : wdG (nwN S (rv (s0 172)) N k (nN m)) m x A = A := if_neg c
        rw [this]
    · rintro st ⟨s', rfl, hs, hs2⟩
      have r172 : s' 172 = s0 172 := hs 172 (by omega) (by omega)
      have gw' : GW s' N := g.row r172
      have hcond : (nN (2 ^ N - 1) < nN (2 ^ N)) = True := lt_t (by omega) (by omega)
      simp only [L_X12_widest_51, J_X12_widest_113, J_X12_widest_103, J_X12_widest_30, J_X12_widest_25, e_X12_everybody gw', bnd_s, hcond, if_true, Option.map_some]
      exact ⟨_, rfl, rfl, hs, hs2⟩
  obtain ⟨⟨v, τ⟩, k1, k2, k3, k4⟩ := key
  exact ⟨τ, by rw [k1]; simp only at k2; rw [k2], k3, k4⟩
theorem s_21 {j n : Nat} {σ : MS} {x1 x2 x3 x4 x5 : Int32} (hn : 6000 ≤ n) (hI : Inv j σ) : ∃ τ, step_21 n x1 x2 x3 x4 x5 σ = some τ ∧ Inv (j + 1) τ := by
  obtain ⟨N, e, gh, gw⟩ := Inv_v hI
  have h8 := gw.le8
  obtain ⟨S, hS⟩ := law_is hn hI.2.1
  unfold step_21
  refine s_act hI (f_L_widest n x1 x2 σ) (fun s => f_X12_widest n x1 x2 s) ?_
  cases hs : decide ((0 : Int32) ≤ x1 ∧ x1 ≤ 3)
  · right
    refine ⟨1, 0, by decide, ?_, ?_⟩
    · simp only [f_L_widest, f_X11_widest, e_needNumber, hs, thn_l, thn_r, ltM_s, bnd_s, if_true, if_false, Bool.false_eq_true, Nat.reduceEqDiff, Nat.one_ne_zero]
    · simp only [f_X12_widest, J_X12_widest_113, J_X12_widest_103, J_X12_widest_30, J_X12_widest_25, e_X12_in, hs, ltM_s, bnd_s, e_X12_throwsIf, thr_1, thr_0, ite_bI, if_true, if_false, Bool.false_eq_true, Bool.not_true, Bool.not_false, one_ne0]
  · cases hm : decide ((2 : Int32) ≤ x2 ∧ x2 ≤ 8)
    · right
      refine ⟨1, 0, by decide, ?_, ?_⟩
      · simp only [f_L_widest, f_X11_widest, e_needNumber, hs, hm, thn_l, thn_r, ltM_s, bnd_s, if_true, if_false, Bool.false_eq_true, Nat.reduceEqDiff, Nat.one_ne_zero]
      · simp only [f_X12_widest, J_X12_widest_113, J_X12_widest_103, J_X12_widest_30, J_X12_widest_25, e_X12_in, hs, hm, ltM_s, bnd_s, e_X12_throwsIf, thr_1, thr_0, ite_bI, if_true, if_false, Bool.false_eq_true, Bool.not_true, Bool.not_false, one_ne0]
    · left
      obtain ⟨k, hk, rfl⟩ := in_k (m := 3) (by omega) hs
      have h' := of_decide_eq_true hm
      rw [Int32.le_iff_toInt_le, Int32.le_iff_toInt_le] at h'
      have z1 : (2 : Int32).toInt = 2 := rfl
      have z6 : (8 : Int32).toInt = 8 := rfl
      rw [z1, z6] at h'
      obtain ⟨m, hm2, q1, q2, -⟩ := nN_of (x := x2) (a := 2) (b := 8) (by omega) h'.1 h'.2
      subst hm2
      obtain ⟨t2, a1, a2, a3⟩ := e_foresee (s := σ) (k := k) (many := nN m) hn hS (fun _ _ => rfl) gh hk
      have v2 : hv t2 3 = hv σ 3 := hv_rows (fun k hk => a3 _ (by omega) (by omega) (by omega))
      have gh2 : GH t2 3 N := by unfold GH; rw [v2]; exact gh
      have hb := e_binding (s := t2) (V := hv σ 3) (S := S) (k := k) (many := nN m) (m := m) hn gh2 a2 (by omega)
      rw [e] at hb
      generalize hv1 : e1 (fR (2 ^ N) (wdG (nwN S (rv (σ 172)) N k (nN m)) m) none) = v at hb
      have st2 : Scr σ t2 := fun o ho => a3 o (by rintro rfl; revert ho; decide) (by rintro rfl; revert ho; decide) (by rintro rfl; revert ho; decide)
      generalize hm0 : mu (mu t2 183 0 v) 171 0 0 = m0
      have r172 : m0 172 = σ 172 := by rw [← hm0, mu_row (by omega), mu_row (by omega), a3 172 (by omega) (by omega) (by omega)]
      generalize hm1 : rsw m0 175 (fun k => if k < 474 then m0 172 k else m0 175 k) = m1
      have r172' : m1 172 = σ 172 := by rw [← hm1, rsw_row (by omega)]; exact r172
      have h175 : m1 175 = fun k => if k < 474 then m1 172 k else 0 + m1 175 k := by
        funext i
        rw [← hm1, rsw_own, rsw_row (by omega)]
        by_cases ci : i < 474
        · rw [if_pos ci, if_pos ci]
        · rw [if_neg ci, if_neg ci, Int32.zero_add]
          first | done | rw [if_neg ci]
      obtain ⟨υ, b1, b2, b3⟩ := m_widest (σ := σ) (s0 := m1) (k := k) (m := m) m0 hn hS (fun k _ _ => by rw [r172']) (gw.row r172') h175 hk (by omega)
      rw [r172', hv1] at b1
      have hυo : ∀ o, o ≠ 171 → o ≠ 175 → o ≠ 179 → υ o = m0 o := fun o o1 o2 o3 => by rw [b2 o o1 o3, ← hm1, rsw_row o2]
      have hυ171 : ∀ i, (i < 18 ∨ 21 < i) → υ 171 i = m0 171 i := fun i hi => by rw [b3 i hi, ← hm1, rsw_row (by omega)]
      have hsm : Sm m0 υ := ⟨fun o ho => hυo o (by rintro rfl; revert ho; decide) (by rintro rfl; revert ho; decide) (by rintro rfl; revert ho; decide), by rw [hυo 1 (by omega) (by omega) (by omega)], hυ171 6 (by omega), hυ171 7 (by omega), hυ171 9 (by omega), hυ171 14 (by omega)⟩
      have hfin := scr_fin (v := v) (υ := υ) hI (Scr_Sm st2) (by rw [hm0]; exact hsm) (by rw [hm0]; exact hυ171 0 (by omega)) (by rw [hm0]; exact hυo 183 (by omega) (by omega) (by omega))
      refine ⟨v, t2, υ, ?_, ?_, hfin⟩
      · simp only [f_L_widest, f_X11_widest, f_X1_binding, e_needNumber, hs, hm, a1, hb, thn_l, thn_r, ltM_s, bnd_s, if_true, if_false, Bool.false_eq_true, Nat.reduceEqDiff, Nat.one_ne_zero]
      · simp only [f_X12_widest, J_X12_widest_113, J_X12_widest_103, J_X12_widest_30, J_X12_widest_25, e_X12_in, hs, hm, ltM_s, hm0, ltM_s, bnd_s, e_X12_throwsIf, thr_1, thr_0, ite_bI, if_true, if_false, Bool.false_eq_true, Bool.not_true, Bool.not_false, one_ne0, e_keepsAll m0 hn, hm1, b1]
