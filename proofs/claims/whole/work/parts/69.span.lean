/-! layer 2: span -/
/-- the span over the starts 1 .. x -/
def spG (su : HV → Nat → Nat → Int32) (N D : Nat) (Z : ZS) (b : Bool) (i : Nat) (a : Nat) : Nat := if b = true then max a (prZ su N true D (zC Z (nN (2 + i)))) else min a (prZ su N true D (zC Z (nN (2 + i))))
def spZ (su : HV → Nat → Nat → Int32) (N D : Nat) (Z : ZS) (b : Bool) (m : Nat) : Nat := fR m (spG su N D Z b) (prZ su N true D (zC Z (nN 1)))
theorem pr_le {su : HV → Nat → Nat → Int32} {N D : Nat} {Z : ZS} (hsu : SuB su) (g : ZG N Z) : prZ su N true D Z ≤ 64 * D := by
  obtain ⟨-, h⟩ := dZ_g (dr := true) hsu g D
  unfold prZ
  omega
theorem sp_le {su : HV → Nat → Nat → Int32} {N D : Nat} {Z : ZS} {b : Bool} (hsu : SuB su) (g : ZG N Z) : ∀ m, spZ su N D Z b m ≤ 64 * D := by
  intro m
  induction m with
  | zero => exact pr_le hsu (zC_g g _)
  | succ m ih =>
    have h := pr_le (D := D) hsu (zC_g g (nN (2 + m)))
    have e : spZ su N D Z b (m + 1) = spG su N D Z b m (spZ su N D Z b m) := rfl
    rw [e]
    unfold spG
    split <;> omega
theorem a_span {j n : Nat} {σ : MS} {x1 : Int32} (hn : 6000 ≤ n) (hj : j ≤ 600) (hI : Inv j σ) (b : Bool) : (∃ v t2 υ, f_L_span n x1 (bI b) σ = some (0, mu t2 183 0 v) ∧ f_X12_span n x1 (bI b) (mu t2 183 0 v) = some (v, υ) ∧ υ 171 0 = 0 ∧ υ 183 0 = v ∧ Inv (j + 1) υ) ∨ (∃ c b', c ≠ 0 ∧ f_L_span n x1 (bI b) σ = some (c, σ) ∧ f_X12_span n x1 (bI b) σ = some (b', mu (mu σ 171 0 0) 171 0 c)) := by
  obtain ⟨N, e, gh, gw⟩ := Inv_v hI
  have h8 := gw.le8
  obtain ⟨S, hS⟩ := law_is hn hI.2.1
  obtain ⟨N', Z, zg, zb, zc, zm⟩ := Inv_Z hI
  have hNN := Inv_N (j := j) zg zm gw
  subst hNN
  have hsu := su_ok hS
  cases hd : decide ((0 : Int32) ≤ x1 ∧ x1 ≤ 60)
  · right
    refine ⟨1, 0, by decide, ?_, ?_⟩
    · simp only [f_L_span, f_X11_span, e_needNumber, hd, thn_l, thn_r, ltM_s, bnd_s, if_true, if_false, Bool.false_eq_true, Nat.reduceEqDiff, Nat.one_ne_zero]
    · simp only [f_X12_span, J_X12_span_21, e_X12_in, hd, ltM_s, bnd_s, e_X12_throwsIf, thr_1, thr_0, ite_bI, if_true, if_false, Bool.false_eq_true, Bool.not_true, Bool.not_false, one_ne0]
  · left
    obtain ⟨D, hD1, hD60, rfl⟩ := num_k (a := 0) (b := 60) (by omega) (by omega) hd
    -- the program
    obtain ⟨u0, a1, a2, a3⟩ := c_try (D := D) (nN 1) hn hS (fun _ _ => rfl) zg zc (by omega) (by omega)
    have pk : ∃ c, itr (L_X11_span_18 n (nN D) (bI b) σ) n (nN (spZ (suS σ S) N' D Z b 0), nN 2, u0) = some c ∧ c.1 = .inl (nN (spZ (suS σ S) N' D Z b 5)) ∧ (∀ o, (o < 12 ∨ 20 < o) → o ≠ 35 → o ≠ 36 → c.2 o = σ o) := by
      refine itr_inv (fun i st => ∃ s', st = (nN (spZ (suS σ S) N' D Z b i), nN (2 + i), s') ∧ (∀ o, (o < 12 ∨ 20 < o) → o ≠ 35 → o ≠ 36 → s' o = σ o)) _ 5 ?_ ?_ n 0 _ (by omega) (by omega) ⟨u0, rfl, a3⟩
      · rintro i st hi ⟨s', rfl, hs⟩
        left
        obtain ⟨t, q1, q2, q3⟩ := c_try (s := s') (D := D) (nN (2 + i)) hn hS (fun k hk => hs _ (by omega) (by omega) (by omega)) zg (CR_rows zc (fun k hk => hs _ (by omega) (by omega) (by omega))) (by omega) (by omega)
        have hl := sp_le (b := b) (D := D) hsu zg i
        have hp := pr_le (D := D) hsu (zC_g zg (nN (2 + i)))
        refine ⟨_, ?_, t, rfl, fun o o1 o2 o3 => (q3 o o1 o2 o3).trans (hs o o1 o2 o3)⟩
        have es : spZ (suS σ S) N' D Z b (i + 1) = spG (suS σ S) N' D Z b i (spZ (suS σ S) N' D Z b i) := rfl
        rw [es]
        unfold spG
        simp (disch := omega) only [L_X11_span_18, J_X11_span_53, l6, lt_f, if_false, q1, bnd_s, ite_bI, mnI_nN, mxI_nN, nN_s]
        cases b <;> rfl
      · rintro st ⟨s', rfl, hs⟩
        refine ⟨(.inl (nN (spZ (suS σ S) N' D Z b 5)), s'), ?_, rfl, hs⟩
        simp (disch := omega) only [L_X11_span_18, l6, lt_t, if_true, Option.map_some]
    obtain ⟨⟨pv, t2⟩, p1, p2, p3⟩ := pk
    simp only at p2 p3
    subst p2
    have st2 := try_scr p3
    generalize hv1 : nN (spZ (suS σ S) N' D Z b 5) = v at p1
    generalize hm0 : mu (mu t2 183 0 v) 171 0 0 = m0
    have r172 : m0 172 = σ 172 := by rw [← hm0, mu_row (by omega), mu_row (by omega), st2 172 (Or.inl (by decide))]
    generalize hm1 : rsw m0 175 (fun k => if k < 474 then m0 172 k else m0 175 k) = m1
    have r172' : m1 172 = σ 172 := by rw [← hm1, rsw_row (by omega)]; exact r172
    -- one start of the reference
    have one : ∀ (x : Nat) (best : Int32) (s' : MS), x < 100 → s' 172 = σ 172 → offM m1 s' → ∃ c, itr (L_X12_span_61 n (nN D) (bI b) best (nN x) m0) n (0, 0, mu s' 172 9 (nN x)) = some c ∧ ∃ s'', c = .inl ((if 0 ≤ best then (if b = true then mxI best (nN (prZ (suS σ S) N' true D (zC Z (nN x)))) else mnI best (nN (prZ (suS σ S) N' true D (zC Z (nN x))))) else nN (prZ (suS σ S) N' true D (zC Z (nN x)))), nN (x + 1), s'') ∧ s'' 172 = σ 172 ∧ offM m1 s'' := by
      intro x best s' hx hs ho
      have oc : offM s' (mu s' 172 9 (nN x)) := offM_w (by omega) (by omega)
      have zmc : MR (mu s' 172 9 (nN x) 172) (zC Z (nN x)) := by
        obtain ⟨z1, z2, z3⟩ := zm
        rw [mu_rset, hs]
        refine ⟨?_, ML_w z2 (by omega), ?_⟩
        · show rv (rset (σ 172) 9 (nN x)) = vset Z.2.1 0 6 (nN x)
          rw [rv_lo (j := 9) (k := 0) (i := 6) (by decide) rfl, z1]
        · show rset (σ 172) 9 (nN x) 8 = nN (min Z.1 60)
          unfold rset
          rw [if_neg (by omega)]
          exact z3
      refine m_sum (D := D) hn hS (fun k hk => by rw [oc.2.2 k hk, hs]) (zC_g zg (nN x)) zmc (show Z.1 < 1000000000 by omega) (by omega) ?_ ?_
      · intro y i s2 w t hi ht
        simp (disch := omega) only [L_X12_span_61, le_f, if_false, ht, bnd_s, nN_s]
      · intro s2 hm' ho2
        have oall := offM_trans ho (offM_trans oc ho2)
        obtain ⟨υ, k1, k2, k3, k4⟩ := bb_back (m0 := m0) (s' := s2) hn (by rw [hm1]; exact oall)
        refine ⟨_, ?_, υ, rfl, by rw [k2, r172], ?_⟩
        · simp (disch := omega) only [L_X12_span_61, J_X12_span_115, le_t, if_true, k1, bnd_s, nN_s, ite_bI]
          by_cases c1 : (0 : Int32) ≤ best
          · simp only [c1, if_true]
            cases b <;> rfl
          · simp only [c1, if_false]
            rfl
        · refine ⟨fun o o1 o2 o3 => ?_, fun i hi => by rw [k4 i hi, ← hm1, rsw_row (by omega)], fun k hk => by rw [k2, ← hm1, rsw_row (by omega)]⟩
          by_cases c5 : o = 175
          · rw [c5]
            have e175 : f_X12_bringsBack n s2 = some (0, rsw s2 172 (fun k => if k < 474 then s2 175 k else s2 172 k)) := e_bringsBack s2 hn
            rw [k1] at e175
            have eυ : υ = rsw s2 172 (fun k => if k < 474 then s2 175 k else s2 172 k) := (Prod.mk.inj (Option.some.inj e175)).2
            rw [eυ, rsw_row (by omega)]
            exact oall.1 175 (by omega) (by omega) (by omega)
          · rw [k3 o o1 c5 o3, ← hm1, rsw_row c5]
    have key : ∃ c, itr (L_X12_span_39 n (nN D) (bI b) m0) n (-1, 1, m1) = some c ∧ c.1 = v ∧ c.2 172 = σ 172 ∧ offM m1 c.2 := by
      refine itr_inv (fun i st => ∃ s', st = ((if i = 0 then -1 else nN (spZ (suS σ S) N' D Z b (i - 1))), nN (1 + i), s') ∧ s' 172 = σ 172 ∧ offM m1 s') _ 6 ?_ ?_ n 0 _ (by omega) (by omega) ⟨m1, rfl, r172', offM_refl m1⟩
      · rintro i st hi ⟨s', rfl, hs, ho⟩
        left
        obtain ⟨c, k1, s'', rfl, k2, k3⟩ := one (1 + i) (if i = 0 then -1 else nN (spZ (suS σ S) N' D Z b (i - 1))) s' (by omega) hs ho
        have hval : (if (0 : Int32) ≤ (if i = 0 then -1 else nN (spZ (suS σ S) N' D Z b (i - 1))) then (if b = true then mxI (if i = 0 then -1 else nN (spZ (suS σ S) N' D Z b (i - 1))) (nN (prZ (suS σ S) N' true D (zC Z (nN (1 + i))))) else mnI (if i = 0 then -1 else nN (spZ (suS σ S) N' D Z b (i - 1))) (nN (prZ (suS σ S) N' true D (zC Z (nN (1 + i)))))) else nN (prZ (suS σ S) N' true D (zC Z (nN (1 + i))))) = nN (spZ (suS σ S) N' D Z b i) := by
          by_cases c0 : i = 0
          · subst c0
            have z0 : ¬ (0 : Int32) ≤ -1 := by decide
            simp only [if_true, z0, if_false]
            rfl
          · obtain ⟨i', rfl⟩ : ∃ i', i = i' + 1 := ⟨i - 1, by omega⟩
            have hl := sp_le (b := b) (D := D) hsu zg i'
            have hp := pr_le (D := D) hsu (zC_g zg (nN (1 + (i' + 1))))
            have z1 : (0 : Int32) ≤ nN (spZ (suS σ S) N' D Z b i') := by rw [nN_0le (by omega)]; trivial
            simp only [c0, if_false, show i' + 1 - 1 = i' by omega, z1, if_true]
            have es : spZ (suS σ S) N' D Z b (i' + 1) = spG (suS σ S) N' D Z b i' (spZ (suS σ S) N' D Z b i') := rfl
            rw [es]
            unfold spG
            rw [mxI_nN (by omega) (by omega), mnI_nN (by omega) (by omega), show 2 + i' = 1 + (i' + 1) by omega]
            cases b <;> rfl
        rw [hval] at k1
        refine ⟨(nN (spZ (suS σ S) N' D Z b i), nN (1 + (i + 1)), s''), ?_, s'', ?_, k2, k3⟩
        · simp (disch := omega) only [L_X12_span_39, l6, lt_f, if_false, ltM_s, k1]
          rfl
        · rw [if_neg (show ¬ i + 1 = 0 by omega), show i + 1 - 1 = i by omega]
      · rintro st ⟨s', rfl, hs, ho⟩
        refine ⟨(v, s'), ?_, rfl, hs, ho⟩
        simp (disch := omega) only [L_X12_span_39, l6, lt_t, if_true, Option.map_some]
        rw [← hv1]
        rfl
    obtain ⟨⟨v', υ⟩, b1, b2, b3, b4⟩ := key
    simp only at b2 b3 b4
    subst b2
    have hfin := day_fin (υ := υ) hI st2 hm0 (by rw [b3, r172]) (fun o o1 o2 o3 => by
      by_cases c : o = 172
      · rw [c, b3, r172]
      · rw [b4.1 o o1 c o3, ← hm1, rsw_row o2]) (fun i hi => by rw [b4.2.1 i hi, ← hm1, rsw_row (by omega)])
    refine ⟨v', t2, υ, ?_, ?_, hfin⟩
    · have a1' : f_X11_tryDays n (nN D) 1 σ = some (nN (spZ (suS σ S) N' D Z b 0), u0) := a1
      have l2' : (2 : Int32) = nN 2 := rfl
      simp only [f_L_span, f_X11_span, e_needNumber, hd, thn_l, if_true, bnd_s, a1']
      rw [l2', p1]
      rfl
    · simp only [f_X12_span, J_X12_span_21, ltM_s, hm0, e_X12_in, hd, ltM_s, bnd_s, e_X12_throwsIf, thr_1, thr_0, ite_bI, if_true, if_false, Bool.false_eq_true, Bool.not_true, Bool.not_false, one_ne0, e_keepsAll m0 hn, hm1, b1]
theorem s_41 {j n : Nat} {σ : MS} {x1 x2 x3 x4 x5 : Int32} (hn : 6000 ≤ n) (hj : j ≤ 600) (hI : Inv j σ) : ∃ τ, step_41 n x1 x2 x3 x4 x5 σ = some τ ∧ Inv (j + 1) τ := by
  obtain ⟨N, e, gh, gw⟩ := Inv_v hI
  have h8 := gw.le8
  unfold step_41
  by_cases c : x2 = 0
  · simp only [J_L_law__2593, J_L_law__2620, c, if_true]
    exact s_act hI (f_L_span n x1 0 σ) (fun s => f_X12_span n x1 0 s) (a_span hn hj hI false)
  · simp only [J_L_law__2593, J_L_law__2620, c, if_false]
    exact s_act hI (f_L_span n x1 1 σ) (fun s => f_X12_span n x1 1 s) (a_span hn hj hI true)
