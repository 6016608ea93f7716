/-! layer 2: lines of the house's text: wed, bond -/
section
variable {T : Nat → Nat} {L : Nat}
theorem nx_f {a : Nat} : skp T L (fnt T L a) = nx T L a := rfl
/-- the reference's personTold -/
theorem m_pt {m : MS} {n p a N : Nat} (hn : 6000 ≤ n) (hm : MP T L m p) (hp : skp T L p = a) (g : GV (rv (m 172)) N) : ∃ t, f_X12_personTold n m = some (nmI T L a 0 (nN N - 1), t) ∧ MP T L t (dgt T L a) ∧ t 171 12 = nN a ∧ frM m t := by
  have hN := e_X12_people (show GW m N from g)
  obtain ⟨t, k1, k2, k3, k4⟩ := m_num (lo := 0) (hi := nN N - 1) hn hm
  rw [hp] at k1 k2 k3
  refine ⟨t, ?_, k2, k3, k4⟩
  simp only [f_X12_personTold, hN, bnd_s, k1]
theorem c_ppl {s : MS} {V : HV} {N : Nat} (g : GV V N) (h : hv s 12 = V) : s 12 0 = nN N := by
  rw [← hv_0 s 12 0 (by omega), h]
  exact g.people
/-- one who is single -/
def sng (T : Nat → Nat) (L : Nat) (V : HV) (N a : Nat) (x : Int32) : Int32 := if nmI T L a 0 (nN N - 1) = -1 then -1 else if nmI T L a 0 (nN N - 1) = x then -1 else if V 2 (ix (nmI T L a 0 (nN N - 1))) = -1 then nmI T L a 0 (nN N - 1) else -1
theorem sng_is {V : HV} {N a : Nat} {x : Int32} (h8 : N ≤ 8) : sng T L V N a x = -1 ∨ ∃ v, sng T L V N a x = nN v ∧ v < N ∧ nN v ≠ x ∧ V 2 v = -1 ∧ nmI T L a 0 (nN N - 1) = nN v ∧ kdt T L a = 2 := by
  unfold sng
  rcases pn_is (T := T) (L := L) a N h8 with h | ⟨v, h, h1, h2, h3⟩
  · rw [h, if_pos rfl]; exact Or.inl rfl
  · rw [h, it_m1 (by omega), ix_nN (by omega)]
    by_cases c : nN v = x
    · rw [if_pos c]; exact Or.inl rfl
    · rw [if_neg c]
      by_cases d : V 2 v = -1
      · rw [if_pos d]; exact Or.inr ⟨v, rfl, h1, c, d, rfl, h2⟩
      · rw [if_neg d]; exact Or.inl rfl
theorem c_single {s : MS} {n a N : Nat} {V : HV} {x : Int32} (hn : 6000 ≤ n) (g : GV V N) (hs : CA T L s a) (hv0 : hv s 12 = V) : ∃ t, f_X5_takeSingle n 12 x s = some (sng T L V N a x, t) ∧ CA T L t (if sng T L V N a x = -1 then a else nx T L a) ∧ frC s t := by
  have h8 := g.le8
  have hpp := c_ppl g hv0
  have hnum := c_num (lo := 0) (hi := nN N - 1) hn hs
  unfold sng
  rcases pn_is (T := T) (L := L) a N h8 with h | ⟨v, h, h1, h2, h3⟩
  · rw [h, if_pos rfl, if_pos rfl]
    rw [h] at hnum
    refine ⟨s, ?_, hs, fun _ _ => rfl, rfl⟩
    simp only [f_X5_takeSingle, J_X5_takeSingle_35, hpp, hnum, bnd_s, if_true]
  · rw [h, it_m1 (by omega), ix_nN (by omega)]
    rw [h] at hnum
    have hm1 := nN_m1 (a := v) (by omega)
    have hrow : s (12 + 2) v = V 2 v := by
      rw [← hv0]
      exact (hv_at (h := 12) (k := 2) (by rw [rng2]; omega)).symm
    by_cases c : nN v = x
    · subst c
      rw [if_pos rfl, if_pos rfl]
      refine ⟨s, ?_, hs, fun _ _ => rfl, rfl⟩
      simp only [f_X5_takeSingle, J_X5_takeSingle_35, hpp, hnum, bnd_s, hm1, if_false, if_true]
    · rw [if_neg c]
      by_cases d : V 2 v = -1
      · rw [if_pos d, it_m1 (by omega)]
        obtain ⟨t, k1, k2, k3⟩ := c_next hn hs
        refine ⟨t, ?_, k2, k3⟩
        simp (disch := omega) only [f_X5_takeSingle, J_X5_takeSingle_35, hpp, hnum, bnd_s, hm1, if_false, c, inb_nN, ix_nN, it_t, if_true, hrow, d, k1]
      · rw [if_neg d, if_pos rfl]
        refine ⟨s, ?_, hs, fun _ _ => rfl, rfl⟩
        simp (disch := omega) only [f_X5_takeSingle, J_X5_takeSingle_35, hpp, hnum, bnd_s, hm1, if_false, c, inb_nN, ix_nN, it_t, if_true, hrow, d]
/-- whether a mate is told, in the reference -/
theorem mate_lt {V : HV} {N v : Nat} (g : GV V N) (hv : v < N) : (V 2 v < 0) = (V 2 v = -1) := by
  obtain ⟨⟨-, h8⟩, -, -, -, -, -, -, ⟨a7, -⟩, -⟩ := g
  rcases a7 v hv with h | ⟨q, h, h1, h2⟩
  · rw [h]; simp only [m1_lt0]
  · rw [h, nN_m1 (by omega), nN_lt0 (by omega)]
theorem l_wed {n a N : Nat} {V : HV} (hn : 6000 ≤ n) (ha : a ≤ L) (hsk : skp T L a = a) (g : GV V N) : LineR T L V a (fun s => f_X5_tellsWed n 12 s) (fun m => f_X12_readWed n m) := by
  have h8 := g.le8
  -- the reference at one number
  have one : ∀ (m : MS) (p b : Nat), MP T L m p → skp T L p = b → rv (m 172) = V → ∃ t, f_X12_personTold n m = some (nmI T L b 0 (nN N - 1), t) ∧ MP T L t (dgt T L b) ∧ t 171 12 = nN b ∧ frM m t := by
    intro m p b hm hp hv0
    exact m_pt hn hm hp (by rw [hv0]; exact g)
  rcases sng_is (T := T) (L := L) (V := V) (N := N) (a := a) (x := -1) h8 with h | ⟨u, h, u1, u2, u3, u4, u5⟩
  · refine ⟨false, V, a, ha, hsk, no_c, ?_, ?_⟩
    · intro s hs hv0
      obtain ⟨t, k1, k2, k3⟩ := c_single (x := -1) hn g hs hv0
      rw [h] at k1 k2
      refine ⟨t, ?_, k2, no_c, frH_C k3⟩
      simp only [f_X5_tellsWed, k1, bnd_s, if_true, bI_f]
    · intro m p hm hp hv0
      obtain ⟨t, k1, k2, k3, k4⟩ := one m p a hm hp hv0
      refine ⟨t, _, ?_, k2, no_c, fun _ => k3, frW_M k4⟩
      unfold sng at h
      rcases pn_is (T := T) (L := L) a N h8 with h' | ⟨v, h', h1, h2, h3⟩
      · rw [h'] at k1
        simp only [f_X12_readWed, J_X12_readWed_18, k1, bnd_s, m1_lt0, if_true, bI_f]
      · rw [h', it_m1 (by omega), it_m1 (by omega), ix_nN (by omega)] at h
        rw [h'] at k1
        have hmate : ¬ V 2 v = -1 := by
          intro e
          rw [if_pos e] at h
          rw [nN_m1 (by omega)] at h
          exact h
        have hof := e_X12_of1 (σ := t) (p := v) (by omega)
        rw [k4.1 172 (by omega), hv0] at hof
        have hml := mate_lt g h1
        simp (disch := omega) only [f_X12_readWed, J_X12_readWed_18, k1, bnd_s, nN_lt0, if_false, hof, hml, hmate, bI_f]
  · have hun : nN u ≠ -1 := by rw [Ne, nN_m1 (by omega)]; exact fun h => h
    have hb : nx T L a ≤ L := nx_le ha
    have clsA : ∀ s, CA T L s a → hv s 12 = V → ∃ t, f_X5_takeSingle n 12 (-1) s = some (nN u, t) ∧ CA T L t (nx T L a) ∧ frC s t := by
      intro s hs hv0
      obtain ⟨t, k1, k2, k3⟩ := c_single (x := -1) hn g hs hv0
      rw [h] at k1 k2
      rw [it_m1 (by omega)] at k2
      exact ⟨t, k1, k2, k3⟩
    have hdu : dgt T L a = fnt T L a := by unfold dgt; rw [if_pos u5]
    rcases sng_is (T := T) (L := L) (V := V) (N := N) (a := nx T L a) (x := nN u) h8 with h' | ⟨w, h', w1, w2, w3, w4, w5⟩
    · refine ⟨false, V, nx T L a, hb, nx_sk a, no_c, ?_, ?_⟩
      · intro s hs hv0
        obtain ⟨t, k1, k2, k3⟩ := clsA s hs hv0
        obtain ⟨t2, j1, j2, j3⟩ := c_single (x := nN u) hn g k2 (by rw [hv12 k3]; exact hv0)
        rw [h'] at j1 j2
        refine ⟨t2, ?_, j2, no_c, frH_trans (frH_C k3) (frH_C j3)⟩
        simp only [f_X5_tellsWed, k1, bnd_s, hun, if_false, j1, if_true, bI_f]
      · intro m p hm hp hv0
        obtain ⟨t, k1, k2, k3, k4⟩ := one m p a hm hp hv0
        rw [u4] at k1
        rw [hdu] at k2
        have e172 : rv (t 172) = V := by rw [k4.1 172 (by omega), hv0]
        obtain ⟨t2, j1, j2, j3, j4⟩ := one t _ (nx T L a) k2 nx_f e172
        have hof := e_X12_of1 (σ := t) (p := u) (by omega)
        rw [e172, u3] at hof
        refine ⟨t2, _, ?_, j2, no_c, fun _ => j3, frW_trans (frW_M k4) (frW_M j4)⟩
        unfold sng at h'
        rcases pn_is (T := T) (L := L) (nx T L a) N h8 with h'' | ⟨v, h'', h1, h2, h3⟩
        · rw [h''] at j1
          have hne : ((-1 : Int32) = nN u) = False := eq_false (fun e => hun e.symm)
          simp (disch := omega) only [f_X12_readWed, J_X12_readWed_39, f_X12_otherTold, J_X12_otherTold_12, J_X12_otherTold_23, k1, bnd_s, nN_lt0, if_false, hof, m1_lt0, if_true, nN_0le, j1, hne, bI_f]
        · rw [h'', it_m1 (by omega), ix_nN (by omega)] at h'
          rw [h''] at j1
          by_cases c : nN v = nN u
          · simp (disch := omega) only [f_X12_readWed, J_X12_readWed_39, f_X12_otherTold, J_X12_otherTold_12, J_X12_otherTold_23, k1, bnd_s, nN_lt0, if_false, hof, m1_lt0, if_true, nN_0le, j1, c, bI_f]
          · rw [if_neg c] at h'
            have hmate : ¬ V 2 v = -1 := by
              intro e
              rw [if_pos e, nN_m1 (by omega)] at h'
              exact h'
            have hof2 := e_X12_of1 (σ := t2) (p := v) (by omega)
            rw [j4.1 172 (by omega), e172] at hof2
            have hml := mate_lt g h1
            simp (disch := omega) only [f_X12_readWed, J_X12_readWed_39, f_X12_otherTold, J_X12_otherTold_12, J_X12_otherTold_23, k1, bnd_s, nN_lt0, if_false, hof, m1_lt0, if_true, nN_0le, j1, c, hof2, hml, hmate, bI_f]
    · have hwn : nN w ≠ -1 := by rw [Ne, nN_m1 (by omega)]; exact fun h => h
      have hne : u ≠ w := fun e => w2 (by rw [e])
      refine ⟨true, wedsV V u w, nx T L (nx T L a), nx_le hb, nx_sk _, fun _ => ⟨N, GV_weds g u1 w1 hne u3 w3⟩, ?_, ?_⟩
      · intro s hs hv0
        obtain ⟨t, k1, k2, k3⟩ := clsA s hs hv0
        have ev1 : hv t 12 = V := by rw [hv12 k3]; exact hv0
        obtain ⟨t2, j1, j2, j3⟩ := c_single (x := nN u) hn g k2 ev1
        rw [h'] at j1 j2
        rw [it_m1 (by omega)] at j2
        obtain ⟨t3, q1, q2, q3⟩ := e_X4_marry (σ := t2) (h := 12) (show u < 8 by omega) (show w < 8 by omega)
        refine ⟨t3, ?_, CA_same j2 (q3 1 (by omega)) (q3 2 (by omega)), fun _ => by rw [q2, hv12 j3, ev1], frH_trans (frH_C k3) (frH_trans (frH_C j3) ⟨fun o o1 o2 => q3 o (by omega), by rw [q3 1 (by omega)]⟩)⟩
        simp only [f_X5_tellsWed, k1, bnd_s, hun, if_false, j1, hwn, q1, bI_t]
      · intro m p hm hp hv0
        obtain ⟨t, k1, k2, k3, k4⟩ := one m p a hm hp hv0
        rw [u4] at k1
        rw [hdu] at k2
        have e172 : rv (t 172) = V := by rw [k4.1 172 (by omega), hv0]
        obtain ⟨t2, j1, j2, j3, j4⟩ := one t _ (nx T L a) k2 nx_f e172
        rw [w4] at j1
        have e172' : rv (t2 172) = V := by rw [j4.1 172 (by omega), e172]
        have hof := e_X12_of1 (σ := t) (p := u) (by omega)
        rw [e172, u3] at hof
        have hof2 := e_X12_of1 (σ := t2) (p := w) (by omega)
        rw [e172', w3] at hof2
        obtain ⟨t3, q1, q2, q3, q4⟩ := e_X12_weds (σ := t2) (show u < 8 by omega) (show w < 8 by omega)
        have hd : dgt T L (nx T L a) = fnt T L (nx T L a) := by unfold dgt; rw [if_pos w5]
        refine ⟨t3, dgt T L (nx T L a), ?_, MP_172 j2 q3, fun _ => ⟨by rw [hd]; rfl, by rw [q2, e172']⟩, no_c, frW_trans (frW_M k4) (frW_trans (frW_M j4) ⟨fun o _ o2 => q3 o o2, fun k _ _ => by rw [q3 171 (by omega)], fun k hk => q4 k (by omega)⟩)⟩
        have hne' : (nN w = nN u) = False := eq_false w2
        simp (disch := omega) only [f_X12_readWed, f_X12_otherTold, J_X12_otherTold_12, J_X12_otherTold_23, k1, bnd_s, nN_lt0, if_false, hof, m1_lt0, if_true, nN_0le, j1, hne', hof2, q1, bI_t]
theorem l_bond {n a N : Nat} {V : HV} (hn : 6000 ≤ n) (ha : a ≤ L) (hsk : skp T L a = a) (g : GV V N) : LineR T L V a (fun s => f_X5_tellsBond n 12 s) (fun m => f_X12_readBond n m) := by
  have h8 := g.le8
  have l9 : (9 : Int32) = nN 9 := rfl
  have one : ∀ (m : MS) (p b : Nat), MP T L m p → skp T L p = b → rv (m 172) = V → ∃ t, f_X12_personTold n m = some (nmI T L b 0 (nN N - 1), t) ∧ MP T L t (dgt T L b) ∧ t 171 12 = nN b ∧ frM m t := by
    intro m p b hm hp hv0
    exact m_pt hn hm hp (by rw [hv0]; exact g)
  have clsA : ∀ s, CA T L s a → hv s 12 = V → ∃ t, f_X5_takeNumber n 0 (s 12 0 - 1) s = some (nmI T L a 0 (nN N - 1), t) ∧ CA T L t (if nmI T L a 0 (nN N - 1) = -1 then a else nx T L a) ∧ frC s t := by
    intro s hs hv0
    rw [c_ppl g hv0]
    exact c_take hn hs
  rcases pn_is (T := T) (L := L) a N h8 with h | ⟨u, h, u1, u2, u3⟩
  · refine ⟨false, V, a, ha, hsk, no_c, ?_, ?_⟩
    · intro s hs hv0
      obtain ⟨t, k1, k2, k3⟩ := clsA s hs hv0
      rw [h] at k1 k2
      refine ⟨t, ?_, k2, no_c, frH_C k3⟩
      simp only [f_X5_tellsBond, k1, bnd_s, if_true, bI_f]
    · intro m p hm hp hv0
      obtain ⟨t, k1, k2, k3, k4⟩ := one m p a hm hp hv0
      rw [h] at k1
      refine ⟨t, _, ?_, k2, no_c, fun _ => k3, frW_M k4⟩
      simp only [f_X12_readBond, J_X12_readBond_26, J_X12_readBond_45, f_X12_otherTold, J_X12_otherTold_12, J_X12_otherTold_23, k1, bnd_s, m1_0le, if_false, if_true, bI_f]
  · have hum := nN_m1 (a := u) (by omega)
    have hb : nx T L a ≤ L := nx_le ha
    have hdu : dgt T L a = fnt T L a := by unfold dgt; rw [if_pos u2]
    have clsB : ∀ s, CA T L s a → hv s 12 = V → ∃ t, f_X5_takeNumber n 0 (s 12 0 - 1) s = some (nN u, t) ∧ CA T L t (nx T L a) ∧ hv t 12 = V ∧ frC s t ∧ f_X9_number n 0 (t 12 0 - 1) t = some (nmI T L (nx T L a) 0 (nN N - 1)) := by
      intro s hs hv0
      obtain ⟨t, k1, k2, k3⟩ := clsA s hs hv0
      rw [h] at k1 k2
      rw [it_m1 (by omega)] at k2
      have ev : hv t 12 = V := by rw [hv12 k3]; exact hv0
      refine ⟨t, k1, k2, ev, k3, ?_⟩
      rw [c_ppl g ev]
      exact c_num hn k2
    have modB : ∀ m p, MP T L m p → skp T L p = a → rv (m 172) = V → ∃ t t2, f_X12_personTold n m = some (nN u, t) ∧ f_X12_personTold n t = some (nmI T L (nx T L a) 0 (nN N - 1), t2) ∧ MP T L t2 (dgt T L (nx T L a)) ∧ t2 171 12 = nN (nx T L a) ∧ rv (t2 172) = V ∧ frM m t2 := by
      intro m p hm hp hv0
      obtain ⟨t, k1, k2, k3, k4⟩ := one m p a hm hp hv0
      rw [h] at k1
      rw [hdu] at k2
      have e172 : rv (t 172) = V := by rw [k4.1 172 (by omega), hv0]
      obtain ⟨t2, j1, j2, j3, j4⟩ := one t _ (nx T L a) k2 nx_f e172
      exact ⟨t, t2, k1, j1, j2, j3, by rw [j4.1 172 (by omega), e172], frM_trans k4 j4⟩
    have bad : nmI T L (nx T L a) 0 (nN N - 1) = -1 ∨ nmI T L (nx T L a) 0 (nN N - 1) = nN u → LineR T L V a (fun s => f_X5_tellsBond n 12 s) (fun m => f_X12_readBond n m) := by
      intro hbad
      refine ⟨false, V, nx T L a, hb, nx_sk a, no_c, ?_, ?_⟩
      · intro s hs hv0
        obtain ⟨t, k1, k2, k3, k4, k5⟩ := clsB s hs hv0
        refine ⟨t, ?_, k2, no_c, frH_C k4⟩
        rcases hbad with e | e
        · rw [e] at k5
          simp only [f_X5_tellsBond, J_X5_tellsBond_44, k1, bnd_s, hum, if_false, k5, if_true, bI_f]
        · rw [e] at k5
          simp only [f_X5_tellsBond, J_X5_tellsBond_44, k1, bnd_s, hum, if_false, k5, if_true, bI_f]
      · intro m p hm hp hv0
        obtain ⟨t, t2, k1, k2, k3, k4, k5, k6⟩ := modB m p hm hp hv0
        refine ⟨t2, _, ?_, k3, no_c, fun _ => k4, frW_M k6⟩
        rcases hbad with e | e
        · rw [e] at k2
          have hne : ((-1 : Int32) = nN u) = False := eq_false (fun e => by rw [← e] at hum; simp at hum)
          simp (disch := omega) only [f_X12_readBond, J_X12_readBond_26, J_X12_readBond_45, f_X12_otherTold, J_X12_otherTold_12, J_X12_otherTold_23, k1, bnd_s, nN_0le, if_true, k2, hne, if_false, m1_0le, bI_f]
        · rw [e] at k2
          simp (disch := omega) only [f_X12_readBond, J_X12_readBond_26, J_X12_readBond_45, f_X12_otherTold, J_X12_otherTold_12, J_X12_otherTold_23, k1, bnd_s, nN_0le, if_true, k2, if_false, m1_0le, bI_f]
    rcases pn_is (T := T) (L := L) (nx T L a) N h8 with h' | ⟨w, h', w1, w2, w3⟩
    · exact bad (Or.inl h')
    · by_cases cuw : w = u
      · exact bad (Or.inr (by rw [h', cuw]))
      · have hwm := nN_m1 (a := w) (by omega)
        have hwu : (nN w = nN u) = False := by rw [nN_eq (by omega) (by omega)]; exact eq_false cuw
        generalize hb2 : nx T L (nx T L a) = b2
        have hb2l : b2 ≤ L := by rw [← hb2]; exact nx_le hb
        have hb2s : skp T L b2 = b2 := by rw [← hb2]; exact nx_sk _
        have hdw : dgt T L (nx T L a) = fnt T L (nx T L a) := by unfold dgt; rw [if_pos w2]
        have clsC : ∀ s, CA T L s a → hv s 12 = V → ∃ t t2 t3, f_X5_takeNumber n 0 (s 12 0 - 1) s = some (nN u, t) ∧ f_X9_number n 0 (t 12 0 - 1) t = some (nN w) ∧ f_X9_advance n t = some (0, t2) ∧ f_X5_takeNumber n 1 9 t2 = some (nmI T L b2 (nN 1) (nN 9), t3) ∧ CA T L t3 (if nmI T L b2 (nN 1) (nN 9) = -1 then b2 else nx T L b2) ∧ hv t3 12 = V ∧ frC s t3 := by
          intro s hs hv0
          obtain ⟨t, k1, k2, k3, k4, k5⟩ := clsB s hs hv0
          rw [h'] at k5
          obtain ⟨t2, j1, j2, j3⟩ := c_next hn k2
          rw [hb2] at j2
          obtain ⟨t3, i1, i2, i3⟩ := c_take (lo := nN 1) (hi := nN 9) hn j2
          refine ⟨t, t2, t3, k1, k5, j1, i1, i2, by rw [hv12 i3, hv12 j3, k3], ⟨fun o ho => by rw [i3.1 o ho, j3.1 o ho, k4.1 o ho], by rw [i3.2, j3.2, k4.2]⟩⟩
        have modC : ∀ m p, MP T L m p → skp T L p = a → rv (m 172) = V → ∃ t t2 t3, f_X12_personTold n m = some (nN u, t) ∧ f_X12_personTold n t = some (nN w, t2) ∧ f_X12_number n 1 9 t2 = some (nmI T L b2 (nN 1) (nN 9), t3) ∧ MP T L t3 (dgt T L b2) ∧ t3 171 12 = nN b2 ∧ rv (t3 172) = V ∧ frM m t3 := by
          intro m p hm hp hv0
          obtain ⟨t, t2, k1, k2, k3, k4, k5, k6⟩ := modB m p hm hp hv0
          rw [h'] at k2
          rw [hdw] at k3
          obtain ⟨t3, i1, i2, i3, i4⟩ := m_num (lo := nN 1) (hi := nN 9) hn k3
          rw [nx_f, hb2] at i1 i2 i3
          exact ⟨t, t2, t3, k1, k2, i1, i2, i3, by rw [i4.1 172 (by omega), k5], frM_trans k6 i4⟩
        rcases nmI_is (T := T) (L := L) b2 (nN 1) (nN 9) with hs1 | ⟨x, hs1, x1, x2, x3, x4, x5⟩
        · refine ⟨false, V, b2, hb2l, hb2s, no_c, ?_, ?_⟩
          · intro s hs hv0
            obtain ⟨t, t2, t3, k1, k2, k3, k4, k5, k6, k7⟩ := clsC s hs hv0
            rw [hs1] at k4 k5
            refine ⟨t3, ?_, k5, no_c, frH_C k7⟩
            simp only [f_X5_tellsBond, J_X5_tellsBond_80, k1, bnd_s, hum, if_false, k2, hwm, hwu, k3, k4, if_true, bI_f]
          · intro m p hm hp hv0
            obtain ⟨t, t2, t3, k1, k2, k3, k4, k5, k6, k7⟩ := modC m p hm hp hv0
            rw [hs1] at k3
            refine ⟨t3, _, ?_, k4, no_c, fun _ => k5, frW_M k7⟩
            simp (disch := omega) only [f_X12_readBond, J_X12_readBond_26, J_X12_readBond_45, f_X12_otherTold, J_X12_otherTold_12, J_X12_otherTold_23, k1, bnd_s, nN_0le, if_true, k2, hwu, if_false, k3, m1_0le, bI_f]
        · have hxm := nN_m1 (a := x) (by omega)
          have x9 : x ≤ 9 := by rw [nN_lt (by omega) (by omega)] at x5; omega
          generalize hb3 : nx T L b2 = b3
          have hb3l : b3 ≤ L := by rw [← hb3]; exact nx_le hb2l
          have hb3s : skp T L b3 = b3 := by rw [← hb3]; exact nx_sk _
          have hdx : dgt T L b2 = fnt T L b2 := by unfold dgt; rw [if_pos x2]
          cases hq : wq T L (wd 1) b3
          · refine ⟨false, V, b3, hb3l, hb3s, no_c, ?_, ?_⟩
            · intro s hs hv0
              obtain ⟨t, t2, t3, k1, k2, k3, k4, k5, k6, k7⟩ := clsC s hs hv0
              rw [hs1] at k4 k5
              rw [it_m1 (by omega), hb3] at k5
              obtain ⟨t4, j1, j2, j3⟩ := c_skipWord hn k5 (show 25 < 33 by omega) (n32 25 (by omega) (by omega) (by omega) (by omega) (by omega))
              rw [wd25, hq] at j1 j2
              refine ⟨t4, ?_, j2, no_c, frH_trans (frH_C k7) (frH_C j3)⟩
              simp only [f_X5_tellsBond, J_X5_tellsBond_80, k1, bnd_s, hum, if_false, k2, hwm, hwu, k3, k4, hxm, j1, bI_f, if_true]
            · intro m p hm hp hv0
              obtain ⟨t, t2, t3, k1, k2, k3, k4, k5, k6, k7⟩ := modC m p hm hp hv0
              rw [hs1] at k3
              rw [hdx] at k4
              obtain ⟨t4, j1, j2, j3, j4⟩ := m_letters hn k4
              rw [nx_f, hb3] at j2 j3
              have hw := m_isWord hn j2 j3 hb3l (show 1 < 33 by omega) (wd_pos 1 (by omega))
              rw [hq] at hw
              refine ⟨t4, _, ?_, j2, no_c, fun _ => j3, frW_trans (frW_M k7) (frW_M j4)⟩
              simp (disch := omega) only [f_X12_readBond, J_X12_readBond_26, J_X12_readBond_45, f_X12_otherTold, J_X12_otherTold_12, J_X12_otherTold_23, f_X12_after, J_X12_after_22, k1, bnd_s, nN_0le, if_true, k2, hwu, if_false, k3, j1, hw, bI_f, m1_0le]
          · have hl4 := wq_ltt hq
            generalize hb4 : nx T L b3 = b4
            have hb4l : b4 ≤ L := by rw [← hb4]; exact nx_le hb3l
            have hb4s : skp T L b4 = b4 := by rw [← hb4]; exact nx_sk _
            have clsD : ∀ s, CA T L s a → hv s 12 = V → ∃ t t2 t3 t4 t5, f_X5_takeNumber n 0 (s 12 0 - 1) s = some (nN u, t) ∧ f_X9_number n 0 (t 12 0 - 1) t = some (nN w) ∧ f_X9_advance n t = some (0, t2) ∧ f_X5_takeNumber n 1 9 t2 = some (nN x, t3) ∧ f_X9_skipWord n 25 t3 = some (1, t4) ∧ f_X5_takeNumber n 1 999 t4 = some (nmI T L b4 (nN 1) (nN 999), t5) ∧ CA T L t5 (if nmI T L b4 (nN 1) (nN 999) = -1 then b4 else nx T L b4) ∧ hv t5 12 = V ∧ frC s t5 := by
              intro s hs hv0
              obtain ⟨t, t2, t3, k1, k2, k3, k4, k5, k6, k7⟩ := clsC s hs hv0
              rw [hs1] at k4 k5
              rw [it_m1 (by omega), hb3] at k5
              obtain ⟨t4, j1, j2, j3⟩ := c_skipWord hn k5 (show 25 < 33 by omega) (n32 25 (by omega) (by omega) (by omega) (by omega) (by omega))
              rw [wd25, hq] at j1 j2
              rw [if_pos rfl, hb4] at j2
              obtain ⟨t5, i1, i2, i3⟩ := c_take (lo := nN 1) (hi := nN 999) hn j2
              refine ⟨t, t2, t3, t4, t5, k1, k2, k3, k4, j1, i1, i2, by rw [hv12 i3, hv12 j3, k6], ⟨fun o ho => by rw [i3.1 o ho, j3.1 o ho, k7.1 o ho], by rw [i3.2, j3.2, k7.2]⟩⟩
            have modD : ∀ m p, MP T L m p → skp T L p = a → rv (m 172) = V → ∃ t t2 t3 t4 t5, f_X12_personTold n m = some (nN u, t) ∧ f_X12_personTold n t = some (nN w, t2) ∧ f_X12_number n 1 9 t2 = some (nN x, t3) ∧ f_X12_letters n t3 = some (0, t4) ∧ f_X12_isWord n 1 t4 = some 1 ∧ f_X12_number n 1 999 t4 = some (nmI T L b4 (nN 1) (nN 999), t5) ∧ MP T L t5 (dgt T L b4) ∧ t5 171 12 = nN b4 ∧ rv (t5 172) = V ∧ frM m t5 := by
              intro m p hm hp hv0
              obtain ⟨t, t2, t3, k1, k2, k3, k4, k5, k6, k7⟩ := modC m p hm hp hv0
              rw [hs1] at k3
              rw [hdx] at k4
              obtain ⟨t4, j1, j2, j3, j4⟩ := m_letters hn k4
              rw [nx_f, hb3] at j2 j3
              have hw := m_isWord hn j2 j3 hb3l (show 1 < 33 by omega) (wd_pos 1 (by omega))
              rw [hq] at hw
              rw [hl4.1] at j2
              obtain ⟨t5, i1, i2, i3, i4⟩ := m_num (lo := nN 1) (hi := nN 999) hn j2
              rw [nx_f, hb4] at i1 i2 i3
              exact ⟨t, t2, t3, t4, t5, k1, k2, k3, j1, hw, i1, i2, i3, by rw [i4.1 172 (by omega), j4.1 172 (by omega), k6], frM_trans k7 (frM_trans j4 i4)⟩
            rcases nmI_is (T := T) (L := L) b4 (nN 1) (nN 999) with hs2 | ⟨y, hs2, y1, y2, y3, y4, y5⟩
            · refine ⟨false, V, b4, hb4l, hb4s, no_c, ?_, ?_⟩
              · intro s hs hv0
                obtain ⟨t, t2, t3, t4, t5, k1, k2, k3, k4, k5, k6, k7, k8, k9⟩ := clsD s hs hv0
                rw [hs2] at k6 k7
                refine ⟨t5, ?_, k7, no_c, frH_C k9⟩
                simp only [f_X5_tellsBond, k1, bnd_s, hum, if_false, k2, hwm, hwu, k3, k4, hxm, k5, one_ne0, k6, if_true, bI_f]
              · intro m p hm hp hv0
                obtain ⟨t, t2, t3, t4, t5, k1, k2, k3, k4, k5, k6, k7, k8, k9, k10⟩ := modD m p hm hp hv0
                rw [hs2] at k6
                refine ⟨t5, _, ?_, k7, no_c, fun _ => k8, frW_M k10⟩
                simp (disch := omega) only [f_X12_readBond, J_X12_readBond_26, J_X12_readBond_45, f_X12_otherTold, J_X12_otherTold_12, J_X12_otherTold_23, f_X12_after, J_X12_after_22, k1, bnd_s, nN_0le, if_true, k2, hwu, if_false, k3, k4, k5, one_ne0, k6, m1_0le, bI_f]
            · have hym := nN_m1 (a := y) (by omega)
              have hdy : dgt T L b4 = fnt T L b4 := by unfold dgt; rw [if_pos y2]
              refine ⟨true, tieV V u w (nN x) (nN y), nx T L b4, nx_le hb4l, nx_sk _, fun _ => ⟨N, GV_tie g (by omega) (by omega) (fun e => cuw e.symm) ⟨x, rfl, x9⟩ ⟨y, rfl, by omega⟩⟩, ?_, ?_⟩
              · intro s hs hv0
                obtain ⟨t, t2, t3, t4, t5, k1, k2, k3, k4, k5, k6, k7, k8, k9⟩ := clsD s hs hv0
                rw [hs2] at k6 k7
                rw [it_m1 (by omega)] at k7
                obtain ⟨t6, q1, q2, q3⟩ := e_X4_tie (σ := t5) (h := 12) (s := nN x) (t := nN y) (show u < 8 by omega) (show w < 8 by omega)
                refine ⟨t6, ?_, CA_same k7 (q3 1 (by omega) (by omega)) (q3 2 (by omega) (by omega)), fun _ => by rw [q2, k8], frH_trans (frH_C k9) ⟨fun o o1 o2 => q3 o (by omega) (by omega), by rw [q3 1 (by omega) (by omega)]⟩⟩
                simp only [f_X5_tellsBond, k1, bnd_s, hum, if_false, k2, hwm, hwu, k3, k4, hxm, k5, one_ne0, k6, hym, q1, bI_t]
              · intro m p hm hp hv0
                obtain ⟨t, t2, t3, t4, t5, k1, k2, k3, k4, k5, k6, k7, k8, k9, k10⟩ := modD m p hm hp hv0
                rw [hs2] at k6
                obtain ⟨t6, q1, q2, q3, q4⟩ := e_X12_binds (σ := t5) (s := nN x) (t := nN y) (show u < 8 by omega) (show w < 8 by omega)
                refine ⟨t6, dgt T L b4, ?_, MP_172 k7 q3, fun _ => ⟨by rw [hdy]; rfl, by rw [q2, k9]⟩, no_c, frW_trans (frW_M k10) ⟨fun o _ o2 => q3 o o2, fun k _ _ => by rw [q3 171 (by omega)], fun k hk => q4 k (by omega)⟩⟩
                simp (disch := omega) only [f_X12_readBond, J_X12_readBond_26, J_X12_readBond_45, f_X12_otherTold, J_X12_otherTold_12, J_X12_otherTold_23, f_X12_after, J_X12_after_22, k1, bnd_s, nN_0le, if_true, k2, hwu, if_false, k3, k4, k5, one_ne0, k6, q1, bI_t]
end
