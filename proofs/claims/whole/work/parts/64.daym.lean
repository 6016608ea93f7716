/-! layer 2: a day of the reference -/
theorem m_susp {s : MS} {p : Nat} {su : Int32} (hp : p < 8) : f_X12_suspects (nN p) su s = some (0, mu s 172 (12 + 4 * p) (mnI 99 (rv (s 172) 3 p + su))) := by
  simp (disch := omega) only [f_X12_suspects, f_X12_at, bnd_s, a10_2, e_X12_of2, inb_nN, ix_nN, it_t, if_true, ltM_s]
theorem m_foot {σ s : MS} {n N p q f : Nat} {V : HV} {E : EvF} {S : (Nat → Int32) → Int32 → Int32} (hn : 6000 ≤ n) (hS : LawF σ n S) (hw : ∀ k, (k = 2 ∨ 474 ≤ k) → s 172 k = σ 172 k) (g : GV V N) (hm : MR (s 172) (f, V, E)) (h7 : V 0 7 = nN f) (hf : f < 2000000000) (hpq : p < q) (hq : q < 8) : ∃ t, f_X12_leavesFootprints n (nN p) (nN q) s = some (0, t) ∧ MR (t 172) (f + 1, fpV V p q (suS σ S V p q), evS (ix (V 0 5), p, q, roN V p) E) ∧ offM s t := by
  have hp : p < 8 := by omega
  obtain ⟨hm1, hm2, hm3⟩ := hm
  have hV : rv (s 172) = V := hm1
  obtain ⟨t1, a1, a2, a3, a4⟩ := e_looks (s := s) (sip := 0) (many := 0) hp hq
  rw [Nat.min_eq_left (by omega), Nat.max_eq_right (by omega)] at a2
  have r1 : t1 172 = s 172 := a4 172 (by omega)
  obtain ⟨t2, b1, b2⟩ := m_suspectsBy (s := t1) hS (fun k _ hk => by rw [r1]; exact hw k hk) a2 hp hq
  rw [r1, hV] at b1
  have r2 : t2 172 = s 172 := by rw [b2 172 (by omega), r1]
  generalize hsu : suS σ S V p q = su at b1
  generalize ht3 : mu t2 172 (12 + 4 * p) (mnI 99 (V 3 p + su)) = t3
  have s1 : f_X12_suspects (nN p) su t2 = some (0, t3) := by rw [m_susp hp, r2, hV, ht3]
  have rv3 : rv (t3 172) = vset V 3 p (mnI 99 (V 3 p + su)) := by
    rw [← ht3, mu_rset, r2, rv_lo (j := 12 + 4 * p) (k := 3) (i := p) hp rfl, hV]
  generalize ht4 : mu t3 172 (12 + 4 * q) (mnI 99 (V 3 q + su)) = t4
  have s2 : f_X12_suspects (nN q) su t3 = some (0, t4) := by
    rw [m_susp hq, rv3, vs_ne (by omega), ht4]
  have rv4 : rv (t4 172) = vset (vset V 3 p (mnI 99 (V 3 p + su))) 3 q (mnI 99 (V 3 q + su)) := by
    rw [← ht4, mu_rset, rv_lo (j := 12 + 4 * q) (k := 3) (i := q) hq rfl, rv3]
  have w4 : ∀ k, k < 10 ∨ 42 ≤ k → t4 172 k = s 172 k := by
    intro k hk
    rw [← ht4, mu_at, if_neg (by omega), ← ht3, mu_at, if_neg (by omega), r2]
  have o4 : offM s t4 := by
    refine ⟨fun o x1 x2 x3 => by rw [← ht4, mu_row x2, ← ht3, mu_row x2, b2 o x3, a4 o x1], fun i hi => by rw [← ht4, mu_row (by omega), ← ht3, mu_row (by omega), b2 171 (by omega), a3 i hi], fun k hk => w4 k (by omega)⟩
  generalize hW : rsw t4 172 (fun k => if 238 ≤ k ∧ k < 238 + 236 then t4 172 (k - 4) else t4 172 k) = t5
  have w5 : ∀ k, t5 172 k = if 238 ≤ k ∧ k < 474 then t4 172 (k - 4) else t4 172 k := by
    intro k
    rw [← hW, rsw_own]
  have hrv5 : rv (t5 172) = rv (t4 172) := rv_congr (fun k hk => by rw [w5 k, if_neg (by omega)])
  have d5 : ∃ d, V 0 5 = nN d ∧ d ≤ 9999 := by
    obtain ⟨-, -, -, -, -, h, -⟩ := g
    exact h
  obtain ⟨d, hd, hd9⟩ := d5
  obtain ⟨hro, hro6⟩ := roN_is g hp
  have x3 : t5 172 3 = nN d := by
    rw [w5 3, if_neg (by omega), w4 3 (by omega), ← hd, ← hV]
    rfl
  have x7 : t5 172 7 = nN f := by
    rw [w5 7, if_neg (by omega), w4 7 (by omega), ← h7, ← hV]
    rfl
  have x8 : t5 172 8 = nN (min f 60) := by
    rw [w5 8, if_neg (by omega), w4 8 (by omega)]
    exact hm3
  generalize ht6 : mu (mu (mu t5 172 234 (nN d)) 172 235 (nN p)) 172 236 (nN q) = t6
  have rv6 : rv (t6 172) = rv (t5 172) := by
    rw [← ht6, mu_rset, rv_other (by omega), mu_rset, rv_other (by omega), mu_rset, rv_other (by omega)]
  have of6 : f_X12_of (nN p) 0 t6 = some (nN (roN V p)) := by
    rw [e_X12_of0 hp, rv6, hrv5, rv4, vs_ne (by omega), vs_ne (by omega), hro]
  generalize ht7 : mu t6 172 237 (nN (roN V p)) = t7
  have y8 : t7 172 8 = nN (min f 60) := by
    rw [← ht7, mu_at, if_neg (by omega), ← ht6, mu_at, if_neg (by omega), mu_at, if_neg (by omega), mu_at, if_neg (by omega)]
    exact x8
  have m60 : mnI 60 (nN (min f 60) + 1) = nN (min (f + 1) 60) := by
    rw [nN_s, l60, mnI_nN (by omega) (by omega)]
    congr 1
    omega
  have m60' : mnI 60 (nN (min f 60 + 1)) = nN (min (f + 1) 60) := by rw [← nN_s]; exact m60
  generalize ht8 : mu t7 172 8 (nN (min (f + 1) 60)) = t8
  have y7 : t8 172 7 = nN f := by
    rw [← ht8, mu_at, if_neg (by omega), ← ht7, mu_at, if_neg (by omega), ← ht6, mu_at, if_neg (by omega), mu_at, if_neg (by omega), mu_at, if_neg (by omega)]
    exact x7
  generalize ht9 : mu t8 172 7 (nN (f + 1)) = t9
  have key := itr_dn (f := L_X12_leavesFootprints_30 n (nN p) (nN q) s) (fun (s : MS) i => (i, s)) 4 (fun i s => mu s 172 (238 + i) (s 172 (234 + i))) (fun _ => ((0 : Int32), t9)) (fun i u => i ≤ 236 ∧ fD i (fun i s => mu s 172 (238 + i) (s 172 (234 + i))) u = t5) ?_ ?_ 236 n t4 (by omega) ⟨Nat.le_refl _, by rw [shd_fold]; exact hW⟩
  · refine ⟨t9, ?_, ⟨?_, ?_, ?_⟩, ?_⟩
    · have k1 := key.1
      have e239 : nN (4 + 236) - 1 = (239 : Int32) := by decide
      rw [e239] at k1
      simp only [f_X12_leavesFootprints, a1, bnd_s, b1, s1, s2]
      exact k1
    · show rv (t9 172) = fpV V p q su
      rw [← ht9, mu_rset, rv_lo (j := 7) (k := 0) (i := 7) (by decide) rfl, ← ht8, mu_rset, rv_other (by omega), ← ht7, mu_rset, rv_other (by omega), rv6, hrv5, rv4]
      unfold fpV
      rw [h7, nN_s]
    · show ML (t9 172) (f + 1) (evS (ix (V 0 5), p, q, roN V p) E)
      have z : ∀ k, 234 ≤ k → t9 172 k = if k = 237 then nN (roN V p) else if k = 236 then nN q else if k = 235 then nN p else if k = 234 then nN d else t5 172 k := by
        intro k hk
        rw [← ht9, mu_at, if_neg (by omega), ← ht8, mu_at, if_neg (by omega), ← ht7, mu_own, ← ht6, mu_own, mu_own, mu_own]
      intro ago h1 h2
      cases ago with
      | zero =>
        refine ⟨?_, ?_, ?_, ?_⟩
        · rw [z _ (by omega)]
          show nN d = nN (ix (V 0 5))
          rw [hd, ix_nN (by omega)]
        · rw [z _ (by omega)]
          rfl
        · rw [z _ (by omega)]
          rfl
        · rw [z _ (by omega)]
          rfl
      | succ k =>
        obtain ⟨q1, q2, q3, q4⟩ := hm2 k (show k < f by omega) (by omega)
        have zz : ∀ x, x < 4 → t9 172 (234 + x + 4 * (k + 1)) = s 172 (234 + x + 4 * k) := by
          intro x hx
          rw [z _ (by omega), if_neg (by omega), if_neg (by omega), if_neg (by omega), if_neg (by omega), w5, if_pos (by omega), w4 _ (by omega), show 234 + x + 4 * (k + 1) - 4 = 234 + x + 4 * k by omega]
        exact ⟨(zz 0 (by omega)).trans q1, (zz 1 (by omega)).trans q2, (zz 2 (by omega)).trans q3, (zz 3 (by omega)).trans q4⟩
    · show t9 172 8 = nN (min (f + 1) 60)
      rw [← ht9, mu_at, if_neg (by omega), ← ht8, mu_own]
      rfl
    · have o5 : offM t4 t5 := ⟨fun o x1 x2 x3 => by rw [← hW, rsw_row x2], fun i hi => by rw [← hW, rsw_row (by omega)], fun k hk => by rw [w5 k, if_neg (by omega)]⟩
      have o6 : offM t5 t6 := by rw [← ht6]; exact offM_trans (offM_w (by omega) (by omega)) (offM_trans (offM_w (by omega) (by omega)) (offM_w (by omega) (by omega)))
      have o7 : offM t6 t7 := by rw [← ht7]; exact offM_w (by omega) (by omega)
      have o8 : offM t7 t8 := by rw [← ht8]; exact offM_w (by omega) (by omega)
      have o9 : offM t8 t9 := by rw [← ht9]; exact offM_w (by omega) (by omega)
      exact offM_trans o4 (offM_trans o5 (offM_trans o6 (offM_trans o7 (offM_trans o8 o9))))
  · intro i u ⟨hi, hu⟩
    refine ⟨?_, by omega, hu⟩
    have e1 : (234 : Int32) + nN (4 + i) = nN (238 + i) := by rw [l234, nN_add, show 234 + (4 + i) = 238 + i by omega]
    have e2 : nN (238 + i) - 4 = nN (234 + i) := by rw [l4, nN_sub (by omega), show 238 + i - 4 = 234 + i by omega]
    have e3 : (nN (4 + i) < (4 : Int32)) = False := by rw [l4]; exact lt_f (by omega) (by omega)
    simp (disch := omega) only [L_X12_leavesFootprints_30, e1, e2, e3, if_false, inb_nN, ix_nN, it_t, if_true, ltM_s, nN_p1]
  · intro u ⟨_, hu⟩
    have hu' : u = t5 := hu
    subst hu'
    have e3 : (nN 4 - 1 < (4 : Int32)) = True := by decide
    simp only [L_X12_leavesFootprints_30, e3, if_true, ltM_s, x3, ht6, of6, bnd_s, ht7, y8, m60, m60', ht8, y7, nN_s, ht9, Option.map_some]
theorem m_move1 {s σ0 : MS} {n N p : Nat} {v2 : Int32} {Z : ZS} (hn : 6000 ≤ n) (g : ZG N Z) (hm : MR (s 172) Z) (dr : Bool) (hp : p < N) : ∃ t, L_X12_oneDay_10 n (bI (!dr)) v2 σ0 (nN p, s) = some (.inl (nN (p + 1), t)) ∧ MR (t 172) (Z.1, zMove N dr p Z.2.1, Z.2.2) ∧ offM s t := by
  have h8 := g.1.le8
  obtain ⟨hm1, hm2, hm3⟩ := hm
  have gw : GW s N := by unfold GW; rw [hm1]; exact g.1
  have hpl := e_X12_people gw
  have hmo := e_X12_mostOf hn gw (show p < 8 by omega)
  rw [hm1] at hmo
  generalize hV : Z.2.1 = V at hm1 hmo
  have gV : GV V N := by rw [← hV]; exact g.1
  have c9 : s 172 9 = V 0 6 := by rw [← hm1]; rfl
  unfold zMove
  rcases most_is V N p with ⟨-, h2⟩ | ⟨q, hq, -, h2, -, -⟩
  · rw [h2] at hmo ⊢
    rw [if_pos rfl]
    refine ⟨s, ?_, ⟨hm1, hm2, hm3⟩, offM_refl s⟩
    simp (disch := omega) only [L_X12_oneDay_10, J_X12_oneDay_67, hpl, bnd_s, le_f, if_false, hmo, m1lt0, if_true, nN_s]
  · rw [h2] at hmo ⊢
    rw [it_m1 (by omega), ix_nN (by omega)]
    have mroom : ∀ (u : MS) (V1 : HV), rv (u 172) = V1 → J_X12_oneDay_50 n (bI (!dr)) v2 (nN p) (nN q) u = some (.inl (nN (p + 1), mu u 172 (10 + 4 * p) (V1 1 q))) := by
      intro u V1 hu
      simp (disch := omega) only [J_X12_oneDay_50, J_X12_oneDay_67, f_X12_at, bnd_s, a10_0, e_X12_of0, hu, inb_nN, ix_nN, it_t, if_true, ltM_s, nN_s]
    have mrr : ∀ (u : MS) (V1 : HV), MR (u 172) (Z.1, V1, Z.2.2) → MR (mu u 172 (10 + 4 * p) (V1 1 q) 172) (Z.1, vset V1 1 p (V1 1 q), Z.2.2) := by
      rintro u V1 ⟨u1, u2, u3⟩
      rw [mu_rset]
      refine ⟨?_, ML_w u2 (by omega), ?_⟩
      · show rv (rset (u 172) (10 + 4 * p) (V1 1 q)) = vset V1 1 p (V1 1 q)
        rw [rv_lo (j := 10 + 4 * p) (k := 1) (i := p) (show p < rng 1 by rw [rng1]; omega) rfl, u1]
      · show rset (u 172) (10 + 4 * p) (V1 1 q) 8 = _
        unfold rset
        rw [if_neg (by omega)]
        exact u3
    cases dr
    · simp only [Bool.false_eq_true, if_false]
      refine ⟨mu s 172 (10 + 4 * p) (V 1 q), ?_, mrr s V ⟨hm1, hm2, hm3⟩, offM_w (by omega) (by omega)⟩
      have hnl : (nN q < 0) = False := nN_lt0 (by omega)
      have b1 : (bI (!false) = 0) = False := by decide
      have := mroom s V hm1
      simp (disch := omega) only [L_X12_oneDay_10, hpl, bnd_s, le_f, if_false, hmo, hnl, b1, this]
    · simp only [if_true]
      generalize hs1 : mu s 172 9 (nxt (V 0 6)) = s1
      have hm1' : rv (s1 172) = vset V 0 6 (nxt (V 0 6)) := by rw [← hs1, mu_rset, rv_lo (j := 9) (k := 0) (i := 6) (by decide) rfl, hm1]
      have hMR1 : MR (s1 172) (Z.1, vset V 0 6 (nxt (V 0 6)), Z.2.2) := by
        refine ⟨hm1', ?_, ?_⟩
        · show ML (s1 172) Z.1 Z.2.2
          rw [← hs1, mu_rset]
          exact ML_w hm2 (by omega)
        · show s1 172 8 = nN (min Z.1 60)
          rw [← hs1, mu_at, if_neg (by omega)]
          exact hm3
      have edraw : f_X12_drawn 10 s = some (rD (nxt (V 0 6)), s1) := by
        have m9 : mu s 172 9 (1103515245 * V 0 6 + 12345) 172 9 = nxt (V 0 6) := by rw [mu_own]; rfl
        have t10 : ((10 : Int32) = 0) = False := by decide
        simp only [f_X12_drawn, ltM_s, c9, m9, t10, if_false, shr16]
        rw [← hs1]
        rfl
      have eheld : f_X12_bondOf (nN p) (nN q) s1 = some (heldV V p q) := by rw [e_X12_bondOf (by omega) (by omega), hm1', held_ch6]
      have o1 : offM s s1 := by rw [← hs1]; exact offM_w (by omega) (by omega)
      have hnl : (nN q < 0) = False := nN_lt0 (by omega)
      have b0 : (bI (!true) = 0) = True := by decide
      by_cases c : heldV V p q ≤ rD (nxt (V 0 6))
      · rw [if_pos c]
        refine ⟨s1, ?_, hMR1, o1⟩
        simp (disch := omega) only [L_X12_oneDay_10, J_X12_oneDay_67, hpl, bnd_s, le_f, if_false, hmo, hnl, b0, if_true, edraw, eheld, c, nN_s]
      · rw [if_neg c]
        have e1q : vset V 0 6 (nxt (V 0 6)) 1 q = V 1 q := vs_ne (by omega)
        have hmm := mrr s1 _ hMR1
        rw [e1q] at hmm
        have := mroom s1 _ hm1'
        rw [e1q] at this
        refine ⟨mu s1 172 (10 + 4 * p) (V 1 q), ?_, hmm, offM_trans o1 (offM_w (by omega) (by omega))⟩
        simp (disch := omega) only [L_X12_oneDay_10, hpl, bnd_s, le_f, if_false, hmo, hnl, b0, if_true, edraw, eheld, c, this]
theorem m_meet1 {σ s σ0 : MS} {n N p q : Nat} {v2 : Int32} {Z : ZS} {S : (Nat → Int32) → Int32 → Int32} (hn : 6000 ≤ n) (hS : LawF σ n S) (hw : ∀ k, (k = 2 ∨ 474 ≤ k) → s 172 k = σ 172 k) (g : ZG N Z) (hm : MR (s 172) Z) (hf : Z.1 < 2000000000) (hpq : p < q) (hq : q < N) : ∃ t, L_X12_oneDay_88 n v2 (nN p) σ0 (nN q, s) = some (.inl (nN (q + 1), t)) ∧ MR (t 172) (zMeet (suS σ S) p q Z) ∧ offM s t := by
  obtain ⟨g1, g2, g3⟩ := g
  obtain ⟨hm1, hm2, hm3⟩ := hm
  have h8 := g1.le8
  have hp8 : p < 8 := by omega
  have hq8 : q < 8 := by omega
  have gw : GW s N := by unfold GW; rw [hm1]; exact g1
  have hpl := e_X12_people gw
  have o1 := e_X12_of0 (σ := s) hp8
  have o2 := e_X12_of0 (σ := s) hq8
  rw [hm1] at o1 o2
  unfold zMeet
  by_cases c : Z.2.1 1 p = Z.2.1 1 q
  · rw [if_pos c]
    have r4p : s 172 (13 + 4 * p) = Z.2.1 4 p := by rw [← hm1]; exact (rv_at (k := 4) hp8).symm
    have r4q : s 172 (13 + 4 * q) = Z.2.1 4 q := by rw [← hm1]; exact (rv_at (k := 4) hq8).symm
    generalize hs1 : mu s 172 (13 + 4 * p) (Z.2.1 4 p ||| nN (2 ^ q)) = s1
    have a4q : s1 172 (13 + 4 * q) = Z.2.1 4 q := by rw [← hs1, mu_at, if_neg (by omega)]; exact r4q
    generalize hs2 : mu s1 172 (13 + 4 * q) (Z.2.1 4 q ||| nN (2 ^ p)) = s2
    have hv2 : rv (s2 172) = metV Z.2.1 p q := by
      rw [← hs2, mu_rset, rv_lo (j := 13 + 4 * q) (k := 4) (i := q) hq8 rfl, ← hs1, mu_rset, rv_lo (j := 13 + 4 * p) (k := 4) (i := p) hp8 rfl, hm1]
      rfl
    have ml2 : ML (s2 172) Z.1 Z.2.2 := by
      rw [← hs2, mu_rset, ← hs1, mu_rset]
      exact ML_w (ML_w hm2 (by omega)) (by omega)
    have w8 : s2 172 8 = nN (min Z.1 60) := by
      rw [← hs2, mu_at, if_neg (by omega), ← hs1, mu_at, if_neg (by omega)]
      exact hm3
    have off2 : offM s s2 := by rw [← hs2, ← hs1]; exact offM_trans (offM_w (by omega) (by omega)) (offM_w (by omega) (by omega))
    have gm : GV (metV Z.2.1 p q) N := GV_met g1 (by omega) hq
    have gw2 : GW s2 N := by unfold GW; rw [hv2]; exact gm
    have esec : f_X12_isSecret (nN p) (nN q) s2 = some (bI (secV (metV Z.2.1 p q) p q)) := by rw [e_X12_isSecret hp8 hq8, hv2]
    obtain ⟨hro, hro6⟩ := roN_is g1 hp8
    have ero : metV Z.2.1 p q 1 p = Z.2.1 1 p := by
      unfold metV
      rw [vs_ne (by omega), vs_ne (by omega)]
    have of2 : f_X12_of (nN p) 0 s2 = some (nN (roN Z.2.1 p)) := by rw [e_X12_of0 hp8, hv2, ero, hro]
    have efl : f_X12_hasFlour (nN (roN Z.2.1 p)) s2 = some (bI ((flN Z.2.1).testBit (roN Z.2.1 p))) := by
      rw [e_X12_hasFlour gw2 (by omega), hv2]
      unfold flourV flN metV
      rw [vs_ne (by omega), vs_ne (by omega)]
    have e7 : metV Z.2.1 p q 0 7 = nN Z.1 := by
      unfold metV
      rw [vs_ne (by omega), vs_ne (by omega)]
      exact g2
    have e05 : metV Z.2.1 p q 0 5 = Z.2.1 0 5 := by
      unfold metV
      rw [vs_ne (by omega), vs_ne (by omega)]
    have ero2 : roN (metV Z.2.1 p q) p = roN Z.2.1 p := by
      unfold roN
      rw [ero]
    cases hsec : secV (metV Z.2.1 p q) p q
    · rw [hsec] at esec
      simp only [Bool.and_false, Bool.false_eq_true, if_false]
      refine ⟨s2, ?_, ⟨hv2, ml2, w8⟩, off2⟩
      simp (disch := omega) only [L_X12_oneDay_88, J_X12_oneDay_180, hpl, bnd_s, le_f, if_false, o1, o2, c, if_true, f_X12_at, a10_3, inb_nN, ix_nN, it_t, r4p, shl1, ltM_s, hs1, a4q, hs2, esec, bI_f, nN_s]
    · rw [hsec] at esec
      cases hb : (flN Z.2.1).testBit (roN Z.2.1 p)
      · rw [hb] at efl
        simp only [Bool.false_and, Bool.false_eq_true, if_false]
        refine ⟨s2, ?_, ⟨hv2, ml2, w8⟩, off2⟩
        simp (disch := omega) only [L_X12_oneDay_88, J_X12_oneDay_180, hpl, bnd_s, le_f, if_false, o1, o2, c, if_true, f_X12_at, a10_3, inb_nN, ix_nN, it_t, r4p, shl1, ltM_s, hs1, a4q, hs2, esec, bI_t, one_ne0, of2, efl, bI_f, nN_s]
      · rw [hb] at efl
        simp only [Bool.and_self, if_true]
        obtain ⟨s4, m1, m2, m3⟩ := m_foot (s := s2) (E := Z.2.2) hn hS (fun k hk => by rw [off2.2.2 k hk]; exact hw k hk) gm ⟨hv2, ml2, w8⟩ e7 hf hpq hq8
        rw [e05, ero2] at m2
        refine ⟨s4, ?_, m2, offM_trans off2 m3⟩
        simp (disch := omega) only [L_X12_oneDay_88, J_X12_oneDay_180, hpl, bnd_s, le_f, if_false, o1, o2, c, if_true, f_X12_at, a10_3, inb_nN, ix_nN, it_t, r4p, shl1, ltM_s, hs1, a4q, hs2, esec, bI_t, one_ne0, of2, efl, m1, nN_s]
  · rw [if_neg c]
    refine ⟨s, ?_, ⟨hm1, hm2, hm3⟩, offM_refl s⟩
    simp (disch := omega) only [L_X12_oneDay_88, J_X12_oneDay_180, hpl, bnd_s, le_f, if_false, o1, o2, c, nN_s]
