/-! layer 2: days of the reference; the cases of days -/
theorem m_day {σ s : MS} {n N : Nat} {Z : ZS} {S : (Nat → Int32) → Int32 → Int32} (hn : 6000 ≤ n) (hS : LawF σ n S) (hw : ∀ k, (k = 2 ∨ 474 ≤ k) → s 172 k = σ 172 k) (g : ZG N Z) (hm : MR (s 172) Z) (hf : Z.1 < 1900000000) (dr : Bool) : ∃ t, f_X12_oneDay n (bI (!dr)) s = some (nN (zDay (suS σ S) N dr Z).1 - nN Z.1, t) ∧ MR (t 172) (zDay (suS σ S) N dr Z) ∧ offM s t := by
  have h8 := g.1.le8
  have hsu := su_ok hS
  have w7 : s 172 7 = nN Z.1 := by rw [← g.2.1, ← hm.1]; rfl
  have gm : ZG N (Z.1, zMoves N dr Z.2.1, Z.2.2) := ZG_moves dr g N
  obtain ⟨gd, hfd⟩ := ZG_day dr hsu g
  -- meetings
  have meets : ∀ (s0 s1 : MS), MR (s1 172) (Z.1, zMoves N dr Z.2.1, Z.2.2) → offM s s1 → ∃ c, itr (L_X12_oneDay_75 n (nN Z.1) s0) n (0, s1) = some c ∧ c.1 = nN (zDay (suS σ S) N dr Z).1 - nN Z.1 ∧ MR (c.2 172) (zDay (suS σ S) N dr Z) ∧ offM s c.2 := by
    intro s0 s1 hm1 ho1
    refine itr_inv (fun i st => ∃ s', st = (nN i, s') ∧ MR (s' 172) (fR i (zRow (suS σ S) N) (Z.1, zMoves N dr Z.2.1, Z.2.2)) ∧ offM s s') _ N ?_ ?_ n 0 _ (by omega) (by omega) ⟨s1, rfl, hm1, ho1⟩
    · rintro p st hp ⟨s', rfl, hm', ho⟩
      left
      obtain ⟨g', hf'⟩ := ZG_meets hsu gm p (by omega)
      have hf2 : (fR p (zRow (suS σ S) N) (Z.1, zMoves N dr Z.2.1, Z.2.2)).1 ≤ Z.1 + 8 * p := hf'
      rw [fR_s]
      generalize fR p (zRow (suS σ S) N) (Z.1, zMoves N dr Z.2.1, Z.2.2) = Y at hm' g' hf2
      have gw' : GW s' N := by unfold GW; rw [hm'.1]; exact g'.1
      have inner : ∃ c, itr (L_X12_oneDay_88 n (nN Z.1) (nN p) s0) n (nN (p + 1), s') = some c ∧ ∃ s'', c = .inl (nN (p + 1), s'') ∧ MR (s'' 172) (zRow (suS σ S) N p Y) ∧ offM s s'' := by
        unfold zRow
        refine itr_inv (fun i st => ∃ s'', st = (nN (p + 1 + i), s'') ∧ MR (s'' 172) (fR i (fun i Z => zMeet (suS σ S) p (p + 1 + i) Z) Y) ∧ offM s s'') _ (N - (p + 1)) ?_ ?_ n 0 _ (by omega) (by omega) ⟨s', rfl, hm', ho⟩
        · rintro i st hi ⟨s2, rfl, hm2, ho2⟩
          left
          obtain ⟨g1, hf1⟩ := ZG_row (p := p) hsu g' hp i (by omega)
          rw [fR_s]
          generalize fR i (fun i Z => zMeet (suS σ S) p (p + 1 + i) Z) Y = X at hm2 g1 hf1
          obtain ⟨t, q1, q2, q3⟩ := m_meet1 (σ0 := s0) (p := p) (q := p + 1 + i) (v2 := nN Z.1) hn hS (fun k hk => by rw [ho2.2.2 k hk]; exact hw k hk) g1 hm2 (by omega) (by omega) (by omega)
          exact ⟨_, q1, t, rfl, q2, offM_trans ho2 q3⟩
        · rintro st ⟨s2, rfl, hm2, ho2⟩
          obtain ⟨g1, hf1⟩ := ZG_row (p := p) hsu g' hp (N - (p + 1)) (Nat.le_refl _)
          have gw2 : GW s2 N := by unfold GW; rw [hm2.1]; exact g1.1
          refine ⟨.inl (nN (p + 1), s2), ?_, s2, rfl, hm2, ho2⟩
          unfold L_X12_oneDay_88
          rw [e_X12_people gw2, bnd_s, if_pos (show nN N ≤ nN (p + 1 + (N - (p + 1))) by rw [nN_le (by omega) (by omega)]; omega)]
          rw [nN_s]
          rfl
      obtain ⟨c, hc2, s'', rfl, i1, i2⟩ := inner
      refine ⟨_, ?_, s'', rfl, i1, i2⟩
      simp (disch := omega) only [L_X12_oneDay_75, e_X12_people gw', bnd_s, le_f, if_false, nN_s, hc2]
    · rintro st ⟨s', rfl, hm', ho⟩
      obtain ⟨g', hf'⟩ := ZG_meets hsu gm N (Nat.le_refl _)
      have eM : fR N (zRow (suS σ S) N) (Z.1, zMoves N dr Z.2.1, Z.2.2) = zMeets (suS σ S) N (Z.1, zMoves N dr Z.2.1, Z.2.2) := rfl
      rw [eM] at hm' g'
      have eD : zDay (suS σ S) N dr Z = zTick (zMeets (suS σ S) N (Z.1, zMoves N dr Z.2.1, Z.2.2)) := rfl
      rw [eD]
      generalize zMeets (suS σ S) N (Z.1, zMoves N dr Z.2.1, Z.2.2) = Y at hm' g'
      have gw' : GW s' N := by unfold GW; rw [hm'.1]; exact g'.1
      have e3 : s' 172 3 = Y.2.1 0 5 := by rw [← hm'.1]; rfl
      generalize ht : mu s' 172 3 (mnI 9999 (Y.2.1 0 5 + 1)) = t
      have e7 : t 172 7 = nN Y.1 := by
        rw [← ht, mu_at, if_neg (by omega), ← g'.2.1, ← hm'.1]
        rfl
      refine ⟨(nN Y.1 - nN Z.1, t), ?_, rfl, ⟨?_, ?_, ?_⟩, offM_trans ho (by rw [← ht]; exact offM_w (by omega) (by omega))⟩
      · simp (disch := omega) only [L_X12_oneDay_75, e_X12_people gw', bnd_s, le_t, if_true, ltM_s, e3, ht, e7, Option.map_some]
      · show rv (t 172) = vset Y.2.1 0 5 (mnI 9999 (Y.2.1 0 5 + 1))
        rw [← ht, mu_rset, rv_lo (j := 3) (k := 0) (i := 5) (by decide) rfl, hm'.1]
      · show ML (t 172) Y.1 Y.2.2
        rw [← ht, mu_rset]
        exact ML_w hm'.2.1 (by omega)
      · show t 172 8 = nN (min Y.1 60)
        rw [← ht, mu_at, if_neg (by omega)]
        exact hm'.2.2
  have key : ∃ c, f_X12_oneDay n (bI (!dr)) s = some c ∧ c.1 = nN (zDay (suS σ S) N dr Z).1 - nN Z.1 ∧ MR (c.2 172) (zDay (suS σ S) N dr Z) ∧ offM s c.2 := by
    unfold f_X12_oneDay
    rw [w7]
    refine itr_inv (fun i st => ∃ s', st = (nN i, s') ∧ MR (s' 172) (Z.1, fR i (zMove N dr) Z.2.1, Z.2.2) ∧ offM s s') _ N ?_ ?_ n 0 _ (by omega) (by omega) ⟨s, rfl, hm, offM_refl s⟩
    · rintro p st hp ⟨s', rfl, hm', ho⟩
      left
      have g' := ZG_moves dr g p
      rw [fR_s]
      obtain ⟨t, q1, q2, q3⟩ := m_move1 (σ0 := s) (v2 := nN Z.1) hn g' hm' dr hp
      exact ⟨_, q1, t, rfl, q2, offM_trans ho q3⟩
    · rintro st ⟨s', rfl, hm', ho⟩
      have gw' : GW s' N := by unfold GW; rw [hm'.1]; exact gm.1
      obtain ⟨c, k1, k2, k3, k4⟩ := meets s s' hm' ho
      refine ⟨c, ?_, k2, k3, k4⟩
      simp (disch := omega) only [L_X12_oneDay_10, e_X12_people gw', bnd_s, le_t, if_true, k1, Option.map_some]
  obtain ⟨⟨v, t⟩, k1, k2, k3, k4⟩ := key
  exact ⟨t, by rw [k1]; simp only at k2; rw [k2], k3, k4⟩
/-! the house's state in both -/
theorem HR_Z {H : Nat → Nat → Int32} {w : Nat → Int32} {B : Nat} (h : HR H w B) : ∃ N Z, ZG N Z ∧ Z.1 ≤ B ∧ hvr H = Z.2.1 ∧ CL (H 8) Z.1 Z.2.2 ∧ MR w Z := by
  obtain ⟨h1, N, f, h2, h3, h4, h5, h6⟩ := h
  have hE : ∃ E : EvF, ∀ ago, ago < f → ago < 60 → (E ago).1 ≤ 9999 ∧ (E ago).2.1 < 8 ∧ (E ago).2.2.1 < 8 ∧ (E ago).2.2.2 < 6 ∧ H 8 ((f - 1 - ago) % 60) = nN (512 * (E ago).1 + 64 * (E ago).2.1 + 8 * (E ago).2.2.1 + (E ago).2.2.2) ∧ w (234 + 4 * ago) = nN (E ago).1 ∧ w (235 + 4 * ago) = nN (E ago).2.1 ∧ w (236 + 4 * ago) = nN (E ago).2.2.1 ∧ w (237 + 4 * ago) = nN (E ago).2.2.2 := by
    refine ⟨fun ago => (ix (w (234 + 4 * ago)), ix (w (235 + 4 * ago)), ix (w (236 + 4 * ago)), ix (w (237 + 4 * ago))), fun ago a1 a2 => ?_⟩
    obtain ⟨d, a, b, r, c1, c2, c3, c4, c5, c6, c7, c8, c9⟩ := h6 ago a1 a2
    simp only [c6, c7, c8, c9]
    rw [ix_nN (by omega), ix_nN (by omega), ix_nN (by omega), ix_nN (by omega)]
    exact ⟨c1, c2, c3, c4, c5, rfl, rfl, rfl, rfl⟩
  obtain ⟨E, hE⟩ := hE
  refine ⟨N, (f, rv w, E), ⟨h2, h3, fun ago a1 a2 => ?_⟩, h4, h1, fun ago a1 a2 => ?_, rfl, fun ago a1 a2 => ?_, h5⟩
  · obtain ⟨e1, e2, e3, e4, -⟩ := hE ago a1 a2
    exact ⟨e1, e2, e3, e4⟩
  · obtain ⟨-, -, -, -, e5, -⟩ := hE ago a1 a2
    exact e5
  · obtain ⟨-, -, -, -, -, e6, e7, e8, e9⟩ := hE ago a1 a2
    exact ⟨e6, e7, e8, e9⟩
theorem Z_HR {H : Nat → Nat → Int32} {w : Nat → Int32} {B N : Nat} {Z : ZS} (g : ZG N Z) (hB : Z.1 ≤ B) (h1 : hvr H = Z.2.1) (h2 : CL (H 8) Z.1 Z.2.2) (h3 : MR w Z) : HR H w B := by
  obtain ⟨m1, m2, m3⟩ := h3
  refine ⟨by rw [h1, m1], N, Z.1, by rw [m1]; exact g.1, ?_, hB, m3, fun ago a1 a2 => ?_⟩
  · rw [← g.2.1, ← m1]
    rfl
  · obtain ⟨e1, e2, e3, e4⟩ := g.2.2 ago a1 a2
    obtain ⟨q1, q2, q3, q4⟩ := m2 ago a1 a2
    exact ⟨_, _, _, _, e1, e2, e3, e4, h2 ago a1 a2, q1, q2, q3, q4⟩
