/-! layer 2: a day of the program -/
def CL (R : Nat → Int32) (f : Nat) (E : EvF) : Prop := ∀ ago, ago < f → ago < 60 → R ((f - 1 - ago) % 60) = nN (512 * (E ago).1 + 64 * (E ago).2.1 + 8 * (E ago).2.2.1 + (E ago).2.2.2)
/-- the program's house h is Z -/
def CR (s : MS) (h : Nat) (Z : ZS) : Prop := hv s h = Z.2.1 ∧ CL (s (h + 8)) Z.1 Z.2.2
/-- rows that a day of house h may change -/
def offD (h : Nat) (s t : MS) : Prop := ∀ o, (o < h ∨ h + 8 < o) → o ≠ 35 → o ≠ 36 → t o = s o
theorem CR_rows {s t : MS} {h : Nat} {Z : ZS} (hc : CR s h Z) (ht : ∀ k, k < 9 → t (h + k) = s (h + k)) : CR t h Z := ⟨by rw [← hc.1]; exact hv_rows (fun k hk => ht k (by omega)), by rw [ht 8 (by omega)]; exact hc.2⟩
theorem c_move {s : MS} {n h N : Nat} {Z : ZS} (hn : 6000 ≤ n) (hh : h + 8 < 30) (g : ZG N Z) (hc : CR s h Z) (dr : Bool) : ∃ t, f_X0_move n h (bI dr) s = some (0, t) ∧ CR t h (Z.1, zMoves N dr Z.2.1, Z.2.2) ∧ offD h s t := by
  have h8 := g.1.le8
  have key : ∃ c, f_X0_move n h (bI dr) s = some c ∧ c.1 = 0 ∧ CR c.2 h (Z.1, zMoves N dr Z.2.1, Z.2.2) ∧ offD h s c.2 := by
    unfold f_X0_move
    refine itr_inv (fun i st => ∃ s', st = (nN i, s') ∧ CR s' h (Z.1, fR i (zMove N dr) Z.2.1, Z.2.2) ∧ offD h s s') _ N ?_ ?_ n 0 _ (by omega) (by omega) ⟨s, rfl, hc, fun _ _ _ _ => rfl⟩
    · rintro p st hp ⟨s', rfl, hc', ho⟩
      left
      have g' := (ZG_moves dr g p).1
      rw [fR_s]
      generalize fR p (zMove N dr) Z.2.1 = V at hc' g'
      obtain ⟨hv', hl'⟩ := hc'
      have hv'' : hv s' h = V := hv'
      have gh' : GH s' h N := by unfold GH; rw [hv'']; exact g'
      have hN' := gh'.ppl
      have hcl := e_X4_closest hn gh' (show p < 8 by omega)
      rw [hv''] at hcl
      have c6 : s' h 6 = V 0 6 := by rw [← hv'']; exact (hv_0 s' h 6 (by omega)).symm
      unfold zMove
      rcases most_is V N p with ⟨-, h2⟩ | ⟨q, hq, -, h2, -, -⟩
      · rw [h2] at hcl ⊢
        rw [if_pos rfl]
        refine ⟨_, ?_, s', rfl, ⟨hv', hl'⟩, ho⟩
        simp (disch := omega) only [L_X0_move_2, J_X0_move_53, hN', le_f, if_false, hcl, bnd_s, if_true, nN_s]
      · rw [h2] at hcl ⊢
        rw [it_m1 (by omega), ix_nN (by omega)]
        have r1q : ∀ t : MS, hv t h = V ∨ hv t h = vset V 0 6 (nxt (V 0 6)) → t (h + 1) q = V 1 q := by
          rintro t (ht | ht)
          · rw [← ht]
            exact (hv_at (σ := t) (h := h) (k := 1) (show q < 8 by omega)).symm
          · have : vset V 0 6 (nxt (V 0 6)) 1 q = V 1 q := vs_ne (by omega)
            rw [← this, ← ht]
            exact (hv_at (σ := t) (h := h) (k := 1) (show q < 8 by omega)).symm
        cases dr
        · simp only [Bool.false_eq_true, if_false]
          refine ⟨_, ?_, mu s' (h + 1) p (V 1 q), rfl, ⟨?_, ?_⟩, fun o o1 o2 o3 => by rw [mu_row (by omega)]; exact ho o o1 o2 o3⟩
          · simp (disch := omega) only [L_X0_move_2, J_X0_move_53, J_X0_move_41, hN', le_f, if_false, hcl, bnd_s, nN_m1, bI_f, if_true, inb_nN, ix_nN, it_t, r1q s' (Or.inl hv''), ltM_s, nN_s]
          · show hv (mu s' (h + 1) p (V 1 q)) h = vset V 1 p (V 1 q)
            rw [hv_mu (show p < rng 1 by rw [rng1]; omega), hv'']
          · show CL (mu s' (h + 1) p (V 1 q) (h + 8)) Z.1 Z.2.2
            rw [mu_row (by omega)]
            exact hl'
        · simp only [if_true]
          generalize hs1 : mu s' h 6 (nxt (V 0 6)) = s1
          have hv1 : hv s1 h = vset V 0 6 (nxt (V 0 6)) := by rw [← hs1, hv_mu0 (by omega), hv'']
          have edraw : f_X4_draw h s' = some (ushI (nxt (V 0 6)) 16 &&& 32767, s1) := by
            have m6 : mu s' h 6 (1103515245 * V 0 6 + 12345) h 6 = nxt (V 0 6) := by rw [mu_own]; rfl
            simp only [f_X4_draw, ltM_s, c6, m6]
            rw [← hs1]
            rfl
          have eheld : f_X4_held h (nN p) (nN q) s1 = some (heldV V p q) := by rw [e_X4_held (by omega) (by omega), hv1, held_ch6]
          have o1 : offD h s s1 := fun o x1 x2 x3 => by rw [← hs1, mu_row (by omega)]; exact ho o x1 x2 x3
          have l1' : CL (s1 (h + 8)) Z.1 Z.2.2 := by rw [← hs1, mu_row (by omega)]; exact hl'
          by_cases c : heldV V p q ≤ rD (nxt (V 0 6))
          · rw [if_pos c]
            refine ⟨_, ?_, s1, rfl, ⟨hv1, l1'⟩, o1⟩
            have c' : heldV V p q ≤ remI (ushI (nxt (V 0 6)) 16 &&& 32767) 10 := c
            simp (disch := omega) only [L_X0_move_2, J_X0_move_53, hN', le_f, if_false, hcl, bnd_s, nN_m1, bI_t, one_ne0, edraw, eheld, c', if_true, nN_s]
          · rw [if_neg c]
            have c' : ¬ heldV V p q ≤ remI (ushI (nxt (V 0 6)) 16 &&& 32767) 10 := c
            refine ⟨_, ?_, mu s1 (h + 1) p (V 1 q), rfl, ⟨?_, ?_⟩, fun o x1 x2 x3 => by rw [mu_row (by omega)]; exact o1 o x1 x2 x3⟩
            · simp (disch := omega) only [L_X0_move_2, J_X0_move_53, J_X0_move_41, hN', le_f, if_false, hcl, bnd_s, nN_m1, bI_t, one_ne0, edraw, eheld, c', if_true, inb_nN, ix_nN, it_t, r1q s1 (Or.inr hv1), ltM_s, nN_s]
            · show hv (mu s1 (h + 1) p (V 1 q)) h = vset (vset V 0 6 (nxt (V 0 6))) 1 p (V 1 q)
              rw [hv_mu (show p < rng 1 by rw [rng1]; omega), hv1]
            · show CL (mu s1 (h + 1) p (V 1 q) (h + 8)) Z.1 Z.2.2
              rw [mu_row (by omega)]
              exact l1'
    · rintro st ⟨s', rfl, hc', ho⟩
      have g' := (ZG_moves dr g N).1
      have gh' : GH s' h N := by unfold GH; rw [hc'.1]; exact g'
      have hN' := gh'.ppl
      simp (disch := omega) only [L_X0_move_2, hN', le_t, if_true, Option.map_some]
      exact ⟨_, rfl, rfl, hc', ho⟩
  obtain ⟨⟨v, t⟩, k1, k2, k3, k4⟩ := key
  exact ⟨t, by rw [k1]; simp only at k2; rw [k2], k3, k4⟩
theorem pack {d a b r : Nat} (hd : d ≤ 9999) (ha : a < 8) (hb : b < 8) (hr : r < 6) : shlI (nN d) 9 ||| shlI (nN a) 6 ||| shlI (nN b) 3 ||| nN r = nN (512 * d + 64 * a + 8 * b + r) := by
  have e9 : shlI (nN d) 9 = nN (512 * d) := by
    apply Int32.toBitVec.inj
    have : (shlI (nN d) 9).toBitVec = BitVec.ofNat 32 d <<< 9 := rfl
    rw [this, nN_bv]
    apply BitVec.eq_of_toNat_eq
    rw [BitVec.toNat_shiftLeft, BitVec.toNat_ofNat, BitVec.toNat_ofNat, Nat.shiftLeft_eq]
    omega
  have e6 : shlI (nN a) 6 = nN (64 * a) := by
    have H : ∀ a, a < 8 → shlI (nN a) 6 = nN (64 * a) := by decide +kernel
    exact H a ha
  have e3 : shlI (nN b) 3 = nN (8 * b) := by
    have H : ∀ a, a < 8 → shlI (nN a) 3 = nN (8 * a) := by decide +kernel
    exact H b hb
  rw [e9, e6, e3, nN_or, nN_or, nN_or]
  congr 1
  have q1 : 512 * d ||| 64 * a = 512 * d + 64 * a := by
    have := Nat.two_pow_add_eq_or_of_lt (i := 9) (b := 64 * a) (by omega) d
    rw [show 2 ^ 9 * d = 512 * d by omega] at this
    exact this.symm
  have q2 : 512 * d + 64 * a ||| 8 * b = 512 * d + 64 * a + 8 * b := by
    have := Nat.two_pow_add_eq_or_of_lt (i := 6) (b := 8 * b) (by omega) (8 * d + a)
    rw [show 2 ^ 6 * (8 * d + a) = 512 * d + 64 * a by omega] at this
    exact this.symm
  have q3 : 512 * d + 64 * a + 8 * b ||| r = 512 * d + 64 * a + 8 * b + r := by
    have := Nat.two_pow_add_eq_or_of_lt (i := 3) (b := r) (by omega) (64 * d + 8 * a + b)
    rw [show 2 ^ 3 * (64 * d + 8 * a + b) = 512 * d + 64 * a + 8 * b by omega] at this
    exact this.symm
  rw [q1, q2, q3]
theorem c_foot {s : MS} {h N p q f : Nat} {V : HV} {E : EvF} {su : Int32} (hh : h + 8 < 30) (g : GV V N) (hv0 : hv s h = V) (h7 : V 0 7 = nN f) (hf : f < 2000000000) (hl : CL (s (h + 8)) f E) (hp : p < 8) (hq : q < 8) (hpq : p ≠ q) : ∃ t, f_X4_leaveFootprint h (nN p) (nN q) su s = some (0, t) ∧ CR t h (f + 1, fpV V p q su, evS (ix (V 0 5), p, q, roN V p) E) ∧ offD h s t := by
  have d5 : ∃ d, V 0 5 = nN d ∧ d ≤ 9999 := by
    obtain ⟨-, -, -, -, -, h, -⟩ := g
    exact h
  obtain ⟨d, hd, hd9⟩ := d5
  obtain ⟨hr, hr6⟩ := roN_is g hp
  have m3p : s (h + 3) p = V 3 p := by rw [← hv0]; exact (hv_at (σ := s) (h := h) (k := 3) hp).symm
  have m3q : s (h + 3) q = V 3 q := by rw [← hv0]; exact (hv_at (σ := s) (h := h) (k := 3) hq).symm
  generalize hs1 : mu s (h + 3) p (mnI 99 (V 3 p + su)) = s1
  have a3q : s1 (h + 3) q = V 3 q := by rw [← hs1, mu_at, if_neg (by omega)]; exact m3q
  generalize hs2 : mu s1 (h + 3) q (mnI 99 (V 3 q + su)) = s2
  have r2 : ∀ o, o ≠ h + 3 → s2 o = s o := fun o ho => by rw [← hs2, mu_row ho, ← hs1, mu_row ho]
  have b7 : s2 h 7 = nN f := by
    rw [r2 h (by omega), ← h7, ← hv0]
    exact (hv_0 s h 7 (by omega)).symm
  have b5 : s2 h 5 = nN d := by
    rw [r2 h (by omega), ← hd, ← hv0]
    exact (hv_0 s h 5 (by omega)).symm
  have b1 : s2 (h + 1) p = nN (roN V p) := by
    rw [r2 (h + 1) (by omega), ← hr, ← hv0]
    exact (hv_at (σ := s) (h := h) (k := 1) hp).symm
  have hmod := Nat.mod_lt f (show 0 < 60 by omega)
  generalize hs3 : mu s2 (h + 8) (f % 60) (nN (512 * d + 64 * p + 8 * q + roN V p)) = s3
  have c7 : s3 h 7 = nN f := by rw [← hs3, mu_row (by omega)]; exact b7
  refine ⟨mu s3 h 7 (nN (f + 1)), ?_, ⟨?_, ?_⟩, ?_⟩
  · have hrem : remI (nN f) 60 = nN (f % 60) := by rw [l60, remI_nN (by omega) (by omega)]
    simp (disch := omega) only [f_X4_leaveFootprint, inb_nN, ix_nN, it_t, if_true, m3p, ltM_s, hs1, a3q, hs2, b7, hrem, b5, b1, pack hd9 hp hq hr6, hs3, c7, nN_s]
  · show hv (mu s3 h 7 (nN (f + 1))) h = fpV V p q su
    have e1 : hv s3 h = hv s2 h := hv_rows (fun k hk => by rw [← hs3, mu_row (by omega)])
    rw [hv_mu0 (by omega), e1, ← hs2, hv_mu (show q < rng 3 by rw [rng3]; exact hq), ← hs1, hv_mu (show p < rng 3 by rw [rng3]; exact hp), hv0]
    unfold fpV
    rw [h7, nN_s]
  · show CL (mu s3 h 7 (nN (f + 1)) (h + 8)) (f + 1) (evS (ix (V 0 5), p, q, roN V p) E)
    rw [mu_row (by omega)]
    intro ago a1 a2
    cases ago with
    | zero =>
      rw [show f + 1 - 1 - 0 = f by omega, ← hs3, mu_at, if_pos ⟨rfl, rfl⟩]
      show nN (512 * d + 64 * p + 8 * q + roN V p) = nN (512 * ix (V 0 5) + 64 * p + 8 * q + roN V p)
      rw [hd, ix_nN (by omega)]
    | succ k =>
      have hk := hl k (by omega) (by omega)
      have hne : (f - 1 - k) % 60 ≠ f % 60 := by omega
      rw [show f + 1 - 1 - (k + 1) = f - 1 - k by omega, ← hs3, mu_at, if_neg (by omega), r2 (h + 8) (by omega)]
      exact hk
  · intro o o1 o2 o3
    rw [mu_row (by omega), ← hs3, mu_row (by omega), r2 o (by omega)]
theorem c_meet1 {σ s σ0 : MS} {n h N p q : Nat} {Z : ZS} {S : (Nat → Int32) → Int32 → Int32} (hn : 6000 ≤ n) (hS : LawF σ n S) (hr : ∀ k, k < 5 → s (30 + k) = σ (30 + k)) (hh : h + 8 < 30) (g : ZG N Z) (hc : CR s h Z) (hf : Z.1 < 2000000000) (hpq : p < q) (hq : q < N) : ∃ t, L_X0_meet_14 n h 30 (nN p) σ0 (nN q, s) = some (.inl (nN (q + 1), t)) ∧ CR t h (zMeet (suS σ S) p q Z) ∧ offD h s t := by
  obtain ⟨g1, g2, g3⟩ := g
  obtain ⟨hv0, hl⟩ := hc
  have h8 := g1.le8
  have gh : GH s h N := by unfold GH; rw [hv0]; exact g1
  have hN := gh.ppl
  have hp8 : p < 8 := by omega
  have hq8 : q < 8 := by omega
  have r1p : s (h + 1) p = Z.2.1 1 p := by rw [← hv0]; exact (hv_at (σ := s) (h := h) (k := 1) hp8).symm
  have r1q : s (h + 1) q = Z.2.1 1 q := by rw [← hv0]; exact (hv_at (σ := s) (h := h) (k := 1) hq8).symm
  have r4p : s (h + 4) p = Z.2.1 4 p := by rw [← hv0]; exact (hv_at (σ := s) (h := h) (k := 4) hp8).symm
  have r4q : s (h + 4) q = Z.2.1 4 q := by rw [← hv0]; exact (hv_at (σ := s) (h := h) (k := 4) hq8).symm
  unfold zMeet
  by_cases c : Z.2.1 1 p = Z.2.1 1 q
  · rw [if_pos c]
    generalize hs1 : mu s (h + 4) p (Z.2.1 4 p ||| nN (2 ^ q)) = s1
    have a4q : s1 (h + 4) q = Z.2.1 4 q := by rw [← hs1, mu_at, if_neg (by omega)]; exact r4q
    generalize hs2 : mu s1 (h + 4) q (Z.2.1 4 q ||| nN (2 ^ p)) = s2
    have rr2 : ∀ o, o ≠ h + 4 → s2 o = s o := fun o ho => by rw [← hs2, mu_row ho, ← hs1, mu_row ho]
    have hv2 : hv s2 h = metV Z.2.1 p q := by
      rw [← hs2, hv_mu (show q < rng 4 by rw [rng4]; exact hq8), ← hs1, hv_mu (show p < rng 4 by rw [rng4]; exact hp8), hv0]
      rfl
    obtain ⟨hfl, hfl64⟩ := flN_is g1
    obtain ⟨hro, hro6⟩ := roN_is g1 hp8
    have b2 : s2 h 2 = nN (flN Z.2.1) := by
      rw [rr2 h (by omega), ← hfl, ← hv0]
      exact (hv_0 s h 2 (by omega)).symm
    have b1 : s2 (h + 1) p = nN (roN Z.2.1 p) := by rw [rr2 (h + 1) (by omega), r1p]; exact hro
    have esec : f_X4_isSecret h (nN p) (nN q) s2 = some (bI (secV (metV Z.2.1 p q) p q)) := by rw [e_X4_isSecret hp8 hq8, hv2]
    have gm : GV (metV Z.2.1 p q) N := GV_met g1 (by omega) hq
    have l2' : CL (s2 (h + 8)) Z.1 Z.2.2 := by rw [rr2 (h + 8) (by omega)]; exact hl
    have o2 : offD h s s2 := fun o x1 x2 x3 => rr2 o (by omega)
    have e7 : metV Z.2.1 p q 0 7 = nN Z.1 := by
      unfold metV
      rw [vs_ne (by omega), vs_ne (by omega)]
      exact g2
    have e05 : metV Z.2.1 p q 0 5 = Z.2.1 0 5 := by
      unfold metV
      rw [vs_ne (by omega), vs_ne (by omega)]
    have ero : roN (metV Z.2.1 p q) p = roN Z.2.1 p := by
      unfold roN metV
      rw [vs_ne (by omega), vs_ne (by omega)]
    have hbit : (nN (flN Z.2.1) &&& nN (2 ^ roN Z.2.1 p) = 0) = ((flN Z.2.1).testBit (roN Z.2.1 p) = false) := by
      rw [← shl1 (by omega)]
      exact and_bit (by omega) (by omega)
    cases hb : (flN Z.2.1).testBit (roN Z.2.1 p)
    · simp only [Bool.false_and, Bool.false_eq_true, if_false]
      refine ⟨s2, ?_, ⟨hv2, l2'⟩, o2⟩
      simp (disch := omega) only [L_X0_meet_14, J_X0_meet_102, hN, le_f, if_false, inb_nN, ix_nN, it_t, if_true, r1p, r1q, c, r4p, shl1, ltM_s, hs1, a4q, hs2, b2, b1, hbit, hb, nN_s]
    · cases hsec : secV (metV Z.2.1 p q) p q
      · simp only [Bool.and_false, Bool.false_eq_true, if_false]
        rw [hsec] at esec
        refine ⟨s2, ?_, ⟨hv2, l2'⟩, o2⟩
        simp (disch := omega) only [L_X0_meet_14, J_X0_meet_102, hN, le_f, if_false, inb_nN, ix_nN, it_t, if_true, r1p, r1q, c, r4p, shl1, ltM_s, hs1, a4q, hs2, b2, b1, hbit, hb, Bool.true_eq_false, esec, bnd_s, bI_f, nN_s]
      · simp only [Bool.and_self, if_true]
        rw [hsec] at esec
        obtain ⟨s3, k1, k2⟩ := e_suspectsBy (σ := σ) (s := s2) (h := h) (p := p) (q := q) hS (fun k hk => by rw [rr2 _ (by omega)]; exact hr k hk) hh hp8 hq8
        rw [hv2] at k1
        have hv3 : hv s3 h = metV Z.2.1 p q := by rw [← hv2]; exact hv_rows (fun k hk => k2 _ (by omega) (by omega))
        obtain ⟨s4, m1, m2, m3⟩ := c_foot (su := suS σ S (metV Z.2.1 p q) p q) (E := Z.2.2) hh gm hv3 e7 hf (by rw [k2 (h + 8) (by omega) (by omega)]; exact l2') hp8 hq8 (by omega)
        rw [e05, ero] at m2
        refine ⟨s4, ?_, m2, fun o x1 x2 x3 => by rw [m3 o x1 x2 x3, k2 o x2 x3]; exact o2 o x1 x2 x3⟩
        simp (disch := omega) only [L_X0_meet_14, J_X0_meet_102, hN, le_f, if_false, inb_nN, ix_nN, it_t, if_true, r1p, r1q, c, r4p, shl1, ltM_s, hs1, a4q, hs2, b2, b1, hbit, hb, Bool.true_eq_false, esec, bnd_s, bI_t, one_ne0, k1, m1, nN_s]
  · rw [if_neg c]
    refine ⟨s, ?_, ⟨hv0, hl⟩, fun _ _ _ _ => rfl⟩
    simp (disch := omega) only [L_X0_meet_14, J_X0_meet_102, hN, le_f, if_false, inb_nN, ix_nN, it_t, if_true, r1p, r1q, c, nN_s]
