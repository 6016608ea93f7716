/-! layer 2: days of the program -/
theorem offD_trans {h : Nat} {s t u : MS} (a : offD h s t) (b : offD h t u) : offD h s u := fun o x1 x2 x3 => (b o x1 x2 x3).trans (a o x1 x2 x3)
theorem su_ok {σ : MS} {n : Nat} {S : (Nat → Int32) → Int32 → Int32} (hS : LawF σ n S) : SuB (suS σ S) := by
  intro V p q
  unfold suS
  split
  · exact hS.1 _ _
  · exact ⟨5, rfl, by omega⟩
theorem c_meet {σ s : MS} {n h N : Nat} {Z : ZS} {S : (Nat → Int32) → Int32 → Int32} (hn : 6000 ≤ n) (hS : LawF σ n S) (hr : ∀ k, k < 5 → s (30 + k) = σ (30 + k)) (hh : h + 8 < 30) (g : ZG N Z) (hc : CR s h Z) (hf : Z.1 < 1900000000) : ∃ t, f_X0_meet n h 30 s = some (0, t) ∧ CR t h (zMeets (suS σ S) N Z) ∧ offD h s t := by
  have h8 := g.1.le8
  have hsu := su_ok hS
  have key : ∃ c, f_X0_meet n h 30 s = some c ∧ c.1 = 0 ∧ CR c.2 h (zMeets (suS σ S) N Z) ∧ offD h s c.2 := by
    unfold f_X0_meet
    refine itr_inv (fun i st => ∃ s', st = (nN i, s') ∧ CR s' h (fR i (zRow (suS σ S) N) Z) ∧ offD h s s') _ N ?_ ?_ n 0 _ (by omega) (by omega) ⟨s, rfl, hc, fun _ _ _ _ => rfl⟩
    · rintro p st hp ⟨s', rfl, hc', ho⟩
      left
      obtain ⟨g', hf'⟩ := ZG_meets hsu g p (by omega)
      rw [fR_s]
      generalize fR p (zRow (suS σ S) N) Z = Y at hc' g' hf'
      have gh' : GH s' h N := by unfold GH; rw [hc'.1]; exact g'.1
      have inner : ∃ c, itr (L_X0_meet_14 n h 30 (nN p) s) n (nN (p + 1), s') = some c ∧ ∃ s'', c = .inl (nN (p + 1), s'') ∧ CR s'' h (zRow (suS σ S) N p Y) ∧ offD h s s'' := by
        unfold zRow
        refine itr_inv (fun i st => ∃ s'', st = (nN (p + 1 + i), s'') ∧ CR s'' h (fR i (fun i Z => zMeet (suS σ S) p (p + 1 + i) Z) Y) ∧ offD h s s'') _ (N - (p + 1)) ?_ ?_ n 0 _ (by omega) (by omega) ⟨s', rfl, hc', ho⟩
        · rintro i st hi ⟨s1, rfl, hc1, ho1⟩
          left
          obtain ⟨g1, hf1⟩ := ZG_row (p := p) hsu g' hp i (by omega)
          rw [fR_s]
          generalize fR i (fun i Z => zMeet (suS σ S) p (p + 1 + i) Z) Y = X at hc1 g1 hf1
          obtain ⟨t, q1, q2, q3⟩ := c_meet1 (σ0 := s) (p := p) (q := p + 1 + i) hn hS (fun k hk => by rw [ho1 _ (by omega) (by omega) (by omega)]; exact hr k hk) hh g1 hc1 (by omega) (by omega) (by omega)
          exact ⟨_, q1, t, rfl, q2, offD_trans ho1 q3⟩
        · rintro st ⟨s1, rfl, hc1, ho1⟩
          obtain ⟨g1, hf1⟩ := ZG_row (p := p) hsu g' hp (N - (p + 1)) (Nat.le_refl _)
          have gh1 : GH s1 h N := by unfold GH; rw [hc1.1]; exact g1.1
          refine ⟨.inl (nN (p + 1), s1), ?_, s1, rfl, hc1, ho1⟩
          unfold L_X0_meet_14
          rw [if_pos (show s1 h 0 ≤ nN (p + 1 + (N - (p + 1))) by rw [gh1.ppl, nN_le (by omega) (by omega)]; omega)]
          rw [nN_s]
          rfl
      obtain ⟨c, hc2, s'', rfl, i1, i2⟩ := inner
      refine ⟨_, ?_, s'', rfl, i1, i2⟩
      simp (disch := omega) only [L_X0_meet_2, gh'.ppl, le_f, if_false, nN_s, hc2]
    · rintro st ⟨s', rfl, hc', ho⟩
      obtain ⟨g', hf'⟩ := ZG_meets hsu g N (Nat.le_refl _)
      have gh' : GH s' h N := by unfold GH; rw [hc'.1]; exact g'.1
      simp (disch := omega) only [L_X0_meet_2, gh'.ppl, le_t, if_true, Option.map_some]
      exact ⟨_, rfl, rfl, hc', ho⟩
  obtain ⟨⟨v, t⟩, k1, k2, k3, k4⟩ := key
  exact ⟨t, by rw [k1]; simp only at k2; rw [k2], k3, k4⟩
/-- days: how many without footprints, and the state -/
def dG (su : HV → Nat → Nat → Int32) (N : Nat) (dr : Bool) (_ : Nat) (a : Nat × ZS) : Nat × ZS := (if (zDay su N dr a.2).1 = a.2.1 then a.1 + 1 else a.1, zDay su N dr a.2)
def dZ (su : HV → Nat → Nat → Int32) (N : Nat) (dr : Bool) (D : Nat) (Z : ZS) : Nat × ZS := fR D (dG su N dr) (0, Z)
theorem dZ_g {su : HV → Nat → Nat → Int32} {N : Nat} {dr : Bool} {Z : ZS} (hsu : SuB su) (g : ZG N Z) : ∀ D, ZG N (dZ su N dr D Z).2 ∧ (dZ su N dr D Z).2.1 ≤ Z.1 + 64 * D := by
  intro D
  induction D with
  | zero => exact ⟨g, show Z.1 ≤ Z.1 + 64 * 0 by omega⟩
  | succ D ih =>
    obtain ⟨i1, i2⟩ := ih
    obtain ⟨j1, j2⟩ := ZG_day dr hsu i1
    exact ⟨j1, show (zDay su N dr (dZ su N dr D Z).2).1 ≤ Z.1 + 64 * (D + 1) by omega⟩
theorem c_pass {σ s : MS} {n h N D : Nat} {Z : ZS} {S : (Nat → Int32) → Int32 → Int32} (hn : 6000 ≤ n) (hS : LawF σ n S) (hr : ∀ k, k < 5 → s (30 + k) = σ (30 + k)) (hh : h + 8 < 30) (g : ZG N Z) (hc : CR s h Z) (hf : Z.1 < 1000000000) (hD : D ≤ 400) (dr : Bool) : ∃ t, f_X0_pass n h 30 (nN D) (bI dr) s = some (nN (dZ (suS σ S) N dr D Z).1, t) ∧ CR t h (dZ (suS σ S) N dr D Z).2 ∧ offD h s t := by
  have h8 := g.1.le8
  have hsu := su_ok hS
  have key : ∃ c, f_X0_pass n h 30 (nN D) (bI dr) s = some c ∧ c.1 = nN (dZ (suS σ S) N dr D Z).1 ∧ CR c.2 h (dZ (suS σ S) N dr D Z).2 ∧ offD h s c.2 := by
    unfold f_X0_pass
    refine itr_inv (fun i st => ∃ s', st = (nN (dZ (suS σ S) N dr i Z).1, nN i, s') ∧ CR s' h (dZ (suS σ S) N dr i Z).2 ∧ offD h s s') _ D ?_ ?_ n 0 _ (by omega) (by omega) ⟨s, rfl, hc, fun _ _ _ _ => rfl⟩
    · rintro i st hi ⟨s', rfl, hc', ho⟩
      left
      obtain ⟨g', hf'⟩ := dZ_g (dr := dr) hsu g i
      have es : dZ (suS σ S) N dr (i + 1) Z = dG (suS σ S) N dr i (dZ (suS σ S) N dr i Z) := rfl
      rw [es]
      generalize dZ (suS σ S) N dr i Z = A at hc' g' hf'
      obtain ⟨t1, a1, a2, a3⟩ := c_move hn hh g' hc' dr
      have gm : ZG N (A.2.1, zMoves N dr A.2.2.1, A.2.2.2) := ZG_moves dr g' N
      obtain ⟨t2, b1, b2, b3⟩ := c_meet hn hS (fun k hk => by rw [a3 _ (by omega) (by omega) (by omega), ho _ (by omega) (by omega) (by omega)]; exact hr k hk) hh gm a2 (show A.2.1 < 1900000000 by omega)
      obtain ⟨gd, hfd⟩ := ZG_day dr hsu g'
      have gM := (ZG_meets hsu gm N (Nat.le_refl _)).1
      have e5 : t2 h 5 = (zMeets (suS σ S) N (A.2.1, zMoves N dr A.2.2.1, A.2.2.2)).2.1 0 5 := by rw [← b2.1]; exact (hv_0 t2 h 5 (by omega)).symm
      generalize ht3 : mu t2 h 5 (mnI 9999 (t2 h 5 + 1)) = t3
      have hc3 : CR t3 h (zDay (suS σ S) N dr A.2) := by
        refine ⟨?_, ?_⟩
        · rw [← ht3, hv_mu0 (by omega), b2.1, e5]
          rfl
        · rw [← ht3, mu_row (by omega)]
          exact b2.2
      have e7 : t3 h 7 = nN (zDay (suS σ S) N dr A.2).1 := by
        rw [← gd.2.1, ← hc3.1]
        exact (hv_0 t3 h 7 (by omega)).symm
      have e70 : s' h 7 = nN A.2.1 := by
        rw [← g'.2.1, ← hc'.1]
        exact (hv_0 s' h 7 (by omega)).symm
      refine ⟨_, ?_, t3, rfl, hc3, fun o x1 x2 x3 => by rw [← ht3, mu_row (by omega), b3 o x1 x2 x3, a3 o x1 x2 x3]; exact ho o x1 x2 x3⟩
      simp (disch := omega) only [L_X0_pass_6, J_X0_pass_56, le_f, if_false, a1, bnd_s, b1, ltM_s, ht3, e7, e70, nN_s, nN_eq]
      unfold dG
      by_cases c : (zDay (suS σ S) N dr A.2).1 = A.2.1
      · rw [if_pos c, if_pos c]
      · rw [if_neg c, if_neg c]
    · rintro st ⟨s', rfl, hc', ho⟩
      simp (disch := omega) only [L_X0_pass_6, le_t, if_true, Option.map_some]
      exact ⟨_, rfl, rfl, hc', ho⟩
  obtain ⟨⟨v, t⟩, k1, k2, k3, k4⟩ := key
  exact ⟨t, by rw [k1]; simp only at k2; rw [k2], k3, k4⟩
/-! the reference -/
def ML (w : Nat → Int32) (f : Nat) (E : EvF) : Prop := ∀ ago, ago < f → ago < 60 → w (234 + 4 * ago) = nN (E ago).1 ∧ w (235 + 4 * ago) = nN (E ago).2.1 ∧ w (236 + 4 * ago) = nN (E ago).2.2.1 ∧ w (237 + 4 * ago) = nN (E ago).2.2.2
def MR (w : Nat → Int32) (Z : ZS) : Prop := rv w = Z.2.1 ∧ ML w Z.1 Z.2.2 ∧ w 8 = nN (min Z.1 60)
def offM (s t : MS) : Prop := (∀ o, o ≠ 171 → o ≠ 172 → o ≠ 179 → t o = s o) ∧ (∀ i, (i < 18 ∨ 21 < i) → t 171 i = s 171 i) ∧ (∀ k, (k = 2 ∨ 474 ≤ k) → t 172 k = s 172 k)
theorem offM_refl (s : MS) : offM s s := ⟨fun _ _ _ _ => rfl, fun _ _ => rfl, fun _ _ => rfl⟩
theorem offM_trans {s t u : MS} (a : offM s t) (b : offM t u) : offM s u := ⟨fun o x1 x2 x3 => (b.1 o x1 x2 x3).trans (a.1 o x1 x2 x3), fun i hi => (b.2.1 i hi).trans (a.2.1 i hi), fun k hk => (b.2.2 k hk).trans (a.2.2 k hk)⟩
theorem offM_w {s : MS} {k : Nat} {v : Int32} (h2 : k ≠ 2) (h4 : k < 474) : offM s (mu s 172 k v) := ⟨fun o _ x2 _ => mu_row x2, fun i _ => by rw [mu_row (by omega)], fun i hi => by rw [mu_at, if_neg (by omega)]⟩
theorem rv_lo {r : Nat → Int32} {j k i : Nat} {v : Int32} (hi : i < rng k) (hj : j = trw k i) : rv (rset r j v) = vset (rv r) k i v := by rw [hj]; exact rv_set hi
theorem ML_w {w : Nat → Int32} {f j : Nat} {E : EvF} {v : Int32} (h : ML w f E) (hj : j < 234) : ML (rset w j v) f E := by
  intro ago a1 a2
  obtain ⟨h1, h2, h3, h4⟩ := h ago a1 a2
  unfold rset
  rw [if_neg (by omega), if_neg (by omega), if_neg (by omega), if_neg (by omega)]
  exact ⟨h1, h2, h3, h4⟩
theorem shd_fold {s : MS} : ∀ m, fD m (fun i s => mu s 172 (238 + i) (s 172 (234 + i))) s = rsw s 172 (fun k => if 238 ≤ k ∧ k < 238 + m then s 172 (k - 4) else s 172 k) := by
  intro m
  induction m generalizing s with
  | zero =>
    funext a k
    unfold rsw
    by_cases c : a = 172
    · rw [if_pos c, if_neg (by omega), c]
      rfl
    · rw [if_neg c]
      rfl
  | succ m ih =>
    rw [fD_s, ih]
    funext a k
    by_cases c : a = 172
    · rw [c, rsw_own, rsw_own]
      by_cases d : 238 ≤ k ∧ k < 238 + m
      · rw [if_pos d, if_pos (by omega), mu_at, if_neg (by omega)]
      · rw [if_neg d, mu_own]
        by_cases e : k = 238 + m
        · rw [if_pos e, if_pos (by omega), e, show 238 + m - 4 = 234 + m by omega]
        · rw [if_neg e, if_neg (by omega)]
    · rw [rsw_row c, rsw_row c, mu_row c]
