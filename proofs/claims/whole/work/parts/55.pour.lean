/-! layer 2: a cup is shared -/
def inS (set p q : Nat) : Bool := set.testBit p && set.testBit q
theorem both_bits {set p q : Nat} (hs : set < 256) (hp : p < 8) (hq : q < 8) : (nN set &&& (shlI 1 (nN p) ||| shlI 1 (nN q)) = shlI 1 (nN p) ||| shlI 1 (nN q)) = (inS set p q = true) := by
  have p1 : 2 ^ p < 256 := by
    have H : ∀ r, r < 8 → 2 ^ r < 256 := by decide +kernel
    exact H p hp
  have p2 : 2 ^ q < 256 := by
    have H : ∀ r, r < 8 → 2 ^ r < 256 := by decide +kernel
    exact H q hq
  rw [shl1 (by omega), shl1 (by omega), nN_or, nN_and, nN_eq (Nat.lt_trans (and_256 hs) (by omega)) (Nat.lt_trans (or_256 p1 p2) (by omega))]
  apply propext
  unfold inS
  rw [Bool.and_eq_true]
  constructor
  · intro h
    have h1 := congrArg (fun x => x.testBit p) h
    have h2 := congrArg (fun x => x.testBit q) h
    simp only [Nat.testBit_and, Nat.testBit_or, Nat.testBit_two_pow] at h1 h2
    exact ⟨by simpa using h1, by simpa using h2⟩
  · rintro ⟨h1, h2⟩
    apply bit_ext
    intro i
    rw [Nat.testBit_and, Nat.testBit_or, Nat.testBit_two_pow, Nat.testBit_two_pow]
    by_cases c1 : p = i
    · subst c1
      rw [h1, Bool.true_and]
    · by_cases c2 : q = i
      · subst c2
        rw [h2, Bool.true_and]
      · simp [c1, c2]
def shG (S : (Nat → Int32) → Int32 → Int32) (set k : Nat) (many : Int32) (b : Bool) (p q : Nat) (a : Nat × HV) : Nat × HV := if inS set p q = true then (a.1 + (chB S a.2 p q k many).toNat, if b = true then chV S a.2 p q k many else a.2) else a
theorem shG_GV {S : (Nat → Int32) → Int32 → Int32} {set k N p q : Nat} {many : Int32} {b : Bool} {a : Nat × HV} (hS : SmS S) (g : GV a.2 N) (hp : p < 8) (hq : q < 8) (hpq : p ≠ q) : GV (shG S set k many b p q a).2 N := by
  unfold shG
  split
  · cases b
    · exact g
    · exact GV_ch hS g hp hq hpq
  · exact g
def shRow (S : (Nat → Int32) → Int32 → Int32) (set k : Nat) (many : Int32) (b : Bool) (N p : Nat) (a : Nat × HV) : Nat × HV := fR (N - (p + 1)) (fun i a => shG S set k many b p (p + 1 + i) a) a
theorem GV_people {V : HV} {N : Nat} {s : MS} (g : GV V N) (h : hv s 3 = V) : GH s 3 N ∧ s 3 0 = nN N := by
  have g' : GH s 3 N := by unfold GH; rw [h]; exact g
  exact ⟨g', g'.ppl⟩
theorem e_pour {σ s : MS} {n N set k : Nat} {S : (Nat → Int32) → Int32 → Int32} (hn : 6000 ≤ n) (hS : LawF σ n S) (hr : ∀ k, k < 5 → s (30 + k) = σ (30 + k)) (g : GH s 3 N) (hset : set < 256) (hk : k ≤ 3) (b : Bool) : ∃ τ, f_X1_pour n (nN set) (nN k) (bI b) s = some (nN (pU N (shG S set k (nN (bc set)) b) (0, hv s 3)).1, τ) ∧ hv τ 3 = (pU N (shG S set k (nN (bc set)) b) (0, hv s 3)).2 ∧ GV (pU N (shG S set k (nN (bc set)) b) (0, hv s 3)).2 N ∧ (∀ o, o ≠ 35 → o ≠ 36 → (b = false ∨ (o ≠ 9 ∧ o ≠ 10)) → τ o = s o) := by
  have h8 := g.le8
  simp only [f_X1_pour, e_bc s hset, bnd_s]
  have key : ∃ c, itr (L_X1_pour_12 n (nN set) (nN k) (bI b) (nN (bc set)) s) n (0, 0, s) = some c ∧ c.1 = nN (pU N (shG S set k (nN (bc set)) b) (0, hv s 3)).1 ∧ hv c.2 3 = (pU N (shG S set k (nN (bc set)) b) (0, hv s 3)).2 ∧ GV (pU N (shG S set k (nN (bc set)) b) (0, hv s 3)).2 N ∧ (∀ o, o ≠ 35 → o ≠ 36 → (b = false ∨ (o ≠ 9 ∧ o ≠ 10)) → c.2 o = s o) := by
    refine itr_inv (fun i st => ∃ s', st = (nN (fR i (shRow S set k (nN (bc set)) b N) (0, hv s 3)).1, nN i, s') ∧ hv s' 3 = (fR i (shRow S set k (nN (bc set)) b N) (0, hv s 3)).2 ∧ GV (fR i (shRow S set k (nN (bc set)) b N) (0, hv s 3)).2 N ∧ (∀ o, o ≠ 35 → o ≠ 36 → (b = false ∨ (o ≠ 9 ∧ o ≠ 10)) → s' o = s o)) _ N ?_ ?_ n 0 _ (by omega) (by omega) ⟨s, rfl, rfl, g, fun _ _ _ _ => rfl⟩
    · rintro p st hp ⟨s', rfl, hv', gv', hs'⟩
      left
      rw [fR_s]
      generalize fR p (shRow S set k (nN (bc set)) b N) (0, hv s 3) = A at hv' gv'
      obtain ⟨gh', hN'⟩ := GV_people gv' hv'
      have inner : ∃ c, itr (L_X1_pour_30 n (nN set) (nN k) (bI b) (nN (bc set)) (nN p) s) n (nN A.1, nN (p + 1), s') = some c ∧ ∃ s'', c = .inl (nN (shRow S set k (nN (bc set)) b N p A).1, nN (p + 1), s'') ∧ hv s'' 3 = (shRow S set k (nN (bc set)) b N p A).2 ∧ GV (shRow S set k (nN (bc set)) b N p A).2 N ∧ (∀ o, o ≠ 35 → o ≠ 36 → (b = false ∨ (o ≠ 9 ∧ o ≠ 10)) → s'' o = s o) := by
        unfold shRow
        refine itr_inv (fun i st => ∃ s'', st = (nN (fR i (fun i a => shG S set k (nN (bc set)) b p (p + 1 + i) a) A).1, nN (p + 1 + i), s'') ∧ hv s'' 3 = (fR i (fun i a => shG S set k (nN (bc set)) b p (p + 1 + i) a) A).2 ∧ GV (fR i (fun i a => shG S set k (nN (bc set)) b p (p + 1 + i) a) A).2 N ∧ (∀ o, o ≠ 35 → o ≠ 36 → (b = false ∨ (o ≠ 9 ∧ o ≠ 10)) → s'' o = s o)) _ (N - (p + 1)) ?_ ?_ n 0 _ (by omega) (by omega) ⟨s', rfl, hv', gv', hs'⟩
        · rintro i st hi ⟨s1, rfl, hv1, gv1, hs1⟩
          left
          rw [fR_s]
          generalize fR i (fun i a => shG S set k (nN (bc set)) b p (p + 1 + i) a) A = C at hv1 gv1
          obtain ⟨gh1, hN1⟩ := GV_people gv1 hv1
          have hbb := both_bits hset (show p < 8 by omega) (show p + 1 + i < 8 by omega)
          have gnew := shG_GV (set := set) (k := k) (many := nN (bc set)) (b := b) hS.1 gv1 (show p < 8 by omega) (show p + 1 + i < 8 by omega) (by omega)
          cases hin : inS set p (p + 1 + i)
          · have eG : shG S set k (nN (bc set)) b p (p + 1 + i) C = C := by unfold shG; rw [hin]; rfl
            rw [eG]
            refine ⟨_, ?_, s1, rfl, hv1, gv1, hs1⟩
            simp (disch := omega) only [L_X1_pour_30, J_X1_pour_80, hN1, le_f, if_false, hbb, hin, Bool.false_eq_true, nN_s]
            rfl
          · obtain ⟨s2, q1, q2, q3⟩ := e_changes (s := s1) (many := nN (bc set)) (k := k) hS (fun k hk => by rw [hs1 _ (by omega) (by omega) (Or.inr (by omega))]; exact hr k hk) gh1 (show p < 8 by omega) (show p + 1 + i < 8 by omega) hk b
            rw [hv1] at q1 q2
            have eG : shG S set k (nN (bc set)) b p (p + 1 + i) C = (C.1 + (chB S C.2 p (p + 1 + i) k (nN (bc set))).toNat, if b = true then chV S C.2 p (p + 1 + i) k (nN (bc set)) else C.2) := by unfold shG; rw [hin]; rfl
            rw [eG] at gnew ⊢
            refine ⟨_, ?_, s2, rfl, q2, gnew, fun o o1 o2 o3 => (q3 o o1 o2 o3).trans (hs1 o o1 o2 o3)⟩
            simp (disch := omega) only [L_X1_pour_30, J_X1_pour_80, hN1, le_f, if_false, hbb, hin, if_true, q1, bnd_s, ite_bI, nN_s]
            cases chB S C.2 p (p + 1 + i) k (nN (bc set)) <;> rfl
        · rintro st ⟨s1, rfl, hv1, gv1, hs1⟩
          obtain ⟨gh1, hN1⟩ := GV_people gv1 hv1
          simp (disch := omega) only [L_X1_pour_30, J_X1_pour_80, hN1, le_t, if_true, Option.map_some, nN_s]
          exact ⟨_, rfl, s1, rfl, hv1, gv1, hs1⟩
      obtain ⟨c, hc, s'', rfl, i1, i2, i3⟩ := inner
      refine ⟨_, ?_, s'', rfl, i1, i2, i3⟩
      simp (disch := omega) only [L_X1_pour_12, hN', le_f, if_false, nN_s, hc]
    · rintro st ⟨s', rfl, hv', gv', hs'⟩
      obtain ⟨gh', hN'⟩ := GV_people gv' hv'
      simp (disch := omega) only [L_X1_pour_12, hN', le_t, if_true, Option.map_some]
      exact ⟨_, rfl, rfl, hv', gv', hs'⟩
  obtain ⟨⟨v, τ⟩, k1, k2, k3, k4, k5⟩ := key
  exact ⟨τ, by rw [k1]; simp only at k2; rw [k2], k3, k4, k5⟩
theorem m_shares {σ s : MS} {n N set k : Nat} {S : (Nat → Int32) → Int32 → Int32} (hn : 6000 ≤ n) (hS : LawF σ n S) (hw : ∀ k, k < 1323 → (k = 2 ∨ 474 ≤ k) → s 172 k = σ 172 k) (g : GW s N) (hset : set < 256) (hk : k ≤ 3) : ∃ τ, f_X12_shares n (nN set) (nN k) s = some (nN (pU N (shG S set k (nN (bc set)) true) (0, rv (s 172))).1, τ) ∧ rv (τ 172) = (pU N (shG S set k (nN (bc set)) true) (0, rv (s 172))).2 ∧ GV (pU N (shG S set k (nN (bc set)) true) (0, rv (s 172))).2 N ∧ (∀ o, o ≠ 171 → o ≠ 172 → o ≠ 179 → τ o = s o) ∧ (∀ i, (i < 18 ∨ 21 < i) → τ 171 i = s 171 i) ∧ (∀ i, (i < 106 ∨ 234 ≤ i) → τ 172 i = s 172 i) := by
  have h8 := g.le8
  have key : ∃ c, f_X12_shares n (nN set) (nN k) s = some c ∧ c.1 = nN (pU N (shG S set k (nN (bc set)) true) (0, rv (s 172))).1 ∧ rv (c.2 172) = (pU N (shG S set k (nN (bc set)) true) (0, rv (s 172))).2 ∧ GV (pU N (shG S set k (nN (bc set)) true) (0, rv (s 172))).2 N ∧ (∀ o, o ≠ 171 → o ≠ 172 → o ≠ 179 → c.2 o = s o) ∧ (∀ i, (i < 18 ∨ 21 < i) → c.2 171 i = s 171 i) ∧ (∀ i, (i < 106 ∨ 234 ≤ i) → c.2 172 i = s 172 i) := by
    unfold f_X12_shares
    refine itr_inv (fun i st => ∃ s', st = (nN (fR i (shRow S set k (nN (bc set)) true N) (0, rv (s 172))).1, nN i, s') ∧ rv (s' 172) = (fR i (shRow S set k (nN (bc set)) true N) (0, rv (s 172))).2 ∧ GV (fR i (shRow S set k (nN (bc set)) true N) (0, rv (s 172))).2 N ∧ (∀ o, o ≠ 171 → o ≠ 172 → o ≠ 179 → s' o = s o) ∧ (∀ i, (i < 18 ∨ 21 < i) → s' 171 i = s 171 i) ∧ (∀ i, (i < 106 ∨ 234 ≤ i) → s' 172 i = s 172 i)) _ N ?_ ?_ n 0 _ (by omega) (by omega) ⟨s, rfl, rfl, g, fun _ _ _ _ => rfl, fun _ _ => rfl, fun _ _ => rfl⟩
    · rintro p st hp ⟨s', rfl, hv', gv', u1, u2, u3⟩
      left
      rw [fR_s]
      generalize fR p (shRow S set k (nN (bc set)) true N) (0, rv (s 172)) = A at hv' gv'
      have gw' : GW s' N := by unfold GW; rw [hv']; exact gv'
      have inner : ∃ c, itr (L_X12_shares_20 n (nN set) (nN k) (nN p) s) n (nN A.1, nN (p + 1), s') = some c ∧ ∃ s'', c = .inl (nN (shRow S set k (nN (bc set)) true N p A).1, nN (p + 1), s'') ∧ rv (s'' 172) = (shRow S set k (nN (bc set)) true N p A).2 ∧ GV (shRow S set k (nN (bc set)) true N p A).2 N ∧ (∀ o, o ≠ 171 → o ≠ 172 → o ≠ 179 → s'' o = s o) ∧ (∀ i, (i < 18 ∨ 21 < i) → s'' 171 i = s 171 i) ∧ (∀ i, (i < 106 ∨ 234 ≤ i) → s'' 172 i = s 172 i) := by
        unfold shRow
        refine itr_inv (fun i st => ∃ s'', st = (nN (fR i (fun i a => shG S set k (nN (bc set)) true p (p + 1 + i) a) A).1, nN (p + 1 + i), s'') ∧ rv (s'' 172) = (fR i (fun i a => shG S set k (nN (bc set)) true p (p + 1 + i) a) A).2 ∧ GV (fR i (fun i a => shG S set k (nN (bc set)) true p (p + 1 + i) a) A).2 N ∧ (∀ o, o ≠ 171 → o ≠ 172 → o ≠ 179 → s'' o = s o) ∧ (∀ i, (i < 18 ∨ 21 < i) → s'' 171 i = s 171 i) ∧ (∀ i, (i < 106 ∨ 234 ≤ i) → s'' 172 i = s 172 i)) _ (N - (p + 1)) ?_ ?_ n 0 _ (by omega) (by omega) ⟨s', rfl, hv', gv', u1, u2, u3⟩
        · rintro i st hi ⟨s1, rfl, hv1, gv1, z1, z2, z3⟩
          left
          rw [fR_s]
          generalize fR i (fun i a => shG S set k (nN (bc set)) true p (p + 1 + i) a) A = C at hv1 gv1
          have gw1 : GW s1 N := by unfold GW; rw [hv1]; exact gv1
          have gnew := shG_GV (set := set) (k := k) (many := nN (bc set)) (b := true) hS.1 gv1 (show p < 8 by omega) (show p + 1 + i < 8 by omega) (by omega)
          cases hin : inS set p (p + 1 + i)
          · have eG : shG S set k (nN (bc set)) true p (p + 1 + i) C = C := by unfold shG; rw [hin]; rfl
            rw [eG]
            refine ⟨_, ?_, s1, rfl, hv1, gv1, z1, z2, z3⟩
            simp (disch := omega) only [L_X12_shares_20, J_X12_shares_71, e_X12_people gw1, bnd_s, le_f, if_false, e_X12_has, ite_bI, nN_s]
            unfold inS at hin
            revert hin
            cases set.testBit p
            · intro _; rfl
            · cases set.testBit (p + 1 + i)
              · intro _; rfl
              · intro h; cases h
          · obtain ⟨s2, q1, q2, q3, q4, q5⟩ := m_sips (s := s1) (N := N) (many := nN (bc set)) (k := k) hS (fun k h1 h2 => by rw [z3 k (by omega)]; exact hw k h1 h2) gw1 (show p < p + 1 + i by omega) (show p + 1 + i < 8 by omega) hk
            rw [hv1] at q1 q2
            have eG : shG S set k (nN (bc set)) true p (p + 1 + i) C = (C.1 + (chB S C.2 p (p + 1 + i) k (nN (bc set))).toNat, chV S C.2 p (p + 1 + i) k (nN (bc set))) := by unfold shG; rw [hin]; rfl
            rw [eG] at gnew ⊢
            refine ⟨_, ?_, s2, rfl, q2, gnew, fun o o1 o2 o3 => (q3 o o1 o2 o3).trans (z1 o o1 o2 o3), fun i hi => (q4 i hi).trans (z2 i hi), fun i hi => (q5 i hi).trans (z3 i hi)⟩
            unfold inS at hin
            rw [Bool.and_eq_true] at hin
            have zz : (0 : Int32) = nN 0 := rfl
            simp (disch := omega) only [L_X12_shares_20, J_X12_shares_71, J_X12_shares_69, e_X12_people gw1, bnd_s, le_f, if_false, e_X12_has, ite_bI, hin.1, hin.2, if_true, e_bc, q1, nN_s]
            cases chB S C.2 p (p + 1 + i) k (nN (bc set))
            · simp only [Bool.false_eq_true, if_false, zz, nN_add]
              rfl
            · simp only [if_true]
              rfl
        · rintro st ⟨s1, rfl, hv1, gv1, z1, z2, z3⟩
          have gw1 : GW s1 N := by unfold GW; rw [hv1]; exact gv1
          simp (disch := omega) only [L_X12_shares_20, e_X12_people gw1, bnd_s, le_t, if_true, Option.map_some, nN_s]
          exact ⟨_, rfl, s1, rfl, hv1, gv1, z1, z2, z3⟩
      obtain ⟨c, hc, s'', rfl, i1, i2, i3⟩ := inner
      refine ⟨_, ?_, s'', rfl, i1, i2, i3⟩
      simp (disch := omega) only [L_X12_shares_5, e_X12_people gw', bnd_s, le_f, if_false, nN_s, hc]
    · rintro st ⟨s', rfl, hv', gv', u1, u2, u3⟩
      have gw' : GW s' N := by unfold GW; rw [hv']; exact gv'
      simp (disch := omega) only [L_X12_shares_5, e_X12_people gw', bnd_s, le_t, if_true, Option.map_some]
      exact ⟨_, rfl, rfl, hv', gv', u1, u2, u3⟩
  obtain ⟨⟨v, τ⟩, k1, k2, k3, k4, k5⟩ := key
  exact ⟨τ, by rw [k1]; simp only at k2; rw [k2], k3, k4, k5⟩
