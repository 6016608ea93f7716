/-! layer 2: the widest cup -/
def nwB (S : (Nat → Int32) → Int32 → Int32) (V : HV) (k : Nat) (many : Int32) (p q : Nat) : Bool := !holdsV V p q && (!decide (frc S V p q k many = 0) && decide (V 0 5 < rch S V p q k many))
def nwM (S : (Nat → Int32) → Int32 → Int32) (V : HV) (k : Nat) (many : Int32) (p M : Nat) : Nat := mset M (fun q => decide (p < q) && nwB S V k many p q)
def nwN (S : (Nat → Int32) → Int32 → Int32) (V : HV) (N k : Nat) (many : Int32) (set : Nat) : Nat := sm N (fun p => if set.testBit p = true then bc (nwM S V k many p N &&& set) else 0)
theorem nw_lo {S : (Nat → Int32) → Int32 → Int32} {V : HV} {k p : Nat} {many : Int32} : ∀ M, M ≤ p + 1 → nwM S V k many p M = 0 := by
  intro M hM
  apply bit_ext
  intro q
  unfold nwM
  rw [mset_bit, Nat.zero_testBit]
  by_cases c : q < M
  · have : ¬ p < q := by omega
    simp [this]
  · simp [c]
theorem e_foresee {σ s : MS} {n N k : Nat} {many : Int32} {S : (Nat → Int32) → Int32 → Int32} (hn : 6000 ≤ n) (hS : LawF σ n S) (hr : ∀ k, k < 5 → s (30 + k) = σ (30 + k)) (g : GH s 3 N) (hk : k ≤ 3) : ∃ τ, f_X1_foresee n (nN k) many s = some (0, τ) ∧ (∀ p, p < N → τ 54 p = nN (nwM S (hv s 3) k many p N)) ∧ (∀ o, o ≠ 35 → o ≠ 36 → o ≠ 54 → τ o = s o) := by
  have h8 := g.le8
  have gV : GV (hv s 3) N := g
  have key : ∃ c, f_X1_foresee n (nN k) many s = some c ∧ c.1 = 0 ∧ (∀ p, p < N → c.2 54 p = nN (nwM S (hv s 3) k many p N)) ∧ (∀ o, o ≠ 35 → o ≠ 36 → o ≠ 54 → c.2 o = s o) := by
    unfold f_X1_foresee
    refine itr_inv (fun i st => ∃ s', st = (nN i, s') ∧ (∀ p, p < i → s' 54 p = nN (nwM S (hv s 3) k many p N)) ∧ (∀ o, o ≠ 35 → o ≠ 36 → o ≠ 54 → s' o = s o)) _ N ?_ ?_ n 0 _ (by omega) (by omega) ⟨s, rfl, fun p hp => by omega, fun _ _ _ _ => rfl⟩
    · rintro p st hp ⟨s', rfl, h54, hs'⟩
      left
      have hN' : s' 3 0 = nN N := by rw [hs' 3 (by omega) (by omega) (by omega)]; exact g.ppl
      have inner : ∃ c, itr (L_X1_foresee_25 n (nN k) many (nN p) s) n (nN (p + 1), mu s' 54 p 0) = some c ∧ ∃ s'', c = .inl (nN (p + 1), s'') ∧ (∀ x, x < p + 1 → s'' 54 x = nN (nwM S (hv s 3) k many x N)) ∧ (∀ o, o ≠ 35 → o ≠ 36 → o ≠ 54 → s'' o = s o) := by
        refine itr_inv (fun i st => ∃ s'', st = (nN (p + 1 + i), s'') ∧ (∀ x, x < p → s'' 54 x = nN (nwM S (hv s 3) k many x N)) ∧ s'' 54 p = nN (nwM S (hv s 3) k many p (p + 1 + i)) ∧ (∀ o, o ≠ 35 → o ≠ 36 → o ≠ 54 → s'' o = s o)) _ (N - (p + 1)) ?_ ?_ n 0 _ (by omega) (by omega) ⟨mu s' 54 p 0, rfl, fun x hx => by rw [mu_at, if_neg (by omega)]; exact h54 x hx, by rw [mu_own, if_pos rfl, nw_lo (p + 1 + 0) (by omega)]; rfl, fun o o1 o2 o3 => by rw [mu_row o3]; exact hs' o o1 o2 o3⟩
        · rintro i st hi ⟨s1, rfl, h1, h2, h3⟩
          left
          have v1 : hv s1 3 = hv s 3 := hv_rows (fun k hk => h3 _ (by omega) (by omega) (by omega))
          have hN1 : s1 3 0 = nN N := by rw [h3 3 (by omega) (by omega) (by omega)]; exact g.ppl
          have estep : nwM S (hv s 3) k many p (p + 1 + (i + 1)) = if nwB S (hv s 3) k many p (p + 1 + i) = true then nwM S (hv s 3) k many p (p + 1 + i) ||| 2 ^ (p + 1 + i) else nwM S (hv s 3) k many p (p + 1 + i) := by
            have e : nwM S (hv s 3) k many p (p + 1 + (i + 1)) = if (decide (p < p + 1 + i) && nwB S (hv s 3) k many p (p + 1 + i)) = true then nwM S (hv s 3) k many p (p + 1 + i) ||| 2 ^ (p + 1 + i) else nwM S (hv s 3) k many p (p + 1 + i) := rfl
            rw [e, decide_eq_true (show p < p + 1 + i by omega), Bool.true_and]
          have hh : f_X4_holds 3 (nN p) (nN (p + 1 + i)) s1 = some (bI (holdsV (hv s 3) p (p + 1 + i))) := by rw [e_X4_holds (by omega) (by omega), v1]
          cases hold : holdsV (hv s 3) p (p + 1 + i)
          · obtain ⟨t1, a1, a2⟩ := e_force (s := s1) (p := p) (q := p + 1 + i) (k := k) (many := many) hS (fun k hk => by rw [h3 _ (by omega) (by omega) (by omega)]; exact hr k hk) (by omega) (by omega) hk
            rw [v1] at a1
            have v2 : hv t1 3 = hv s 3 := by rw [← v1]; exact hv_rows (fun k hk => a2 _ (by omega) (by omega))
            obtain ⟨f, hf, hf9⟩ := frc_is (p := p) (q := p + 1 + i) (k := k) (many := many) hS.1 gV
            by_cases cf : f = 0
            · have fz : frc S (hv s 3) p (p + 1 + i) k many = 0 := by rw [hf, cf]; rfl
              have nb : nwB S (hv s 3) k many p (p + 1 + i) = false := by unfold nwB; rw [fz]; simp
              refine ⟨_, ?_, t1, rfl, fun x hx => by rw [a2 54 (by omega) (by omega)]; exact h1 x hx, by rw [a2 54 (by omega) (by omega), estep, nb]; exact h2, fun o o1 o2 o3 => (a2 o o1 o2).trans (h3 o o1 o2 o3)⟩
              have z : ((0 : Int32) ≤ 0) = True := by decide
              simp (disch := omega) only [L_X1_foresee_25, J_X1_foresee_94, hN1, le_f, if_false, hh, hold, bnd_s, bI_f, if_true, a1, fz, z, nN_s]
              rfl
            · obtain ⟨t2, b1, b2⟩ := e_reach (s := t1) (p := p) (q := p + 1 + i) (k := k) (many := many) hS (fun k hk => by rw [a2 _ (by omega) (by omega), h3 _ (by omega) (by omega) (by omega)]; exact hr k hk) (by omega) (by omega)
              rw [v2] at b1
              have fz : (frc S (hv s 3) p (p + 1 + i) k many ≤ 0) = False := by rw [hf, l0]; exact le_f (by omega) (by omega)
              have fnz : ¬ frc S (hv s 3) p (p + 1 + i) k many = 0 := by
                rw [hf, l0, nN_eq (by omega) (by omega)]
                exact cf
              have d5 : t1 3 5 = hv s 3 0 5 := by rw [← v2]; exact (hv_0 t1 3 5 (by omega)).symm
              have r54 : t2 54 = s1 54 := by rw [b2 54 (by omega) (by omega), a2 54 (by omega) (by omega)]
              by_cases cr : hv s 3 0 5 < rch S (hv s 3) p (p + 1 + i) k many
              · have cr' : ¬ rch S (hv s 3) p (p + 1 + i) k many ≤ hv s 3 0 5 := by rw [Int32.not_le]; exact cr
                have nb : nwB S (hv s 3) k many p (p + 1 + i) = true := by unfold nwB; simp [hold, fnz, cr]
                refine ⟨_, ?_, mu t2 54 p (nN (nwM S (hv s 3) k many p (p + 1 + i) ||| 2 ^ (p + 1 + i))), rfl, fun x hx => by rw [mu_at, if_neg (by omega), r54]; exact h1 x hx, by rw [mu_own, if_pos rfl, estep, nb]; rfl, fun o o1 o2 o3 => by rw [mu_row o3, b2 o o1 o2, a2 o o1 o2]; exact h3 o o1 o2 o3⟩
                simp (disch := omega) only [L_X1_foresee_25, J_X1_foresee_94, hN1, le_f, if_false, hh, hold, bnd_s, bI_f, if_true, a1, fz, b1, d5, cr', inb_nN, ix_nN, it_t, r54, h2, shl1, nN_or, ltM_s, nN_s]
                rfl
              · have cr' : rch S (hv s 3) p (p + 1 + i) k many ≤ hv s 3 0 5 := by rw [← Int32.not_lt]; exact cr
                have nb : nwB S (hv s 3) k many p (p + 1 + i) = false := by unfold nwB; simp [cr]
                refine ⟨_, ?_, t2, rfl, fun x hx => by rw [r54]; exact h1 x hx, by rw [r54, estep, nb]; exact h2, fun o o1 o2 o3 => by rw [b2 o o1 o2, a2 o o1 o2]; exact h3 o o1 o2 o3⟩
                simp (disch := omega) only [L_X1_foresee_25, J_X1_foresee_94, hN1, le_f, if_false, hh, hold, bnd_s, bI_f, if_true, a1, fz, b1, d5, cr', nN_s]
                rfl
          · have nb : nwB S (hv s 3) k many p (p + 1 + i) = false := by unfold nwB; simp [hold]
            refine ⟨_, ?_, s1, rfl, h1, by rw [estep, nb]; exact h2, h3⟩
            simp (disch := omega) only [L_X1_foresee_25, J_X1_foresee_94, hN1, le_f, if_false, hh, hold, bnd_s, bI_t, one_ne0, nN_s]
            rfl
        · rintro st ⟨s1, rfl, h1, h2, h3⟩
          have hN1 : s1 3 0 = nN N := by rw [h3 3 (by omega) (by omega) (by omega)]; exact g.ppl
          rw [show p + 1 + (N - (p + 1)) = N by omega] at h2 ⊢
          simp (disch := omega) only [L_X1_foresee_25, hN1, le_t, if_true, Option.map_some, nN_s]
          refine ⟨_, rfl, s1, rfl, fun x hx => ?_, h3⟩
          by_cases c : x < p
          · exact h1 x c
          · have : x = p := by omega
            subst this
            exact h2
      obtain ⟨c, hc, s'', rfl, i1, i2⟩ := inner
      refine ⟨_, ?_, s'', rfl, i1, i2⟩
      simp (disch := omega) only [L_X1_foresee_2, hN', le_f, if_false, inb_nN, ix_nN, it_t, if_true, ltM_s, nN_s, hc]
    · rintro st ⟨s', rfl, h54, hs'⟩
      have hN' : s' 3 0 = nN N := by rw [hs' 3 (by omega) (by omega) (by omega)]; exact g.ppl
      simp (disch := omega) only [L_X1_foresee_2, hN', le_t, if_true, Option.map_some]
      exact ⟨_, rfl, rfl, h54, hs'⟩
  obtain ⟨⟨v, τ⟩, k1, k2, k3, k4⟩ := key
  exact ⟨τ, by rw [k1]; simp only at k2; rw [k2], k3, k4⟩
theorem nwN_le {S : (Nat → Int32) → Int32 → Int32} {V : HV} {N k set : Nat} {many : Int32} (hN : N ≤ 8) : nwN S V N k many set ≤ 64 := by
  have := sm_le (f := fun p => if set.testBit p = true then bc (nwM S V k many p N &&& set) else 0) (c := 8) (N := N) (fun i _ => by
    show (if set.testBit i = true then bc (nwM S V k many i N &&& set) else 0) ≤ 8
    split
    · exact bc_le _
    · omega)
  have h : N * 8 ≤ 8 * 8 := Nat.mul_le_mul_right 8 hN
  unfold nwN
  omega
theorem e_newlyWithin {s : MS} {n N k set : Nat} {many : Int32} {V : HV} {S : (Nat → Int32) → Int32 → Int32} (hn : 6000 ≤ n) (g : GH s 3 N) (h54 : ∀ p, p < N → s 54 p = nN (nwM S V k many p N)) (hset : set < 256) : f_X1_newlyWithin n (nN set) s = some (nN (nwN S V N k many set)) := by
  have hN := g.ppl
  have h8 := g.le8
  unfold f_X1_newlyWithin nwN sm
  refine itr_0 (fun (a : Nat) i => (nN a, i)) N (fun p a => a + (if set.testBit p = true then bc (nwM S V k many p N &&& set) else 0)) (fun a => nN a) (by omega) 0 ?_ ?_
  · intro p a hp
    have hb : nwM S V k many p N < 256 := mset_256 _ h8
    have hb2 : nwM S V k many p N &&& set < 256 := and_256 hb
    simp (disch := omega) only [L_X1_newlyWithin_4, J_X1_newlyWithin_37, hN, le_f, le_t, lt_f, lt_t, if_false, if_true, bnd_s, ite_bI, ok_bI, ok_0, ok_1, ltM_s, nN_s, Option.map_some, inb_nN, ix_nN, it_t, it_f, true_or, or_true, and_bit, h54, nN_and, e_bc, nN_add]
    cases set.testBit p <;> rfl
  · intro a
    simp (disch := omega) only [L_X1_newlyWithin_4, J_X1_newlyWithin_37, hN, le_f, le_t, lt_f, lt_t, if_false, if_true, bnd_s, ite_bI, ok_bI, ok_0, ok_1, ltM_s, nN_s, Option.map_some, inb_nN, ix_nN, it_t, it_f, true_or, or_true]
def wdG (f : Nat → Nat) (m s : Nat) (a : Option Nat) : Option Nat := if bc s = m then (match a with
  | none => some s
  | some b => if f b < f s then some s else a) else a
theorem e_binding {s : MS} {n N k m : Nat} {many : Int32} {V : HV} {S : (Nat → Int32) → Int32 → Int32} (hn : 6000 ≤ n) (g : GH s 3 N) (h54 : ∀ p, p < N → s 54 p = nN (nwM S V k many p N)) (hm : m < 100) : itr (L_X1_binding_14 n (nN m) s) n (-1, -1, 0) = some (e1 (fR (2 ^ N) (wdG (nwN S V N k many) m) none), s) := by
  have hA := e_X4_everybody g
  have h8 := g.le8
  have hk := p28 h8
  have hp2 := p2sub (N := N)
  refine itr_0 (fun (a : Option Nat) i => (e1 a, e1 (a.map (nwN S V N k many)), i)) (2 ^ N) (wdG (nwN S V N k many) m) (fun a => (e1 a, s)) (by omega) none ?_ ?_
  · intro x a hx
    have hb := bc_le x
    have ht := nwN_le (S := S) (V := V) (k := k) (set := x) (many := many) h8
    simp (disch := omega) only [L_X1_binding_14, J_X1_binding_57, hA, le_f, le_t, lt_f, lt_t, if_false, if_true, bnd_s, ite_bI, ok_bI, ok_0, ok_1, ltM_s, nN_s, Option.map_some, inb_nN, ix_nN, it_t, it_f, true_or, or_true, e_bc, e_newlyWithin hn g h54, nN_eq]
    unfold wdG
    by_cases c : bc x = m
    · simp only [c, if_true]
      cases a with
      | none =>
        simp (disch := omega) only [Option.map_none, e1_n, nN_lem1, if_false, Option.map_some, e1_s]
      | some b =>
        have ht2 := nwN_le (S := S) (V := V) (k := k) (set := b) (many := many) h8
        simp only [Option.map_some, e1_s]
        rw [it_le (by omega) (by omega)]
        by_cases d : nwN S V N k many b < nwN S V N k many x
        · rw [if_neg (by omega), if_pos d]
          rfl
        · rw [if_pos (by omega), if_neg d]
          rfl
    · simp only [c, if_false]
  · intro a
    simp (disch := omega) only [L_X1_binding_14, J_X1_binding_57, hA, le_f, le_t, lt_f, lt_t, if_false, if_true, bnd_s, ite_bI, ok_bI, ok_0, ok_1, ltM_s, nN_s, Option.map_some, inb_nN, ix_nN, it_t, it_f, true_or, or_true]
/-! how many bonds hold behind a cup -/
theorem sm_shift {f : Nat → Nat} {p : Nat} : ∀ N, p < N → sm N (fun q => if p < q then f q else 0) = sm (N - (p + 1)) (fun i => f (p + 1 + i)) := by
  intro N
  induction N with
  | zero => intro h; omega
  | succ N ih =>
    intro h
    rw [sm_s]
    by_cases c : p < N
    · rw [ih c, if_pos c, show N + 1 - (p + 1) = (N - (p + 1)) + 1 by omega, sm_s, show p + 1 + (N - (p + 1)) = N by omega]
    · have e : p = N := by omega
      subst e
      rw [if_neg c, show p + 1 - (p + 1) = 0 by omega]
      have : sm p (fun q => if p < q then f q else 0) = sm p (fun _ => 0) := sm_congr (fun i hi => if_neg (by omega))
      rw [this]
      have z : ∀ M, sm M (fun _ => 0) = 0 := by
        intro M
        induction M with
        | zero => rfl
        | succ M ih => rw [sm_s, ih]
      rw [z]
      rfl
theorem nwN_cU {S : (Nat → Int32) → Int32 → Int32} {V : HV} {N k set : Nat} {many : Int32} (hN : N ≤ 8) : nwN S V N k many set = cU N (fun p q => inS set p q && nwB S V k many p q) := by
  unfold nwN cU
  apply sm_congr
  intro p hp
  rw [← sm_shift (f := fun q => (inS set p q && nwB S V k many p q).toNat) N hp]
  cases hb : set.testBit p
  · simp only [Bool.false_eq_true, if_false]
    have z : ∀ M, sm M (fun _ => 0) = 0 := by
      intro M
      induction M with
      | zero => rfl
      | succ M ih => rw [sm_s, ih]
    have e0 : sm N (fun q => if p < q then (inS set p q && nwB S V k many p q).toNat else 0) = sm N (fun _ => 0) := by
      apply sm_congr
      intro q _
      unfold inS
      rw [hb]
      split <;> rfl
    rw [e0, z]
  · simp only [if_true]
    have e : nwM S V k many p N &&& set = mset N (fun q => (decide (p < q) && nwB S V k many p q) && set.testBit q) := by
      apply bit_ext
      intro q
      unfold nwM
      rw [Nat.testBit_and, mset_bit, mset_bit, Bool.and_assoc]
    rw [e, bc_mset _ N hN]
    apply sm_congr
    intro q _
    unfold inS
    rw [hb, Bool.true_and]
    by_cases c : p < q
    · rw [if_pos c, decide_eq_true c, Bool.true_and, Bool.and_comm]
    · rw [if_neg c, decide_eq_false c, Bool.false_and, Bool.false_and]
      rfl
theorem holds_after {S : (Nat → Int32) → Int32 → Int32} {V0 V : HV} {N set k p q : Nat} {many : Int32} (hS : SmS S) (g : GV V0 N) (hIV : IV S V0 N set k many (8 * N) V) (hpq : p < q) (hq : q < N) : holdsV V p q = (holdsV V0 p q || (inS set p q && nwB S V0 k many p q)) := by
  have h8 := g.le8
  obtain ⟨i1, i2⟩ := hIV
  obtain ⟨j6, j7⟩ := (i2 p q hpq hq).2 (by omega)
  have hp8 : p < 8 := by omega
  have hq8 : q < 8 := by omega
  unfold holdsV onV
  rw [j6, j7, i1 0 5 (by omega) (by omega)]
  unfold uP
  cases hin : inS set p q
  · simp
  · simp only [if_true, Bool.true_and]
    obtain ⟨f, hf, hf9⟩ := frc_is (p := p) (q := q) (k := k) (many := many) hS g
    obtain ⟨r, hr, hr1, hr9⟩ := rch_is (p := p) (q := q) (k := k) (many := many) hS g
    obtain ⟨hd, hhd, hhd9⟩ := held_is g hp8 hq8
    have ehold : holdsV V0 p q = (decide (0 < V0 6 (8 * p + q)) && decide (V0 0 5 < V0 7 (8 * p + q))) := rfl
    unfold nwB chV
    rw [← ehold]
    by_cases c : frc S V0 p q k many = 0
    · rw [if_pos c, ← ehold, decide_eq_true c]
      simp
    · rw [if_neg c, tie_6 hp8 hq8 hp8 hq8, tie_7 hp8 hq8 hp8 hq8, if_pos (Or.inl ⟨rfl, rfl⟩), if_pos (Or.inl ⟨rfl, rfl⟩), decide_eq_false c, Bool.not_false, Bool.true_and]
      have f1 : 1 ≤ f := by
        apply Classical.byContradiction
        intro h
        apply c
        rw [hf, show f = 0 by omega]
        rfl
      have pos : (0 : Int32) < mxI (heldV V0 p q) (frc S V0 p q k many) := by
        rw [hhd, hf, mxI_nN (by omega) (by omega), l0, nN_lt (by omega) (by omega)]
        omega
      rw [decide_eq_true pos, Bool.true_and]
      cases hh : holdsV V0 p q
      · have et : tillV V0 p q = -1 := by unfold tillV; rw [hh]; rfl
        rw [et, hr, mx_r (by rw [nN_m1lt (by omega)]; trivial)]
        simp
      · have et : tillV V0 p q = V0 7 (8 * p + q) := by unfold tillV; rw [hh]; rfl
        rw [ehold, Bool.and_eq_true, decide_eq_true_eq, decide_eq_true_eq] at hh
        have lt : V0 0 5 < mxI (tillV V0 p q) (rch S V0 p q k many) := by
          rw [et, Int32.lt_iff_toInt_lt, mxI_toInt]
          have := hh.2
          rw [Int32.lt_iff_toInt_lt] at this
          omega
        rw [decide_eq_true lt]
        simp
theorem cU_add {b c d : Nat → Nat → Bool} {N : Nat} (h : ∀ p q, p < q → q < N → (d p q).toNat = (b p q).toNat + (c p q).toNat) : cU N d = cU N b + cU N c := by
  unfold cU
  rw [← sm_add]
  apply sm_congr
  intro p hp
  rw [← sm_add]
  apply sm_congr
  intro i hi
  exact h p (p + 1 + i) (by omega) (by omega)
theorem bonds_after {S : (Nat → Int32) → Int32 → Int32} {V0 V : HV} {N set k : Nat} {many : Int32} (hS : SmS S) (g : GV V0 N) (gV : GV V N) (hIV : IV S V0 N set k many (8 * N) V) : cD N (holdsV V) = cD N (holdsV V0) + nwN S V0 N k many set := by
  have h8 := g.le8
  rw [← cU_eq (fun p q hp hq => holds_sym gV (by omega) (by omega)), ← cU_eq (fun p q hp hq => holds_sym g (by omega) (by omega)), nwN_cU h8]
  apply cU_add
  intro p q hpq hq
  rw [holds_after hS g hIV hpq hq]
  unfold nwB
  cases holdsV V0 p q
  · cases inS set p q <;> simp
  · simp
