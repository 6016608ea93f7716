/-! layer 2: a sip -/
def frc (S : (Nat → Int32) → Int32 → Int32) (V : HV) (p q k : Nat) (many : Int32) : Int32 := if k = 0 then bnS S V p q (nN k) many else if k = 1 then bnS S V p q (nN k) many / 2 else if k = 2 then mnI 9 (bnS S V p q (nN k) many * 2) else 0
def rch (S : (Nat → Int32) → Int32 → Int32) (V : HV) (p q k : Nat) (many : Int32) : Int32 := mnI 9999 (V 0 5 + lsS S V p q (nN k) many)
def chB (S : (Nat → Int32) → Int32 → Int32) (V : HV) (p q k : Nat) (many : Int32) : Bool := !decide (frc S V p q k many = 0) && (decide (heldV V p q < frc S V p q k many) || decide (tillV V p q < rch S V p q k many))
def chV (S : (Nat → Int32) → Int32 → Int32) (V : HV) (p q k : Nat) (many : Int32) : HV := if frc S V p q k many = 0 then V else tieV V p q (mxI (heldV V p q) (frc S V p q k many)) (mxI (tillV V p q) (rch S V p q k many))
/-- the law's sums are small -/
def SmS (S : (Nat → Int32) → Int32 → Int32) : Prop := ∀ F kind, ∃ t, S F kind = nN t ∧ t ≤ 1188
theorem bn_is {S : (Nat → Int32) → Int32 → Int32} {V : HV} {N p q : Nat} {sip many : Int32} (hS : SmS S) (g : GV V N) : ∃ t, bnS S V p q sip many = nN t ∧ 1 ≤ t ∧ t ≤ 9 := by
  obtain ⟨-, -, -, ⟨b, hb, h1, h9⟩, -⟩ := g
  obtain ⟨t, ht, ht2⟩ := hS (FV V p q sip many) 0
  unfold bnS
  rw [hb, ht, nN_add, l9, mnI_nN (by omega) (by omega)]
  exact ⟨_, rfl, by omega, by omega⟩
theorem frc_is {S : (Nat → Int32) → Int32 → Int32} {V : HV} {N p q k : Nat} {many : Int32} (hS : SmS S) (g : GV V N) : ∃ t, frc S V p q k many = nN t ∧ t ≤ 9 := by
  obtain ⟨t, h1, h2, h3⟩ := bn_is (p := p) (q := q) (sip := nN k) (many := many) hS g
  unfold frc
  rw [h1]
  split
  · exact ⟨t, rfl, h3⟩
  · split
    · rw [l2, nN_div (by omega) (by omega)]
      exact ⟨t / 2, rfl, by omega⟩
    · split
      · rw [l2, nN_mul, l9, mnI_nN (by omega) (by omega)]
        exact ⟨_, rfl, by omega⟩
      · exact ⟨0, rfl, by omega⟩
theorem rch_is {S : (Nat → Int32) → Int32 → Int32} {V : HV} {N p q k : Nat} {many : Int32} (hS : SmS S) (g : GV V N) : ∃ t, rch S V p q k many = nN t ∧ 1 ≤ t ∧ t ≤ 9999 := by
  obtain ⟨-, -, -, -, ⟨l, hl, hl1, hl2⟩, ⟨d, hd, hd2⟩, -⟩ := g
  obtain ⟨t, ht, ht2⟩ := hS (FV V p q (nN k) many) 1
  unfold rch lsS
  rw [hl, hd, ht, nN_add, nN_add, l9999, mnI_nN (by omega) (by omega)]
  exact ⟨_, rfl, by omega, by omega⟩
theorem held_is {V : HV} {N p q : Nat} (g : GV V N) (hp : p < 8) (hq : q < 8) : ∃ t, heldV V p q = nN t ∧ t ≤ 9 := by
  obtain ⟨-, -, -, -, -, -, -, -, -, -, -, ⟨h6, -, -⟩, -⟩ := g
  unfold heldV
  split
  · exact h6 p q hp hq
  · exact ⟨0, rfl, by omega⟩
theorem mxt_is {V : HV} {N p q t : Nat} (g : GV V N) (hp : p < 8) (hq : q < 8) (ht : t ≤ 9999) : ∃ u, mxI (tillV V p q) (nN t) = nN u ∧ u ≤ 9999 := by
  obtain ⟨-, -, -, -, -, -, -, -, -, -, -, -, ⟨h7, -⟩⟩ := g
  unfold tillV
  split
  · obtain ⟨u, h1, h2⟩ := h7 p q hp hq
    rw [h1, mxI_nN (by omega) (by omega)]
    exact ⟨_, rfl, by omega⟩
  · rw [mx_r (by rw [nN_m1lt (by omega)]; trivial)]
    exact ⟨t, rfl, ht⟩
theorem GV_ch {S : (Nat → Int32) → Int32 → Int32} {V : HV} {N p q k : Nat} {many : Int32} (hS : SmS S) (g : GV V N) (hp : p < 8) (hq : q < 8) (hpq : p ≠ q) : GV (chV S V p q k many) N := by
  unfold chV
  split
  · exact g
  · obtain ⟨f, h1, h2⟩ := frc_is (p := p) (q := q) (k := k) (many := many) hS g
    obtain ⟨r, h3, h4, h5⟩ := rch_is (p := p) (q := q) (k := k) (many := many) hS g
    obtain ⟨h, h6, h7⟩ := held_is g hp hq
    rw [h1, h3, h6]
    refine GV_tie g hp hq hpq ?_ (mxt_is g hp hq h5)
    rw [mxI_nN (by omega) (by omega)]
    exact ⟨_, rfl, by omega⟩
/-! the program -/
theorem e_force {σ s : MS} {n p q k : Nat} {many : Int32} {S : (Nat → Int32) → Int32 → Int32} (hS : LawF σ n S) (hr : ∀ k, k < 5 → s (30 + k) = σ (30 + k)) (hp : p < 8) (hq : q < 8) (hk : k ≤ 3) : ∃ τ, f_X1_force n (nN p) (nN q) (nN k) many s = some (frc S (hv s 3) p q k many, τ) ∧ (∀ o, o ≠ 35 → o ≠ 36 → τ o = s o) := by
  obtain ⟨τ, h1, h2⟩ := e_bindsBy (h := 3) (sip := nN k) (many := many) hS hr (by omega) hp hq
  refine ⟨τ, ?_, h2⟩
  unfold frc
  have hk' : k = 0 ∨ k = 1 ∨ k = 2 ∨ k = 3 := by omega
  simp only [f_X1_force, h1, bnd_s]
  rcases hk' with rfl | rfl | rfl | rfl
  · rfl
  · have e : (nN 1 = (0 : Int32)) = False := by decide
    have e2 : (nN 1 = (1 : Int32)) = True := by decide
    simp only [e, e2, if_true, if_false]
    rfl
  · have e : (nN 2 = (0 : Int32)) = False := by decide
    have e2 : (nN 2 = (1 : Int32)) = False := by decide
    have e3 : (nN 2 = (2 : Int32)) = True := by decide
    simp only [e, e2, e3, if_true, if_false]
    rfl
  · have e : (nN 3 = (0 : Int32)) = False := by decide
    have e2 : (nN 3 = (1 : Int32)) = False := by decide
    have e3 : (nN 3 = (2 : Int32)) = False := by decide
    simp only [e, e2, e3, if_false]
    rfl
theorem e_reach {σ s : MS} {n p q k : Nat} {many : Int32} {S : (Nat → Int32) → Int32 → Int32} (hS : LawF σ n S) (hr : ∀ k, k < 5 → s (30 + k) = σ (30 + k)) (hp : p < 8) (hq : q < 8) : ∃ τ, f_X1_reach n (nN p) (nN q) (nN k) many s = some (rch S (hv s 3) p q k many, τ) ∧ (∀ o, o ≠ 35 → o ≠ 36 → τ o = s o) := by
  obtain ⟨τ, h1, h2⟩ := e_lastsFor (h := 3) (sip := nN k) (many := many) hS hr (by omega) hp hq
  refine ⟨τ, ?_, h2⟩
  have e5 : s 3 5 = hv s 3 0 5 := (hv_0 s 3 5 (by omega)).symm
  simp only [f_X1_reach, h1, bnd_s, e5]
  rfl
theorem e_changes {σ s : MS} {n N p q k : Nat} {many : Int32} {S : (Nat → Int32) → Int32 → Int32} (hS : LawF σ n S) (hr : ∀ k, k < 5 → s (30 + k) = σ (30 + k)) (g : GH s 3 N) (hp : p < 8) (hq : q < 8) (hk : k ≤ 3) (b : Bool) : ∃ τ, f_X1_changes n (nN p) (nN q) (nN k) many (bI b) s = some (bI (chB S (hv s 3) p q k many), τ) ∧ hv τ 3 = (if b = true then chV S (hv s 3) p q k many else hv s 3) ∧ (∀ o, o ≠ 35 → o ≠ 36 → (b = false ∨ (o ≠ 9 ∧ o ≠ 10)) → τ o = s o) := by
  obtain ⟨t1, a1, a2⟩ := e_force (k := k) (many := many) hS hr hp hq hk
  have v1 : hv t1 3 = hv s 3 := hv_rows (fun k hk => a2 _ (by omega) (by omega))
  unfold chB chV
  by_cases c : frc S (hv s 3) p q k many = 0
  · refine ⟨t1, ?_, ?_, fun o o1 o2 _ => a2 o o1 o2⟩
    · simp only [f_X1_changes, a1, bnd_s, c, if_true, decide_true, Bool.not_true, Bool.false_and]
      rfl
    · rw [if_pos c, v1]
      cases b <;> rfl
  · obtain ⟨t2, b1, b2⟩ := e_reach (s := t1) (k := k) (many := many) hS (fun k hk => by rw [a2 _ (by omega) (by omega)]; exact hr k hk) hp hq
    rw [v1] at b1
    have v2 : hv t2 3 = hv s 3 := by rw [← v1]; exact hv_rows (fun k hk => b2 _ (by omega) (by omega))
    have e1 : f_X4_held 3 (nN p) (nN q) t2 = some (heldV (hv s 3) p q) := by rw [e_X4_held hp hq, v2]
    have e2 : f_X4_heldTill 3 (nN p) (nN q) t2 = some (tillV (hv s 3) p q) := by rw [e_X4_heldTill hp hq, v2]
    have hfin : ∀ t : MS, J_X1_changes_79 n (frc S (hv s 3) p q k many) (rch S (hv s 3) p q k many) (heldV (hv s 3) p q) (tillV (hv s 3) p q) t = some (bI (decide (heldV (hv s 3) p q < frc S (hv s 3) p q k many) || decide (tillV (hv s 3) p q < rch S (hv s 3) p q k many)), t) := by
      intro t
      simp only [J_X1_changes_79, J_X1_changes_93, J_X1_changes_98, ok_0, ok_1, true_or, or_true, if_true]
      by_cases d1 : heldV (hv s 3) p q < frc S (hv s 3) p q k many
      · simp only [d1, if_true, decide_true, Bool.true_or]
        rfl
      · by_cases d2 : tillV (hv s 3) p q < rch S (hv s 3) p q k many
        · have d2' : ¬ rch S (hv s 3) p q k many ≤ tillV (hv s 3) p q := by rw [Int32.not_le]; exact d2
          simp only [d1, d2, d2', if_false, decide_true, Bool.or_true]
          rfl
        · have d2' : rch S (hv s 3) p q k many ≤ tillV (hv s 3) p q := by rw [← Int32.not_lt]; exact d2
          simp only [d1, d2, d2', if_false, if_true, decide_false, Bool.or_false]
          rfl
    rw [decide_eq_false c, Bool.not_false, Bool.true_and]
    cases b
    · refine ⟨t2, ?_, ?_, fun o o1 o2 _ => (b2 o o1 o2).trans (a2 o o1 o2)⟩
      · simp only [f_X1_changes, a1, bnd_s, c, if_false, b1, e1, e2, bI_f, if_true, hfin]
      · simp only [Bool.false_eq_true, if_false]
        exact v2
    · obtain ⟨t3, c1, c2, c3⟩ := e_X4_tie (σ := t2) (h := 3) (s := mxI (heldV (hv s 3) p q) (frc S (hv s 3) p q k many)) (t := mxI (tillV (hv s 3) p q) (rch S (hv s 3) p q k many)) hp hq
      refine ⟨t3, ?_, ?_, fun o o1 o2 o3 => (c3 o (by rcases o3 with h | h; cases h; exact h.1) (by rcases o3 with h | h; cases h; exact h.2)).trans ((b2 o o1 o2).trans (a2 o o1 o2))⟩
      · simp only [f_X1_changes, a1, bnd_s, c, if_false, b1, e1, e2, bI_t, one_ne0, c1, hfin]
      · rw [if_pos rfl, if_neg c, c2, v2]
/-! the reference -/
theorem m_sips {σ s : MS} {n N p q k : Nat} {many : Int32} {S : (Nat → Int32) → Int32 → Int32} (hS : LawF σ n S) (hw : ∀ k, k < 1323 → (k = 2 ∨ 474 ≤ k) → s 172 k = σ 172 k) (g : GW s N) (hpq : p < q) (hq : q < 8) (hk : k ≤ 3) : ∃ τ, f_X12_sips n (nN p) (nN q) (nN k) many s = some (bI (chB S (rv (s 172)) p q k many), τ) ∧ rv (τ 172) = chV S (rv (s 172)) p q k many ∧ (∀ o, o ≠ 171 → o ≠ 172 → o ≠ 179 → τ o = s o) ∧ (∀ i, (i < 18 ∨ 21 < i) → τ 171 i = s 171 i) ∧ (∀ i, (i < 106 ∨ 234 ≤ i) → τ 172 i = s 172 i) := by
  have hp : p < 8 := by omega
  have gV : GV (rv (s 172)) N := g
  obtain ⟨t1, a1, a2, a3, a4⟩ := e_looks (s := s) (sip := nN k) (many := many) hp hq
  rw [Nat.min_eq_left (by omega), Nat.max_eq_right (by omega)] at a2
  have r1 : t1 172 = s 172 := a4 172 (by omega)
  obtain ⟨t2, b1, b2⟩ := m_bindsBy (s := t1) hS (fun k h1 h2 => by rw [r1]; exact hw k h1 h2) a2 hp hq
  rw [r1] at b1
  have r2 : t2 172 = s 172 := by rw [b2 172 (by omega), r1]
  have l20 : t2 171 20 = nN k := by rw [b2 171 (by omega)]; exact a2.2.2.1
  have lk2 : Lk t2 p q (nN k) many := by unfold Lk; rw [b2 171 (by omega)]; exact a2
  obtain ⟨bb, hbb, hbb1, hbb9⟩ := bn_is (p := p) (q := q) (sip := nN k) (many := many) hS.1 gV
  have e1 : f_X12_sipBinds n t1 = some (frc S (rv (s 172)) p q k many, t2) := by
    unfold frc
    have hk' : k = 0 ∨ k = 1 ∨ k = 2 ∨ k = 3 := by omega
    simp only [f_X12_sipBinds, J_X12_sipBinds_51, b1, bnd_s, l20]
    rcases hk' with rfl | rfl | rfl | rfl
    · have k1 : (nN 0 = (1 : Int32)) = False := by decide
      have k2 : (nN 0 = (2 : Int32)) = False := by decide
      have k3 : (nN 0 = (3 : Int32)) = False := by decide
      simp only [k1, k2, k3, if_false]
      rfl
    · have k1 : (nN 1 = (1 : Int32)) = True := by decide
      simp only [k1, if_true]
      rfl
    · have k1 : (nN 2 = (1 : Int32)) = False := by decide
      have k2 : (nN 2 = (2 : Int32)) = True := by decide
      simp only [k1, k2, if_true, if_false]
      rw [Int32.mul_comm 2]
      rfl
    · have k1 : (nN 3 = (1 : Int32)) = False := by decide
      have k2 : (nN 3 = (2 : Int32)) = False := by decide
      have k3 : (nN 3 = (3 : Int32)) = True := by decide
      simp only [k1, k2, k3, if_true, if_false]
      rfl
  unfold chB chV
  by_cases c : frc S (rv (s 172)) p q k many = 0
  · refine ⟨t2, ?_, by rw [if_pos c, r2], fun o o1 o2 o3 => by rw [b2 o o3, a4 o o1], fun i hi => by rw [b2 171 (by omega), a3 i hi], fun i _ => by rw [r2]⟩
    simp only [f_X12_sips, a1, e1, bnd_s, c, if_true, decide_true, Bool.not_true, Bool.false_and]
    rfl
  · obtain ⟨t3, c1, c2⟩ := m_lastsFor (s := t2) hS (fun k h1 h2 => by rw [r2]; exact hw k h1 h2) lk2 hp hq
    rw [r2] at c1
    have r3 : t3 172 = s 172 := by rw [c2 172 (by omega), r2]
    obtain ⟨f, hf, hf9⟩ := frc_is (p := p) (q := q) (k := k) (many := many) hS.1 gV
    obtain ⟨r, hrc, hr1, hr9⟩ := rch_is (p := p) (q := q) (k := k) (many := many) hS.1 gV
    obtain ⟨hd, hhd, hhd9⟩ := held_is gV hp hq
    have hf0 : f ≠ 0 := by
      intro h
      rw [h] at hf
      exact c hf
    have e2 : f_X12_bondOf (nN p) (nN q) t2 = some (nN hd) := by rw [e_X12_bondOf hp hq, r2, hhd]
    have e5 : t2 172 3 = rv (s 172) 0 5 := by rw [r2]; rfl
    have hrl : mnI 9999 (rv (s 172) 0 5 + lsS S (rv (s 172)) p q (nN k) many) = nN r := hrc
    obtain ⟨w5, w6, w7⟩ := w_pair (σ := s) hp hq
    have h7 : ∃ u, rv (s 172) 7 (8 * p + q) = nN u ∧ u ≤ 9999 := by
      obtain ⟨-, -, -, -, -, -, -, -, -, -, -, -, ⟨h7, -⟩⟩ := gV
      exact h7 p q hp hq
    obtain ⟨u, hu, hu9⟩ := h7
    have hu' : s 172 (170 + (8 * p + q)) = nN u := by rw [← w7]; exact hu
    -- what it was, and till when
    have was : ∃ wd, wd ≤ 9999 ∧ (if hd = 0 then wd = 0 else wd = u) ∧ mxI (tillV (rv (s 172)) p q) (nN r) = nN (max wd r) ∧ (hd ≠ 0 → tillV (rv (s 172)) p q = nN wd) := by
      cases hh : holdsV (rv (s 172)) p q
      · have hz : hd = 0 := by
          unfold heldV at hhd
          rw [hh, l0] at hhd
          simp only [Bool.false_eq_true, if_false] at hhd
          rw [nN_eq (by omega) (by omega)] at hhd
          exact hhd.symm
        refine ⟨0, by omega, by rw [if_pos hz], ?_, fun h => absurd hz h⟩
        unfold tillV
        rw [hh]
        simp only [Bool.false_eq_true, if_false]
        rw [mx_r (by rw [nN_m1lt (by omega)]; trivial), Nat.max_eq_right (by omega)]
      · have hz : hd ≠ 0 := by
          intro h0
          unfold heldV at hhd
          rw [hh, h0] at hhd
          simp only [if_true] at hhd
          unfold holdsV onV at hh
          rw [hhd] at hh
          simp [nN] at hh
        refine ⟨u, hu9, by rw [if_neg hz], ?_, fun _ => by unfold tillV; rw [hh]; exact hu⟩
        unfold tillV
        rw [hh]
        simp only [if_true, hu]
        rw [mxI_nN (by omega) (by omega)]
    obtain ⟨wd, hwd9, hwd, hmx, htl⟩ := was
    obtain ⟨υ, d1, d2, d3, d4⟩ := e_X12_binds (σ := t3) (s := nN (max hd f)) (t := nN (max wd r)) hp hq
    have hbind : J_X12_sips_53 n (nN p) (nN q) (nN f) (nN hd) (nN wd) t2 = some (bI (decide (hd < f) || decide (wd < r)), υ) := by
      have z9 : mnI 9999 (rv (s 172) 0 5 + lsS S (rv (s 172)) p q (nN k) many) = nN r := hrc
      simp only [J_X12_sips_117, J_X12_sips_112, J_X12_sips_53, c1, bnd_s, e5, z9, mxI_nN (show hd < 2147483648 by omega) (show f < 2147483648 by omega), mxI_nN (show wd < 2147483648 by omega) (show r < 2147483648 by omega), d1, ok_0, ok_1, true_or, or_true, if_true]
      rw [it_lt (by omega) (by omega), it_le (by omega) (by omega)]
      by_cases x1 : hd < f
      · rw [if_pos (by omega), decide_eq_true x1]
        rfl
      · rw [if_neg (by omega), decide_eq_false x1]
        by_cases x2 : wd < r
        · rw [if_neg (by omega), decide_eq_true x2]
          rfl
        · rw [if_pos (by omega), decide_eq_false x2]
          rfl
    refine ⟨υ, ?_, ?_, ?_, ?_, ?_⟩
    · have efin : (!decide (frc S (rv (s 172)) p q k many = 0) && (decide (heldV (rv (s 172)) p q < frc S (rv (s 172)) p q k many) || decide (tillV (rv (s 172)) p q < rch S (rv (s 172)) p q k many))) = (decide (hd < f) || decide (wd < r)) := by
        rw [decide_eq_false c, Bool.not_false, Bool.true_and, hhd, hf, hrc]
        have q1 : decide (nN hd < nN f) = decide (hd < f) := decide_eq_decide.mpr (by rw [nN_lt (by omega) (by omega)])
        rw [q1]
        by_cases hz : hd = 0
        · have : hd < f := by omega
          rw [decide_eq_true this, Bool.true_or, Bool.true_or]
        · rw [htl hz]
          have q2 : decide (nN wd < nN r) = decide (wd < r) := decide_eq_decide.mpr (by rw [nN_lt (by omega) (by omega)])
          rw [q2]
      rw [efin, ← hbind]
      simp only [f_X12_sips, a1, e1, bnd_s, hf, e2]
      have nz : (nN f = 0) = False := by rw [l0]; exact nN_eqf hf0 (by omega) (by omega)
      simp only [nz, if_false]
      by_cases hz : hd = 0
      · rw [if_pos hz] at hwd
        have : (nN hd ≤ 0) = True := by rw [l0]; exact le_t (by omega) (by omega)
        simp only [this, if_true, hwd]
        rfl
      · rw [if_neg hz] at hwd
        have : (nN hd ≤ 0) = False := by rw [l0]; exact le_f (by omega) (by omega)
        simp (disch := omega) only [this, if_false, f_X12_both, bnd_s, i8', a170, inb_nN, ix_nN, it_t, if_true, r2, hu', hwd]
    · rw [d2, r3, if_neg c, hhd, hf, hrc, hmx, mxI_nN (by omega) (by omega)]
    · intro o o1 o2 o3
      rw [d3 o o2, c2 o o3, b2 o o3, a4 o o1]
    · intro i hi
      rw [d3 171 (by omega), c2 171 (by omega), b2 171 (by omega), a3 i hi]
    · intro i hi
      rw [d4 i hi, r3]
