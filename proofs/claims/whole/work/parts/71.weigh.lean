/-! layer 2: drank, look -/
def dkG (T : Nat → Nat) (R s : Nat) (a : Nat × Nat) : Nat × Nat := if fB T R s = true then (a.1 + 1, a.2 &&& s) else a
def dkZ (T : Nat → Nat) (R N m : Nat) : Nat × Nat := fR m (dkG T R) (0, 2 ^ N - 1)
def inN (T : Nat → Nat) (R p m : Nat) : Nat := sm m (fun s => (fB T R s && s.testBit p).toNat)
theorem dk_lt {T : Nat → Nat} {R N : Nat} (hN : N ≤ 8) : ∀ m, (dkZ T R N m).2 < 256 ∧ (dkZ T R N m).1 ≤ m := by
  intro m
  induction m with
  | zero => exact ⟨all_lt hN, Nat.le_refl _⟩
  | succ m ih =>
    have e : dkZ T R N (m + 1) = dkG T R m (dkZ T R N m) := rfl
    rw [e]
    unfold dkG
    split
    · exact ⟨and_256 ih.1, by show (dkZ T R N m).1 + 1 ≤ m + 1; omega⟩
    · exact ⟨ih.1, by omega⟩
theorem in_le {T : Nat → Nat} {R N p : Nat} : ∀ m, inN T R p m ≤ (dkZ T R N m).1 := by
  intro m
  induction m with
  | zero => exact Nat.le_refl _
  | succ m ih =>
    have e : dkZ T R N (m + 1) = dkG T R m (dkZ T R N m) := rfl
    have e2 : inN T R p (m + 1) = inN T R p m + (fB T R m && m.testBit p).toNat := rfl
    rw [e, e2]
    unfold dkG
    cases fB T R m
    · simp only [Bool.false_and, Bool.toNat_false, Bool.false_eq_true, if_false]
      omega
    · simp only [Bool.true_and, if_true]
      have : (m.testBit p).toNat ≤ 1 := by cases m.testBit p <;> decide
      omega
theorem c_add {s : MS} {n N x : Nat} (hn : 6000 ≤ n) (g : GH s 3 N) (hx : x < 256) : ∃ t, f_X2_add n (nN x) s = some (0, t) ∧ t 60 3 = s 60 3 + 1 ∧ t 60 4 = s 60 4 &&& nN x ∧ (∀ p, p < N → t 61 p = s 61 p + bI (x.testBit p)) ∧ (∀ o, o ≠ 60 → o ≠ 61 → t o = s o) := by
  have h8 := g.le8
  generalize hs2 : mu (mu s 60 3 (s 60 3 + 1)) 60 4 (s 60 4 &&& nN x) = s2
  have key : ∃ c, itr (L_X2_add_22 n (nN x) s) n (0, s2) = some c ∧ c.1 = 0 ∧ c.2 60 = s2 60 ∧ (∀ p, p < N → c.2 61 p = s 61 p + bI (x.testBit p)) ∧ (∀ o, o ≠ 60 → o ≠ 61 → c.2 o = s o) := by
    refine itr_inv (fun i st => ∃ s', st = (nN i, s') ∧ s' 60 = s2 60 ∧ (∀ p, p < i → s' 61 p = s 61 p + bI (x.testBit p)) ∧ (∀ p, i ≤ p → s' 61 p = s 61 p) ∧ (∀ o, o ≠ 60 → o ≠ 61 → s' o = s o)) _ N ?_ ?_ n 0 _ (by omega) (by omega) ⟨s2, rfl, rfl, fun p hp => by omega, fun p _ => by rw [← hs2, mu_row (by omega), mu_row (by omega)], fun o o1 _ => by rw [← hs2, mu_row o1, mu_row o1]⟩
    · rintro i st hi ⟨s', rfl, h1, h2, h3, h4⟩
      left
      have hN' : s' 3 0 = nN N := by rw [h4 3 (by omega) (by omega)]; exact g.ppl
      cases hb : x.testBit i
      · refine ⟨_, ?_, s', rfl, h1, fun p hp => ?_, fun p hp => h3 p (by omega), h4⟩
        · simp (disch := omega) only [L_X2_add_22, J_X2_add_51, hN', le_f, if_false, and_bit, hb, if_true, nN_s]
        · by_cases c : p < i
          · exact h2 p c
          · have : p = i := by omega
            subst this
            rw [h3 p (Nat.le_refl _), hb, bI_f, Int32.add_zero]
      · refine ⟨_, ?_, mu s' 61 i (s 61 i + 1), rfl, by rw [mu_row (by omega)]; exact h1, fun p hp => ?_, fun p hp => by rw [mu_at, if_neg (by omega)]; exact h3 p (by omega), fun o o1 o2 => by rw [mu_row o2]; exact h4 o o1 o2⟩
        · simp (disch := omega) only [L_X2_add_22, J_X2_add_51, hN', le_f, if_false, and_bit, hb, Bool.true_eq_false, inb_nN, ix_nN, it_t, if_true, h3 i (Nat.le_refl _), ltM_s, nN_s]
        · by_cases c : p < i
          · rw [mu_at, if_neg (by omega)]
            exact h2 p c
          · have : p = i := by omega
            subst this
            rw [mu_own, if_pos rfl, hb, bI_t]
    · rintro st ⟨s', rfl, h1, h2, h3, h4⟩
      have hN' : s' 3 0 = nN N := by rw [h4 3 (by omega) (by omega)]; exact g.ppl
      refine ⟨(0, s'), ?_, rfl, h1, h2, h4⟩
      simp (disch := omega) only [L_X2_add_22, hN', le_t, if_true, Option.map_some]
  obtain ⟨⟨v, t⟩, k1, k2, k3, k4, k5⟩ := key
  simp only at k2 k3 k4 k5
  refine ⟨t, ?_, ?_, ?_, k4, k5⟩
  · have e4 : mu s 60 3 (s 60 3 + 1) 60 4 = s 60 4 := by rw [mu_at, if_neg (by omega)]
    simp only [f_X2_add, ltM_s, e4, hs2, k1, k2]
  · rw [k3, ← hs2, mu_at, if_neg (by omega), mu_own]
    rfl
  · rw [k3, ← hs2, mu_own]
    rfl
theorem c_weigh {σ : MS} {n N L : Nat} {T : Nat → Nat} (hn : 6000 ≤ n) (g : GH σ 3 N) (ht : TP σ L T) (hp : toldP N L T) : ∃ t, f_X2_weigh n σ = some (1, t) ∧ t 60 3 = nN (dkZ T (L / 3) N (2 ^ N)).1 ∧ t 60 4 = (if (dkZ T (L / 3) N (2 ^ N)).1 = 0 then 0 else nN (dkZ T (L / 3) N (2 ^ N)).2) ∧ (∀ p, p < N → t 61 p = nN (inN T (L / 3) p (2 ^ N))) ∧ (∀ o, o ≠ 60 → o ≠ 61 → t o = σ o) := by
  have h8 := g.le8
  have hk := p28 h8
  have hp2 := p2sub (N := N)
  obtain ⟨b, hb1, hb2⟩ := e_isTold hn g ht
  have hbt : b = true := hb2.mpr hp
  subst hbt
  have ev : ∀ s : MS, s 3 = σ 3 → f_X4_everybody 3 s = some (nN (2 ^ N - 1)) := by
    intro s hs
    simp only [f_X4_everybody, hs, g.ppl, all_nN h8]
  generalize hs1 : mu (mu σ 60 3 0) 60 4 (nN (2 ^ N - 1)) = s1
  have main : ∀ s0 s2 : MS, s2 60 3 = 0 → s2 60 4 = nN (2 ^ N - 1) → (∀ p, p < 8 → s2 61 p = 0) → (∀ o, o ≠ 60 → o ≠ 61 → s2 o = σ o) → ∃ c, itr (L_X2_weigh_48 n s0) n (0, s2) = some c ∧ c.1 = 1 ∧ c.2 60 3 = nN (dkZ T (L / 3) N (2 ^ N)).1 ∧ c.2 60 4 = (if (dkZ T (L / 3) N (2 ^ N)).1 = 0 then 0 else nN (dkZ T (L / 3) N (2 ^ N)).2) ∧ (∀ p, p < N → c.2 61 p = nN (inN T (L / 3) p (2 ^ N))) ∧ (∀ o, o ≠ 60 → o ≠ 61 → c.2 o = σ o) := by
    intro s0 s2 q3 q4 q61 qo
    refine itr_inv (fun i st => ∃ s', st = (nN i, s') ∧ s' 60 3 = nN (dkZ T (L / 3) N i).1 ∧ s' 60 4 = nN (dkZ T (L / 3) N i).2 ∧ (∀ p, p < N → s' 61 p = nN (inN T (L / 3) p i)) ∧ (∀ o, o ≠ 60 → o ≠ 61 → s' o = σ o)) _ (2 ^ N) ?_ ?_ n 0 _ (by omega) (by omega) ⟨s2, rfl, q3, q4, fun p hp => q61 p (by omega), qo⟩
    · rintro i st hi ⟨s', rfl, h1, h2, h3, h4⟩
      left
      have ev' := ev s' (h4 3 (by omega) (by omega))
      have g' : GH s' 3 N := by
        unfold GH
        rw [hv_rows (σ := σ) (τ := s') (h := 3) (fun k hk => h4 _ (by omega) (by omega))]
        exact g
      have ht' : TP s' L T := by
        obtain ⟨t1, t2, t3⟩ := ht
        exact ⟨t1, by rw [h4 1 (by omega) (by omega)]; exact t2, fun i hi => by rw [h4 2 (by omega) (by omega), h4 177 (by omega) (by omega)]; exact t3 i hi⟩
      have hfit := e_fits (set := i) hn h8 ht' hp (by omega)
      have e : dkZ T (L / 3) N (i + 1) = dkG T (L / 3) i (dkZ T (L / 3) N i) := rfl
      have e2 : ∀ p, inN T (L / 3) p (i + 1) = inN T (L / 3) p i + (fB T (L / 3) i && i.testBit p).toNat := fun p => rfl
      cases hf : fB T (L / 3) i
      · rw [hf] at hfit
        refine ⟨_, ?_, s', rfl, ?_, ?_, ?_, h4⟩
        · simp (disch := omega) only [L_X2_weigh_48, J_X2_weigh_72, ev', bnd_s, lt_f, if_false, hfit, bI_f, if_true, nN_s]
        · rw [e]; unfold dkG; rw [hf]; exact h1
        · rw [e]; unfold dkG; rw [hf]; exact h2
        · intro p hp; rw [e2, hf]; exact h3 p hp
      · rw [hf] at hfit
        obtain ⟨t, a1, a2, a3, a4, a5⟩ := c_add (x := i) hn g' (by omega)
        refine ⟨_, ?_, t, rfl, ?_, ?_, ?_, fun o o1 o2 => (a5 o o1 o2).trans (h4 o o1 o2)⟩
        · simp (disch := omega) only [L_X2_weigh_48, J_X2_weigh_72, ev', bnd_s, lt_f, if_false, hfit, bI_t, one_ne0, a1, nN_s]
        · rw [e, a2, h1, nN_s]; unfold dkG; rw [hf]; rfl
        · rw [e, a3, h2, nN_and]; unfold dkG; rw [hf]; rfl
        · intro p hp
          rw [e2, hf, a4 p hp, h3 p hp, Bool.true_and]
          cases i.testBit p
          · rw [bI_f, Int32.add_zero]; rfl
          · rw [bI_t, nN_s]; rfl
    · rintro st ⟨s', rfl, h1, h2, h3, h4⟩
      have ev' := ev s' (h4 3 (by omega) (by omega))
      have hl := (dk_lt (T := T) (R := L / 3) h8 (2 ^ N)).2
      have hz : (nN (dkZ T (L / 3) N (2 ^ N)).1 = 0) = ((dkZ T (L / 3) N (2 ^ N)).1 = 0) := by rw [l0, nN_eq (by omega) (by omega)]
      by_cases c : (dkZ T (L / 3) N (2 ^ N)).1 = 0
      · refine ⟨(1, mu s' 60 4 0), ?_, rfl, (show mu s' 60 4 0 60 3 = _ by rw [mu_at, if_neg (by omega)]; exact h1), (show mu s' 60 4 0 60 4 = _ by rw [mu_own, if_pos c]; rfl), fun p hp => (show mu s' 60 4 0 61 p = _ by rw [mu_row (by omega)]; exact h3 p hp), fun o o1 o2 => (show mu s' 60 4 0 o = _ by rw [mu_row o1]; exact h4 o o1 o2)⟩
        have h1z : s' 60 3 = 0 := h1.trans (by rw [c]; rfl)
        simp (disch := omega) only [L_X2_weigh_48, J_X2_weigh_90, ev', bnd_s, lt_t, if_true, h1z, ltM_s, Option.map_some]
      · refine ⟨(1, s'), ?_, rfl, h1, by rw [if_neg c]; exact h2, h3, h4⟩
        simp (disch := omega) only [L_X2_weigh_48, J_X2_weigh_90, ev', bnd_s, lt_t, if_true, h1, hz, c, if_false, Option.map_some]
  have key : ∃ c, itr (L_X2_weigh_27 n σ) n (0, s1) = some c ∧ c.1 = 1 ∧ c.2 60 3 = nN (dkZ T (L / 3) N (2 ^ N)).1 ∧ c.2 60 4 = (if (dkZ T (L / 3) N (2 ^ N)).1 = 0 then 0 else nN (dkZ T (L / 3) N (2 ^ N)).2) ∧ (∀ p, p < N → c.2 61 p = nN (inN T (L / 3) p (2 ^ N))) ∧ (∀ o, o ≠ 60 → o ≠ 61 → c.2 o = σ o) := by
    refine itr_inv (fun i st => ∃ s', st = (nN i, s') ∧ s' 60 = s1 60 ∧ (∀ p, p < i → s' 61 p = 0) ∧ (∀ o, o ≠ 60 → o ≠ 61 → s' o = σ o)) _ 8 ?_ ?_ n 0 _ (by omega) (by omega) ⟨s1, rfl, rfl, fun p hp => by omega, fun o o1 _ => by rw [← hs1, mu_row o1, mu_row o1]⟩
    · rintro i st hi ⟨s', rfl, h1, h2, h4⟩
      left
      refine ⟨_, ?_, mu s' 61 i 0, rfl, by rw [mu_row (by omega)]; exact h1, fun p hp => ?_, fun o o1 o2 => by rw [mu_row o2]; exact h4 o o1 o2⟩
      · simp (disch := omega) only [L_X2_weigh_27, l8, le_f, if_false, inb_nN, ix_nN, it_t, if_true, ltM_s, nN_s]
      · by_cases c : p = i
        · rw [c, mu_own, if_pos rfl]
        · rw [mu_at, if_neg (by omega)]
          exact h2 p (by omega)
    · rintro st ⟨s', rfl, h1, h2, h4⟩
      obtain ⟨c, k1, k2⟩ := main σ s' (by rw [h1, ← hs1, mu_at, if_neg (by omega), mu_own]; rfl) (by rw [h1, ← hs1, mu_own]; rfl) h2 h4
      refine ⟨c, ?_, k2⟩
      simp (disch := omega) only [L_X2_weigh_27, l8, le_t, if_true, k1, Option.map_some]
  obtain ⟨⟨v, t⟩, k1, k2, k3⟩ := key
  simp only at k2 k3
  subst k2
  refine ⟨t, ?_, k3⟩
  have ev1 := ev (mu σ 60 3 0) (mu_row (by omega))
  simp only [f_X2_weigh, hb1, bnd_s, bI_t, one_ne0, if_false, ltM_s, ev1, hs1, k1]
theorem Inv_cut {j : Nat} {σ υ : MS} (hI : Inv j σ) (h1 : ∀ o, es o = true → υ o = σ o) (h4 : υ 171 6 = σ 171 6) (h5 : υ 171 7 = σ 171 7) (h7 : υ 171 14 = σ 171 14) (t1 : υ 1 1 = 0) (t2 : υ 171 9 = 0) : Inv (j + 1) υ := Inv_tape (L := 0) hI (fun o ho _ _ => h1 o ho) h4 h5 h7 (by omega) t1 t2 (fun i hi => by omega)
def usM (σ : MS) (L : Nat) : MS := mu (mu (mu (mu σ 171 0 0) 171 11 (nN L)) 171 9 0) 171 10 0
theorem m_uses {σ : MS} {L : Nat} (h : σ 171 9 = nN L) : f_X12_uses σ = some (0, usM σ L) := by
  have e : mu σ 171 0 0 171 9 = nN L := by rw [mu_at, if_neg (by omega)]; exact h
  simp only [f_X12_uses, ltM_s, e]
  rfl
theorem us_at {σ : MS} {L : Nat} : usM σ L 171 11 = nN L ∧ usM σ L 171 9 = 0 ∧ usM σ L 171 0 = 0 ∧ (∀ k, k ≠ 0 → k ≠ 9 → k ≠ 10 → k ≠ 11 → usM σ L 171 k = σ 171 k) ∧ (∀ o, o ≠ 171 → usM σ L o = σ o) := by
  unfold usM
  refine ⟨?_, ?_, ?_, ?_, ?_⟩
  · simp only [mu_own]; rfl
  · simp only [mu_own]; rfl
  · simp only [mu_own]; rfl
  · intro k k0 k9 k10 k11
    simp only [mu_own]
    rw [if_neg k10, if_neg k9, if_neg k11, if_neg k0]
  · intro o ho
    rw [mu_row ho, mu_row ho, mu_row ho, mu_row ho]
