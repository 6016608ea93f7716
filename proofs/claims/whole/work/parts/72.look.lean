/-! layer 2: the cases drank and look -/
theorem c_weighD {j n N L : Nat} {σ : MS} {T : Nat → Nat} (hn : 6000 ≤ n) (g : GH σ 3 N) (ht : TP σ L T) (hp : toldP N L T) : ∃ t, f_X11_weighDrinkers n σ = some (.inl 0, t) ∧ t 60 3 = nN (dkZ T (L / 3) N (2 ^ N)).1 ∧ t 60 4 = (if (dkZ T (L / 3) N (2 ^ N)).1 = 0 then 0 else nN (dkZ T (L / 3) N (2 ^ N)).2) ∧ (∀ p, p < N → t 61 p = nN (inN T (L / 3) p (2 ^ N))) ∧ (∀ o, o ≠ 1 → o ≠ 60 → o ≠ 61 → t o = σ o) ∧ t 1 1 = 0 := by
  obtain ⟨t, h1, h2, h3, h4, h5⟩ := c_weigh hn g ht hp
  refine ⟨mu t 1 1 0, ?_, by rw [mu_row (by omega)]; exact h2, by rw [mu_row (by omega)]; exact h3, fun p hp => by rw [mu_row (by omega)]; exact h4 p hp, fun o o1 o2 o3 => by rw [mu_row o1]; exact h5 o o2 o3, by rw [mu_own]; rfl⟩
  simp only [f_X11_weighDrinkers, h1, bnd_s, ltM_s, one_ne0, if_false]
theorem c_weighN {n N L : Nat} {σ : MS} {T : Nat → Nat} (hn : 6000 ≤ n) (g : GH σ 3 N) (ht : TP σ L T) (hp : ¬ toldP N L T) : f_X11_weighDrinkers n σ = some (.inr 1, mu σ 1 1 0) := by
  obtain ⟨b, hb1, hb2⟩ := e_isTold hn g ht
  have hbf : b = false := by
    cases b
    · rfl
    · exact absurd (hb2.mp rfl) hp
  subst hbf
  simp only [f_X11_weighDrinkers, f_X2_weigh, hb1, bnd_s, bI_f, if_true, ltM_s]
theorem GW_same {σ τ : MS} {N : Nat} (g : GW σ N) (h : τ 172 = σ 172) : GW τ N := by
  unfold GW
  rw [h]
  exact g
theorem m_dr {U : MS} {n N L : Nat} {T : Nat → Nat} (hn : 6000 ≤ n) (g : GW U N) (hL : L ≤ 400) (hend : U 171 11 = nN L) (ht : ∀ i, i < L → T i < 256 ∧ U 177 i = sb (T i)) (hp : toldP N L T) (b : Bool) : J_X12_drank_17 n (bI b) 0 U = some ((if b = true then (if (dkZ T (L / 3) N (2 ^ N)).1 = 0 then 0 else nN (dkZ T (L / 3) N (2 ^ N)).2) else nN (dkZ T (L / 3) N (2 ^ N)).1), U) := by
  have h8 := g.le8
  have hk := p28 h8
  have hp2 := p2sub (N := N)
  have hA := e_X12_everybody g
  have hl := dk_lt (T := T) (R := L / 3) h8 (2 ^ N)
  have key : ∃ c, itr (L_X12_drank_36 n (bI b) U) n (0, nN (2 ^ N - 1), 0) = some c ∧ c = ((if b = true then (if (dkZ T (L / 3) N (2 ^ N)).1 = 0 then 0 else nN (dkZ T (L / 3) N (2 ^ N)).2) else nN (dkZ T (L / 3) N (2 ^ N)).1), U) := by
    refine itr_inv (fun i st => st = (nN (dkZ T (L / 3) N i).1, nN (dkZ T (L / 3) N i).2, nN i)) _ (2 ^ N) ?_ ?_ n 0 _ (by omega) (by omega) rfl
    · rintro i st hi rfl
      left
      have hf := m_fits (set := i) hn h8 hL hend ht hp (by omega)
      have hli := dk_lt (T := T) (R := L / 3) h8 i
      have e : dkZ T (L / 3) N (i + 1) = dkG T (L / 3) i (dkZ T (L / 3) N i) := rfl
      refine ⟨_, ?_, rfl⟩
      rw [e]
      unfold dkG
      cases hc : fB T (L / 3) i
      · rw [hc] at hf
        simp (disch := omega) only [L_X12_drank_36, J_X12_drank_65, hA, bnd_s, lt_f, if_false, hf, bI_f, if_true, nN_s, Bool.false_eq_true]
      · rw [hc] at hf
        simp (disch := omega) only [L_X12_drank_36, J_X12_drank_65, hA, bnd_s, lt_f, if_false, hf, bI_t, one_ne0, if_true, nN_s, nN_and]
    · rintro st rfl
      have hz : (nN (dkZ T (L / 3) N (2 ^ N)).1 = 0) = ((dkZ T (L / 3) N (2 ^ N)).1 = 0) := by rw [l0, nN_eq (by omega) (by omega)]
      refine ⟨_, ?_, rfl⟩
      simp (disch := omega) only [L_X12_drank_36, J_X12_drank_88, hA, bnd_s, lt_t, if_true, hz, ite_bI]
      cases b
      · rfl
      · simp only [if_true]
        by_cases c : (dkZ T (L / 3) N (2 ^ N)).1 = 0
        · rw [if_pos c, if_pos c]; rfl
        · rw [if_neg c, if_neg c]; rfl
  obtain ⟨c, k1, rfl⟩ := key
  simp only [J_X12_drank_17, thr_0, bnd_s, if_true, hA, k1]
/-- whom to look at -/
def grN (T : Nat → Nat) (R m cnt p : Nat) : Nat := max (inN T R p m) (cnt - inN T R p m)
def lkG (T : Nat → Nat) (R m cnt p : Nat) (a : Nat × Int32) : Nat × Int32 := if grN T R m cnt p < a.1 then (grN T R m cnt p, nN p) else a
def lkZ (T : Nat → Nat) (R m cnt s k : Nat) : Nat × Int32 := fR k (lkG T R m cnt) (s, -1)
theorem lk_same {T : Nat → Nat} {R m cnt s1 s2 : Nat} (h : ∀ p, grN T R m cnt p ≤ cnt) (h1 : cnt < s1) (h2 : cnt < s2) : ∀ k, lkZ T R m cnt s1 (k + 1) = lkZ T R m cnt s2 (k + 1) := by
  intro k
  induction k with
  | zero =>
    show lkG T R m cnt 0 (s1, -1) = lkG T R m cnt 0 (s2, -1)
    unfold lkG
    have := h 0
    simp only
    rw [if_pos (by omega), if_pos (by omega)]
  | succ k ih =>
    show lkG T R m cnt (k + 1) (lkZ T R m cnt s1 (k + 1)) = lkG T R m cnt (k + 1) (lkZ T R m cnt s2 (k + 1))
    rw [ih]
theorem lk_le {T : Nat → Nat} {R m cnt s : Nat} : ∀ k, (lkZ T R m cnt s k).1 ≤ s := by
  intro k
  induction k with
  | zero => exact Nat.le_refl _
  | succ k ih =>
    show (lkG T R m cnt k (lkZ T R m cnt s k)).1 ≤ s
    unfold lkG
    split
    · show grN T R m cnt k ≤ s
      omega
    · exact ih
def lkV (T : Nat → Nat) (R N : Nat) : Int32 := if 2 ≤ (dkZ T R N (2 ^ N)).1 then (lkZ T R (2 ^ N) (dkZ T R N (2 ^ N)).1 ((dkZ T R N (2 ^ N)).1 + 1) N).2 else -1
theorem gr_le {T : Nat → Nat} {R N p : Nat} : grN T R (2 ^ N) (dkZ T R N (2 ^ N)).1 p ≤ (dkZ T R N (2 ^ N)).1 := by
  have := in_le (T := T) (R := R) (N := N) (p := p) (2 ^ N)
  unfold grN
  omega
theorem c_part {t : MS} {n N R : Nat} {T : Nat → Nat} (hn : 6000 ≤ n) (g : GH t 3 N) (h3 : t 60 3 = nN (dkZ T R N (2 ^ N)).1) (h61 : ∀ p, p < N → t 61 p = nN (inN T R p (2 ^ N))) : f_X2_parting n t = some (lkV T R N) := by
  have h8 := g.le8
  have hk := p28 h8
  have hl := dk_lt (T := T) (R := R) h8 (2 ^ N)
  have hppl := g.ppl
  unfold f_X2_parting lkV
  rw [h3, l2, it_le (by omega) (by omega)]
  by_cases c : 2 ≤ (dkZ T R N (2 ^ N)).1
  · rw [if_pos c, if_pos c]
    have key : ∃ r, itr (L_X2_parting_21 n t) n (nN (dkZ T R N (2 ^ N)).1 + 1, -1, 0) = some r ∧ r = (lkZ T R (2 ^ N) (dkZ T R N (2 ^ N)).1 ((dkZ T R N (2 ^ N)).1 + 1) N).2 := by
      refine itr_inv (fun i st => st = (nN (lkZ T R (2 ^ N) (dkZ T R N (2 ^ N)).1 ((dkZ T R N (2 ^ N)).1 + 1) i).1, (lkZ T R (2 ^ N) (dkZ T R N (2 ^ N)).1 ((dkZ T R N (2 ^ N)).1 + 1) i).2, nN i)) _ N ?_ ?_ n 0 _ (by omega) (by omega) (by rw [nN_s]; rfl)
      · rintro i st hi rfl
        left
        have hin := in_le (T := T) (R := R) (N := N) (p := i) (2 ^ N)
        have hle := lk_le (T := T) (R := R) (m := 2 ^ N) (cnt := (dkZ T R N (2 ^ N)).1) (s := (dkZ T R N (2 ^ N)).1 + 1) i
        have e : lkZ T R (2 ^ N) (dkZ T R N (2 ^ N)).1 ((dkZ T R N (2 ^ N)).1 + 1) (i + 1) = lkG T R (2 ^ N) (dkZ T R N (2 ^ N)).1 i (lkZ T R (2 ^ N) (dkZ T R N (2 ^ N)).1 ((dkZ T R N (2 ^ N)).1 + 1) i) := rfl
        have hm : mxI (nN (inN T R i (2 ^ N))) (nN (dkZ T R N (2 ^ N)).1 - nN (inN T R i (2 ^ N))) = nN (grN T R (2 ^ N) (dkZ T R N (2 ^ N)).1 i) := by
          rw [nN_sub hin, mxI_nN (by omega) (by omega)]
          rfl
        have hg := gr_le (T := T) (R := R) (N := N) (p := i)
        refine ⟨_, ?_, rfl⟩
        rw [e]
        unfold lkG
        simp (disch := omega) only [L_X2_parting_21, J_X2_parting_65, hppl, le_f, if_false, inb_nN, ix_nN, it_t, if_true, h61 i hi, h3, hm, nN_s, nN_le]
        by_cases d : grN T R (2 ^ N) (dkZ T R N (2 ^ N)).1 i < (lkZ T R (2 ^ N) (dkZ T R N (2 ^ N)).1 ((dkZ T R N (2 ^ N)).1 + 1) i).1
        · rw [if_neg (by omega), if_pos d]
        · rw [if_pos (by omega), if_neg d]
      · rintro st rfl
        refine ⟨_, ?_, rfl⟩
        simp (disch := omega) only [L_X2_parting_21, hppl, le_t, if_true, Option.map_some]
    obtain ⟨r, k1, rfl⟩ := key
    rw [k1]
  · rw [if_neg c, if_neg c]
theorem m_lk {U : MS} {n N L : Nat} {T : Nat → Nat} (hn : 6000 ≤ n) (g : GW U N) (hL : L ≤ 400) (hend : U 171 11 = nN L) (ht : ∀ i, i < L → T i < 256 ∧ U 177 i = sb (T i)) (hp : toldP N L T) : J_X12_look_17 n 0 U = some (lkV T (L / 3) N, U) := by
  have h8 := g.le8
  have hk := p28 h8
  have hp2 := p2sub (N := N)
  have hA := e_X12_everybody g
  have hN := e_X12_people g
  have hl := dk_lt (T := T) (R := L / 3) h8 (2 ^ N)
  generalize hcnt : (dkZ T (L / 3) N (2 ^ N)).1 = cnt at hl
  have bit : ∀ s, s < 256 → ∀ p, p < 8 → shrI (nN s) (nN p) &&& 1 = nN (s.testBit p).toNat := by decide +kernel
  have inner : ∀ (p : Nat) (a : Nat × Int32), p < N → a.1 ≤ 1000000 → itr (L_X12_look_51 n a.2 (nN a.1) (nN p) U) n (0, 0, 0) = some (.inl (if 2 ≤ cnt then ((lkG T (L / 3) (2 ^ N) cnt p a).2, nN (lkG T (L / 3) (2 ^ N) cnt p a).1, nN (p + 1)) else (a.2, nN a.1, nN (p + 1)))) := by
    intro p a hpN ha
    have key : ∃ c, itr (L_X12_look_51 n a.2 (nN a.1) (nN p) U) n (0, 0, 0) = some c ∧ c = (.inl (if 2 ≤ cnt then ((lkG T (L / 3) (2 ^ N) cnt p a).2, nN (lkG T (L / 3) (2 ^ N) cnt p a).1, nN (p + 1)) else (a.2, nN a.1, nN (p + 1)))) := by
      refine itr_inv (fun i st => st = (nN (dkZ T (L / 3) N i).1, nN (inN T (L / 3) p i), nN i)) _ (2 ^ N) ?_ ?_ n 0 _ (by omega) (by omega) rfl
      · rintro i st hi rfl
        left
        have hf := m_fits (set := i) hn h8 hL hend ht hp (by omega)
        have e : dkZ T (L / 3) N (i + 1) = dkG T (L / 3) i (dkZ T (L / 3) N i) := rfl
        have e2 : inN T (L / 3) p (i + 1) = inN T (L / 3) p i + (fB T (L / 3) i && i.testBit p).toNat := rfl
        refine ⟨_, ?_, rfl⟩
        rw [e, e2]
        unfold dkG
        cases hc : fB T (L / 3) i
        · rw [hc] at hf
          simp (disch := omega) only [L_X12_look_51, J_X12_look_86, hA, bnd_s, lt_f, if_false, hf, bI_f, if_true, nN_s, Bool.false_eq_true, Bool.false_and, Bool.toNat_false, Nat.add_zero]
        · rw [hc] at hf
          simp (disch := omega) only [L_X12_look_51, J_X12_look_86, hA, bnd_s, lt_f, if_false, hf, bI_t, one_ne0, if_true, nN_s, Bool.true_and, bit i (by omega) p (by omega), nN_add]
      · rintro st rfl
        have hin := in_le (T := T) (R := L / 3) (N := N) (p := p) (2 ^ N)
        have hg := gr_le (T := T) (R := L / 3) (N := N) (p := p)
        rw [hcnt] at hin hg
        have hm : mxI (nN (inN T (L / 3) p (2 ^ N))) (nN cnt - nN (inN T (L / 3) p (2 ^ N))) = nN (grN T (L / 3) (2 ^ N) cnt p) := by
          rw [nN_sub hin, mxI_nN (by omega) (by omega)]
          rfl
        refine ⟨_, ?_, rfl⟩
        rw [hcnt]
        simp (disch := omega) only [L_X12_look_51, J_X12_look_124, hA, bnd_s, lt_t, if_true, l2, hm, nN_lt, nN_s]
        unfold lkG
        by_cases c : 2 ≤ cnt
        · rw [if_neg (by omega), if_pos c]
          by_cases d : grN T (L / 3) (2 ^ N) cnt p < a.1
          · rw [if_pos d, if_pos d]; rfl
          · rw [if_neg d, if_neg d]; rfl
        · rw [if_pos (by omega), if_neg c]; rfl
    obtain ⟨c, k1, rfl⟩ := key
    exact k1
  have key : ∃ c, itr (L_X12_look_34 n U) n (-1, 1000000, 0) = some c ∧ c = (lkV T (L / 3) N, U) := by
    refine itr_inv (fun i st => st = (if 2 ≤ cnt then ((lkZ T (L / 3) (2 ^ N) cnt 1000000 i).2, nN (lkZ T (L / 3) (2 ^ N) cnt 1000000 i).1, nN i) else (-1, nN 1000000, nN i))) _ N ?_ ?_ n 0 _ (by omega) (by omega) ?_
    · rintro i st hi rfl
      left
      refine ⟨_, ?_, rfl⟩
      by_cases c : 2 ≤ cnt
      · have h := inner i (lkZ T (L / 3) (2 ^ N) cnt 1000000 i) hi (lk_le i)
        rw [if_pos c] at h
        rw [if_pos c, if_pos c]
        simp (disch := omega) only [L_X12_look_34, hN, bnd_s, le_f, if_false, h]
        rfl
      · have h := inner i (1000000, -1) hi (Nat.le_refl _)
        rw [if_neg c] at h
        rw [if_neg c, if_neg c]
        simp (disch := omega) only [L_X12_look_34, hN, bnd_s, le_f, if_false, h]
    · rintro st rfl
      refine ⟨_, ?_, rfl⟩
      unfold lkV
      rw [hcnt]
      by_cases c : 2 ≤ cnt
      · have hs : (lkZ T (L / 3) (2 ^ N) cnt 1000000 N).2 = (lkZ T (L / 3) (2 ^ N) cnt (cnt + 1) N).2 := by
          cases N with
          | zero => rfl
          | succ k => rw [lk_same (fun p => by have := gr_le (T := T) (R := L / 3) (N := k + 1) (p := p); rw [hcnt] at this; exact this) (show cnt < 1000000 by omega) (show cnt < cnt + 1 by omega)]
        rw [if_pos c, if_pos c]
        simp (disch := omega) only [L_X12_look_34, hN, bnd_s, le_t, if_true, Option.map_some, hs]
      · rw [if_neg c, if_neg c]
        simp (disch := omega) only [L_X12_look_34, hN, bnd_s, le_t, if_true, Option.map_some]
    · by_cases c : 2 ≤ cnt
      · rw [if_pos c]; rfl
      · rw [if_neg c]; rfl
  obtain ⟨c, k1, rfl⟩ := key
  simp only [J_X12_look_17, thr_0, bnd_s, if_true, k1]
/-- both cases at once: the class leaves t, the reference reads on from it -/
theorem wd_case {j n : Nat} {σ : MS} (hn : 6000 ≤ n) (hI : Inv j σ) (A : Option (Int32 × MS)) (M : MS → Option (Int32 × MS)) (Z : (Nat → Nat) → Nat → Nat → Int32)
    (hA1 : ∀ N L T t, GH t 3 N → f_X11_weighDrinkers n σ = some (.inl 0, t) → t 60 3 = nN (dkZ T (L / 3) N (2 ^ N)).1 → t 60 4 = (if (dkZ T (L / 3) N (2 ^ N)).1 = 0 then 0 else nN (dkZ T (L / 3) N (2 ^ N)).2) → (∀ p, p < N → t 61 p = nN (inN T (L / 3) p (2 ^ N))) → A = some (0, mu t 183 0 (Z T (L / 3) N)))
    (hA2 : ∀ s, f_X11_weighDrinkers n σ = some (.inr 1, s) → A = some (1, s))
    (hM1 : ∀ t N L T, GW t N → L ≤ 400 → t 171 9 = nN L → (∀ i, i < L → T i < 256 ∧ t 177 i = sb (T i)) → toldP N L T → f_X12_isTold n (usM t L) = some 1 → M t = some (Z T (L / 3) N, usM t L))
    (hM2 : ∀ t L, t 171 9 = nN L → f_X12_isTold n (usM t L) = some 0 → M t = some (0, mu (usM t L) 171 0 1)) : ∃ τ, (A.bind (fun q => (M q.2).bind (fun m => cmpL q.1 m))) = some τ ∧ Inv (j + 1) τ := by
  obtain ⟨N, e, gh, gw⟩ := Inv_v hI
  obtain ⟨L, T, ht, h9⟩ := Inv_T hI
  have told : ∀ t : MS, t 172 = σ 172 → t 177 = σ 177 → ∃ b, f_X12_isTold n (usM t L) = some (bI b) ∧ (b = true ↔ toldP N L T) := by
    intro t a1 a2
    obtain ⟨u1, u2, u3, u4, u5⟩ := us_at (σ := t) (L := L)
    exact m_isTold hn (GW_same gw (by rw [u5 172 (by omega), a1])) ht.1 u1 (fun i hi => ⟨(ht.2.2 i hi).1, by rw [u5 177 (by omega), a2]; exact (ht.2.2 i hi).2.2⟩)
  have esne : ∀ o, es o = true → o ≠ 1 ∧ o ≠ 60 ∧ o ≠ 61 ∧ o ≠ 171 ∧ o ≠ 183 := by
    intro o ho
    unfold es at ho
    have := of_decide_eq_true ho
    omega
  by_cases c : toldP N L T
  · obtain ⟨t, h1, h2, h3, h4, h5, h6⟩ := c_weighD (j := j) hn gh ht c
    have gt : GH t 3 N := by
      unfold GH
      rw [hv_rows (σ := σ) (τ := t) (h := 3) (fun k hk => h5 _ (by omega) (by omega) (by omega))]
      exact gh
    have hA := hA1 N L T t gt h1 h2 h3 h4
    generalize hv : Z T (L / 3) N = v at hA
    have r : ∀ o, o ≠ 1 → o ≠ 60 → o ≠ 61 → o ≠ 183 → mu t 183 0 v o = σ o := fun o o1 o2 o3 o4 => by rw [mu_row o4]; exact h5 o o1 o2 o3
    obtain ⟨b, b1, b2⟩ := told (mu t 183 0 v) (r 172 (by omega) (by omega) (by omega) (by omega)) (r 177 (by omega) (by omega) (by omega) (by omega))
    have hb : b = true := b2.mpr c
    subst hb
    have h9' : mu t 183 0 v 171 9 = nN L := by rw [r 171 (by omega) (by omega) (by omega) (by omega)]; exact h9
    have hM := hM1 (mu t 183 0 v) N L T (GW_same gw (r 172 (by omega) (by omega) (by omega) (by omega))) ht.1 h9' (fun i hi => ⟨(ht.2.2 i hi).1, by rw [r 177 (by omega) (by omega) (by omega) (by omega)]; exact (ht.2.2 i hi).2.2⟩) c b1
    rw [hv] at hM
    obtain ⟨u1, u2, u3, u4, u5⟩ := us_at (σ := mu t 183 0 v) (L := L)
    refine s_gen A M hA hM u3 (fun _ => by rw [u5 183 (by omega), mu_own]; rfl) (Inv_cut hI (fun o ho => ?_) ?_ ?_ ?_ ?_ u2)
    · obtain ⟨o1, o2, o3, o4, o5⟩ := esne o ho
      rw [u5 o o4]
      exact r o o1 o2 o3 o5
    · rw [u4 6 (by omega) (by omega) (by omega) (by omega), r 171 (by omega) (by omega) (by omega) (by omega)]
    · rw [u4 7 (by omega) (by omega) (by omega) (by omega), r 171 (by omega) (by omega) (by omega) (by omega)]
    · rw [u4 14 (by omega) (by omega) (by omega) (by omega), r 171 (by omega) (by omega) (by omega) (by omega)]
    · rw [u5 1 (by omega), mu_row (by omega)]
      exact h6
  · have h1 := c_weighN hn gh ht c
    have hA := hA2 _ h1
    obtain ⟨b, b1, b2⟩ := told (mu σ 1 1 0) (mu_row (by omega)) (mu_row (by omega))
    have hb : b = false := by
      cases b
      · rfl
      · exact absurd (b2.mp rfl) c
    subst hb
    have hM := hM2 (mu σ 1 1 0) L (by rw [mu_row (by omega)]; exact h9) b1
    obtain ⟨u1, u2, u3, u4, u5⟩ := us_at (σ := mu σ 1 1 0) (L := L)
    have q : ∀ k, k ≠ 0 → mu (usM (mu σ 1 1 0) L) 171 0 1 171 k = usM (mu σ 1 1 0) L 171 k := fun k hk => by rw [mu_at, if_neg (by omega)]
    refine s_gen A M hA hM (by rw [mu_own]; rfl) (fun h => by cases h) (Inv_cut hI (fun o ho => ?_) ?_ ?_ ?_ ?_ ?_)
    · obtain ⟨o1, o2, o3, o4, o5⟩ := esne o ho
      rw [mu_row o4, u5 o o4, mu_row o1]
    · rw [q 6 (by omega), u4 6 (by omega) (by omega) (by omega) (by omega), mu_row (by omega)]
    · rw [q 7 (by omega), u4 7 (by omega) (by omega) (by omega) (by omega), mu_row (by omega)]
    · rw [q 14 (by omega), u4 14 (by omega) (by omega) (by omega) (by omega), mu_row (by omega)]
    · rw [mu_row (by omega), u5 1 (by omega), mu_own]; rfl
    · rw [q 9 (by omega)]; exact u2
theorem a_29 {j n : Nat} {σ : MS} (hn : 6000 ≤ n) (hI : Inv j σ) (b : Bool) : ∃ τ, ((f_L_drank n (bI b) σ).bind (fun q => (f_X12_drank n (bI b) q.2).bind (fun m => cmpL q.1 m))) = some τ ∧ Inv (j + 1) τ := by
  refine wd_case hn hI (f_L_drank n (bI b) σ) (fun t => f_X12_drank n (bI b) t) (fun T R N => if b = true then (if (dkZ T R N (2 ^ N)).1 = 0 then 0 else nN (dkZ T R N (2 ^ N)).2) else nN (dkZ T R N (2 ^ N)).1) ?_ ?_ ?_ ?_
  · intro N L T t g h1 h2 h3 h4
    cases b
    · simp only [f_L_drank, f_X11_drank, J_X11_drank_25, h1, thn_l, bI_f, if_true, ltM_s, h2, Bool.false_eq_true, if_false]
    · simp only [f_L_drank, f_X11_drank, J_X11_drank_25, h1, thn_l, bI_t, one_ne0, if_false, ltM_s, h3, if_true]
  · intro s h
    simp only [f_L_drank, f_X11_drank, h, thn_r, if_true]
  · intro t N L T g hL h9 ht hp hb
    obtain ⟨u1, u2, u3, u4, u5⟩ := us_at (σ := t) (L := L)
    have h := m_dr hn (GW_same g (u5 172 (by omega))) hL u1 (fun i hi => ⟨(ht i hi).1, by rw [u5 177 (by omega)]; exact (ht i hi).2⟩) hp b
    simp only [f_X12_drank, m_uses h9, bnd_s, hb, one_ne0, if_false, h]
  · intro t L h9 hb
    simp only [f_X12_drank, m_uses h9, bnd_s, hb, if_true, J_X12_drank_17, thr_1, one_ne0, if_false]
theorem s_29 {j n : Nat} {σ : MS} {x1 x2 x3 x4 x5 : Int32} (hn : 6000 ≤ n) (hI : Inv j σ) : ∃ τ, step_29 n x1 x2 x3 x4 x5 σ = some τ ∧ Inv (j + 1) τ := by
  unfold step_29
  by_cases c : x1 = 0
  · simp only [J_L_law__1760, J_L_law__1781, J_L_law__1814, c, if_true]
    exact a_29 hn hI false
  · simp only [J_L_law__1760, J_L_law__1781, J_L_law__1814, c, if_false]
    exact a_29 hn hI true
theorem s_30 {j n : Nat} {σ : MS} {x1 x2 x3 x4 x5 : Int32} (hn : 6000 ≤ n) (hI : Inv j σ) : ∃ τ, step_30 n x1 x2 x3 x4 x5 σ = some τ ∧ Inv (j + 1) τ := by
  refine wd_case hn hI (f_L_look n σ) (fun t => f_X12_look n t) lkV ?_ ?_ ?_ ?_
  · intro N L T t g h1 h2 h3 h4
    have h := c_part hn g h2 h4
    simp only [f_L_look, f_X11_look, h1, thn_l, h, bnd_s, ltM_s]
  · intro s h
    simp only [f_L_look, f_X11_look, h, thn_r, if_true]
  · intro t N L T g hL h9 ht hp hb
    obtain ⟨u1, u2, u3, u4, u5⟩ := us_at (σ := t) (L := L)
    have h := m_lk hn (GW_same g (u5 172 (by omega))) hL u1 (fun i hi => ⟨(ht i hi).1, by rw [u5 177 (by omega)]; exact (ht i hi).2⟩) hp
    simp only [f_X12_look, m_uses h9, bnd_s, hb, one_ne0, if_false, h]
  · intro t L h9 hb
    simp only [f_X12_look, m_uses h9, bnd_s, hb, if_true, J_X12_look_17, thr_1, one_ne0, if_false]
