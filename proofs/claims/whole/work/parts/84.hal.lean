/-! layer 2: the house's text, all of it -/
def AllC (T : Nat → Nat) (L n : Nat) (V : HV) (a k : Nat) (ok : Bool) (V' : HV) (a' : Nat) : Prop :=
  ∀ (s σ0 : MS) (n' : Nat), CA T L s a → hv s 12 = V → k < n' → ∃ t, itr (L_X5_tells_21 n 12 σ0) n' (nN (14 - k), s) = some (bI ok, t) ∧ (ok = true → hv t 12 = V') ∧ (ok = false → t 1 2 = nN a') ∧ frH s t
def AllM (T : Nat → Nat) (L n : Nat) (V : HV) (a k : Nat) (ok : Bool) (V' : HV) (a' : Nat) : Prop :=
  ∀ (m σ0 : MS) (p n' : Nat), MP T L m p → skp T L p = a → rv (m 172) = V → k < n' → ∃ x t, itr (L_X12_readAll_28 n 1 σ0) n' (nN (14 - k), m) = some (x, t) ∧ (ok = true → (∃ y, x = nN y ∧ y < 100) ∧ rv (t 172) = V') ∧ (ok = false → x = -1 ∧ t 171 12 = nN a') ∧ frW m t
section
variable {T : Nat → Nat} {L : Nat}
theorem rl_ok {n i : Nat} {m t : MS} {ok : Bool} (hi : i < 14) (h : (f_X12_letters n m).bind (fun q => f_X12_readHouseLine n q.2) = some (bI ok, t)) : f_X12_readLine n 1 (nN i) m = some (bI ok, t) := by
  cases e : f_X12_letters n m with
  | none => rw [e] at h; cases h
  | some q =>
    rw [e, bnd_s] at h
    have c : ¬ (14 : Nat) ≤ i := by omega
    simp (disch := omega) only [f_X12_readLine, J_X12_readLine_16, J_X12_readLine_45, J_X12_readLine_46, J_X12_readLine_41, e, bnd_s, one_ne0, if_false, l14, nN_le, c, h, ok_0, true_or, if_true, ok_1, or_true, if_true]
    cases ok <;> rfl
theorem h_all {n : Nat} (hn : 6000 ≤ n) : ∀ k, k ≤ 14 → ∀ (V : HV) (a N : Nat), GV V N → a ≤ L → skp T L a = a → ∃ ok V' a', a' ≤ L ∧ (ok = true → ∃ N', GV V' N') ∧ AllC T L n V a k ok V' a' ∧ AllM T L n V a k ok V' a' := by
  intro k
  induction k with
  | zero =>
    intro _ V a N g ha hsk
    refine ⟨false, V, a, ha, no_c, ?_, ?_⟩
    · intro s σ0 n' hs hv0 hn'
      obtain ⟨m, rfl⟩ : ∃ m, n' = m + 1 := ⟨n' - 1, by omega⟩
      refine ⟨s, itr_en ?_, no_c, fun _ => hs.2.1, frH_refl s⟩
      simp (disch := omega) only [L_X5_tells_21, l14, nN_le, Nat.sub_zero, Nat.le_refl, if_true, Option.map_some, bI_f]
    · intro m σ0 p n' hm hp hv0 hn'
      obtain ⟨q, rfl⟩ : ∃ q, n' = q + 1 := ⟨n' - 1, by omega⟩
      obtain ⟨t, k1, k2, k3, k4⟩ := m_letters hn hm
      rw [hp] at k2 k3
      refine ⟨-1, t, itr_en ?_, no_c, fun _ => ⟨rfl, k3⟩, frW_M k4⟩
      simp (disch := omega) only [L_X12_readAll_28, f_X12_readLine, J_X12_readLine_16, J_X12_readLine_45, J_X12_readLine_46, k1, bnd_s, one_ne0, if_false, l14, nN_le, Nat.sub_zero, Nat.le_refl, if_true, ok_0, true_or, if_true, Option.map_some]
  | succ k ih =>
    intro hk V a N g ha hsk
    have hi : 14 - (k + 1) < 14 := by omega
    have hi2 : 14 - (k + 1) + 1 = 14 - k := by omega
    have hi3 : ¬ 14 ≤ 14 - (k + 1) := by omega
    generalize 14 - (k + 1) = i at hi hi2 hi3
    have ei : 14 - (k + 1) = i := by omega
    obtain ⟨ok, V1, a1, h1, h2, h3, h4, h5⟩ := l_line (T := T) (L := L) hn ha hsk g
    cases ok
    · refine ⟨false, V, a1, h1, no_c, ?_, ?_⟩
      · intro s σ0 n' hs hv0 hn'
        obtain ⟨m, rfl⟩ : ∃ m, n' = m + 1 := ⟨n' - 1, by omega⟩
        obtain ⟨t, k1, k2, -, k4⟩ := h4 s hs hv0
        have k1' : f_X5_tellsLine n 12 s = some (bI false, t) := k1
        rw [ei]
        refine ⟨t, itr_en ?_, no_c, fun _ => k2.2.1, k4⟩
        simp (disch := omega) only [L_X5_tells_21, l14, nN_le, hi3, if_false, k1', bnd_s, bI_f, if_true, Option.map_some]
      · intro m σ0 p n' hm hp hv0 hn'
        obtain ⟨q, rfl⟩ : ∃ q, n' = q + 1 := ⟨n' - 1, by omega⟩
        obtain ⟨t, p', k1, k2, -, k4, k5⟩ := h5 m p hm hp hv0
        have k1' := rl_ok hi k1
        rw [ei]
        refine ⟨-1, t, itr_en ?_, no_c, fun _ => ⟨rfl, k4 rfl⟩, k5⟩
        simp only [L_X12_readAll_28, k1', bnd_s, bI_f, if_true, Option.map_some]
    · obtain ⟨N1, g1⟩ := h3 rfl
      have cls : ∀ s, CA T L s a → hv s 12 = V → ∃ t, f_X5_tellsLine n 12 s = some (1, t) ∧ CA T L t a1 ∧ hv t 12 = V1 ∧ frH s t := by
        intro s hs hv0
        obtain ⟨t, k1, k2, k3, k4⟩ := h4 s hs hv0
        exact ⟨t, k1, k2, k3 rfl, k4⟩
      have mod : ∀ m p, MP T L m p → skp T L p = a → rv (m 172) = V → ∃ t t2, f_X12_readLine n 1 (nN i) m = some (1, t) ∧ f_X12_blanks n t = some (0, t2) ∧ MP T L t2 a1 ∧ t2 171 12 = nN a1 ∧ rv (t2 172) = V1 ∧ frW m t2 := by
        intro m p hm hp hv0
        obtain ⟨t, p', k1, k2, k3, k4, k5⟩ := h5 m p hm hp hv0
        obtain ⟨t2, j1, j2, j3, j4⟩ := m_blanks hn k2
        rw [(k3 rfl).1] at j2 j3
        exact ⟨t, t2, rl_ok (ok := true) hi k1, j1, j2, j3, by rw [j4.1 172 (by omega)]; exact (k3 rfl).2, frW_trans k5 (frW_M j4)⟩
      by_cases over : L ≤ a1
      · have ea : a1 = L := by omega
        refine ⟨true, V1, a1, h1, fun _ => ⟨N1, g1⟩, ?_, ?_⟩
        · intro s σ0 n' hs hv0 hn'
          obtain ⟨m, rfl⟩ : ∃ m, n' = m + 1 := ⟨n' - 1, by omega⟩
          obtain ⟨t, k1, k2, k3, k4⟩ := cls s hs hv0
          have ho := c_over k2
          rw [decide_eq_true over] at ho
          rw [ei]
          refine ⟨t, itr_en ?_, fun _ => k3, no_c, k4⟩
          simp (disch := omega) only [L_X5_tells_21, l14, nN_le, hi3, if_false, k1, bnd_s, one_ne0, ho, bI_t, Option.map_some]
        · intro m σ0 p n' hm hp hv0 hn'
          obtain ⟨q, rfl⟩ : ∃ q, n' = q + 1 := ⟨n' - 1, by omega⟩
          obtain ⟨t, t2, k1, k2, k3, k4, k5, k6⟩ := mod m p hm hp hv0
          rw [ei]
          refine ⟨nN (i + 1), t2, itr_en ?_, fun _ => ⟨⟨i + 1, rfl, by omega⟩, k5⟩, no_c, k6⟩
          have e10 : t2 171 10 = t2 171 11 := by rw [k3.2.2.2.1, k3.2.1, ea]
          simp only [L_X12_readAll_28, k1, bnd_s, one_ne0, if_false, k2, e10, if_true, nN_s, Option.map_some]
      · have hne : (nN a1 = nN L) = False → True := fun _ => trivial
        cases hsg : sg T L 59 a1
        · refine ⟨false, V, a1, h1, no_c, ?_, ?_⟩
          · intro s σ0 n' hs hv0 hn'
            obtain ⟨m, rfl⟩ : ∃ m, n' = m + 1 := ⟨n' - 1, by omega⟩
            obtain ⟨t, k1, k2, k3, k4⟩ := cls s hs hv0
            have ho := c_over k2
            rw [decide_eq_false over] at ho
            obtain ⟨t2, j1, j2, j3⟩ := c_skipSign (c := 59) hn k2 (by unfold sgc; omega)
            rw [hsg] at j1 j2
            have j1' : f_X9_skipSign n 59 t = some (0, t2) := j1
            rw [ei]
            refine ⟨t2, itr_en ?_, no_c, fun _ => j2.2.1, frH_trans k4 (frH_C j3)⟩
            simp (disch := omega) only [L_X5_tells_21, l14, nN_le, hi3, if_false, k1, bnd_s, one_ne0, ho, bI_f, if_true, j1', Option.map_some]
          · intro m σ0 p n' hm hp hv0 hn'
            obtain ⟨q, rfl⟩ : ∃ q, n' = q + 1 := ⟨n' - 1, by omega⟩
            obtain ⟨t, t2, k1, k2, k3, k4, k5, k6⟩ := mod m p hm hp hv0
            have hL := k3.1
            have hat := m_isAt (lo := 59) (hi := 59) k3 (by omega) (by omega)
            have hd : decide (a1 < L ∧ 59 ≤ T a1 ∧ T a1 ≤ 59) = false := by
              apply decide_eq_false
              intro h
              have : sg T L 59 a1 = true := decide_eq_true ⟨h.1, by omega⟩
              rw [this] at hsg; cases hsg
            rw [hd] at hat
            have hat' : f_X12_isAt 59 59 t2 = some (bI false) := hat
            rw [ei]
            refine ⟨-1, t2, itr_en ?_, no_c, fun _ => ⟨rfl, k4⟩, k6⟩
            have e10 : (t2 171 10 = t2 171 11) = False := by rw [k3.2.2.2.1, k3.2.1]; exact nN_eqf (by omega) (by omega) (by omega)
            simp only [L_X12_readAll_28, k1, bnd_s, one_ne0, if_false, k2, e10, hat', bI_f, if_true, Option.map_some]
        · have hkd := sg_kd (c := 59) (by unfold sgc; omega) hsg
          have hnx : skp T L (a1 + 1) = nx T L a1 := by unfold nx; rw [hkd.2.2.2]
          obtain ⟨ok2, V2, a2, i1, i2, i3, i4⟩ := ih (by omega) V1 (nx T L a1) N1 g1 (nx_le h1) (nx_sk a1)
          refine ⟨ok2, V2, a2, i1, i2, ?_, ?_⟩
          · intro s σ0 n' hs hv0 hn'
            obtain ⟨m, rfl⟩ : ∃ m, n' = m + 1 := ⟨n' - 1, by omega⟩
            obtain ⟨t, k1, k2, k3, k4⟩ := cls s hs hv0
            have ho := c_over k2
            rw [decide_eq_false over] at ho
            obtain ⟨t2, j1, j2, j3⟩ := c_skipSign (c := 59) hn k2 (by unfold sgc; omega)
            rw [hsg] at j1 j2
            rw [if_pos rfl] at j2
            have j1' : f_X9_skipSign n 59 t = some (1, t2) := j1
            obtain ⟨t3, r1, r2, r3, r4⟩ := i3 t2 σ0 m j2 (by rw [hv12 j3]; exact k3) (by omega)
            rw [ei]
            refine ⟨t3, ?_, r2, r3, frH_trans k4 (frH_trans (frH_C j3) r4)⟩
            rw [itr_st (a' := (nN (14 - k), t2))]
            · exact r1
            · simp (disch := omega) only [L_X5_tells_21, l14, nN_le, hi3, if_false, k1, bnd_s, one_ne0, ho, bI_f, if_true, j1', nN_s, hi2]
          · intro m σ0 p n' hm hp hv0 hn'
            obtain ⟨q, rfl⟩ : ∃ q, n' = q + 1 := ⟨n' - 1, by omega⟩
            obtain ⟨t, t2, k1, k2, k3, k4, k5, k6⟩ := mod m p hm hp hv0
            have hL := k3.1
            have hat := m_isAt (lo := 59) (hi := 59) k3 (by omega) (by omega)
            have hd : decide (a1 < L ∧ 59 ≤ T a1 ∧ T a1 ≤ 59) = true := decide_eq_true ⟨hkd.2.1, by omega, by omega⟩
            rw [hd] at hat
            have hat' : f_X12_isAt 59 59 t2 = some (bI true) := hat
            have e10 : (nN a1 = t2 171 11) = False := by rw [k3.2.1]; exact nN_eqf (by omega) (by omega) (by omega)
            obtain ⟨x, t3, r1, r2, r3, r4⟩ := i4 (mu t2 171 10 (nN (a1 + 1))) σ0 (a1 + 1) q (MP_10 k3 (by omega)) hnx (by rw [mu_row (by omega)]; exact k5) (by omega)
            rw [ei]
            refine ⟨x, t3, ?_, r2, r3, frW_trans k6 (frW_trans (frW_10 _ _) r4)⟩
            rw [itr_st (a' := (nN (14 - k), mu t2 171 10 (nN (a1 + 1))))]
            · exact r1
            · simp only [L_X12_readAll_28, k1, bnd_s, one_ne0, if_false, k2, e10, hat', bI_t, k3.2.2.2.1, nN_s, ltM_s, hi2]
/-- what reading leaves of the reference -/
def frR (m t : MS) : Prop := (∀ o, o ≠ 171 → o ≠ 172 → t o = m o) ∧ t 171 0 = 0 ∧ t 171 9 = 0 ∧ (∀ k, k ≠ 0 → k ≠ 9 → k ≠ 10 → k ≠ 11 → k ≠ 12 → k ≠ 16 → k ≠ 13 → t 171 k = m 171 k)
def usd (m : MS) : MS := mu (mu (mu (mu (mu m 171 0 0) 171 11 (m 171 9)) 171 9 0) 171 10 0) 171 16 0
theorem usd_k {m : MS} {k : Nat} : usd m 171 k = if k = 16 then 0 else if k = 10 then 0 else if k = 9 then 0 else if k = 11 then m 171 9 else if k = 0 then 0 else m 171 k := by
  unfold usd
  rw [mu_own, mu_own, mu_own, mu_own, mu_own]
theorem usd_o {m : MS} {o : Nat} (h : o ≠ 171) : usd m o = m o := by
  unfold usd
  rw [mu_row h, mu_row h, mu_row h, mu_row h, mu_row h]
theorem usd_MP {m : MS} (hL : L ≤ 400) (h9 : m 171 9 = nN L) (hT : ∀ i, i < L → T i < 256 ∧ m 177 i = sb (T i)) : MP T L (usd m) 0 :=
  ⟨hL, by rw [usd_k]; exact h9, fun i hi => by rw [usd_o (by omega)]; exact hT i hi, by rw [usd_k]; rfl, by omega⟩
theorem e_uses (m : MS) : (f_X12_uses m).bind (fun q1 => ltM (mu q1.2 171 16 (0 : Int32)) (fun s6 => some s6)) = some (usd m) := by
  have e : mu m 171 0 0 171 9 = m 171 9 := by rw [mu_own, if_neg (by omega)]
  simp only [f_X12_uses, ltM_s, bnd_s, e, usd]
theorem h_tells {n N : Nat} {V : HV} (hn : 6000 ≤ n) (hL : L ≤ 400) (g : GV V N) : ∃ ok V' a', a' ≤ L ∧ (ok = true → ∃ N', GV V' N') ∧
    (∀ s, TC T L s → hv s 12 = V → ∃ t, f_X5_tells n 12 s = some (bI ok, t) ∧ (ok = true → hv t 12 = V') ∧ (ok = false → t 1 2 = nN a') ∧ frH s t) ∧
    (∀ m, m 171 9 = nN L → (∀ i, i < L → T i < 256 ∧ m 177 i = sb (T i)) → rv (m 172) = V → ∃ x t, f_X12_readAll n 1 m = some (x, t) ∧ (ok = true → (∃ y, x = nN y ∧ y < 100) ∧ rv (t 172) = V') ∧ (ok = false → x = -1 ∧ t 171 12 = nN a') ∧ frR m t ∧ (∀ k, (k = 1 ∨ k = 2 ∨ k = 7 ∨ k = 8 ∨ 234 ≤ k) → t 172 k = m 172 k)) := by
  have hal : skp T L 0 ≤ L := (skp_is 0).2.1 (by omega)
  have has : skp T L (skp T L 0) = skp T L 0 := (skp_is 0).2.2
  have fin : ∀ m t : MS, frW (usd m) t → frR m t ∧ (∀ k, (k = 1 ∨ k = 2 ∨ k = 7 ∨ k = 8 ∨ 234 ≤ k) → t 172 k = m 172 k) := by
    intro m t h
    refine ⟨⟨fun o o1 o2 => by rw [h.1 o o1 o2, usd_o o1], by rw [h.2.1 0 (by omega) (by omega), usd_k]; rfl, by rw [h.2.1 9 (by omega) (by omega), usd_k]; rfl, fun k k1 k2 k3 k4 k5 k6 _ => ?_⟩, fun k hk => by rw [h.2.2 k hk, usd_o (by omega)]⟩
    rw [h.2.1 k k3 k5, usd_k, if_neg k6, if_neg k3, if_neg k2, if_neg k4, if_neg k1]
  have run : ∀ m : MS, m 171 9 = nN L → (∀ i, i < L → T i < 256 ∧ m 177 i = sb (T i)) → ∃ t, MP T L t (skp T L 0) ∧ frW (usd m) t ∧ t 172 = m 172 ∧ f_X12_readAll n 1 m = if L ≤ skp T L 0 then some (0, t) else itr (L_X12_readAll_28 n 1 m) n (0, t) := by
    intro m h9 hT
    obtain ⟨t, k1, k2, k3, k4⟩ := m_blanks hn (usd_MP hL h9 hT)
    refine ⟨t, k2, frW_M k4, by rw [k4.1 172 (by omega), usd_o (by omega)], ?_⟩
    have e := e_uses m
    unfold f_X12_readAll
    cases eu : f_X12_uses m with
    | none => rw [eu] at e; cases e
    | some q =>
      rw [eu, bnd_s, ltM_s] at e
      have e' := Option.some.inj e
      simp (disch := omega) only [bnd_s, ltM_s, e', k1, k2.2.2.2.1, k2.2.1, nN_eq]
      by_cases c : L ≤ skp T L 0
      · rw [if_pos c, if_pos (by omega)]
      · rw [if_neg c, if_neg (by omega)]
  by_cases over : L ≤ skp T L 0
  · refine ⟨true, V, 0, by omega, fun _ => ⟨N, g⟩, ?_, ?_⟩
    · intro s hs hv0
      obtain ⟨t, k1, k2, k3⟩ := c_begin hn hs
      have ho := c_over k2
      rw [decide_eq_true over] at ho
      refine ⟨t, ?_, fun _ => by rw [hv12 k3]; exact hv0, no_c, frH_C k3⟩
      simp only [f_X5_tells, k1, bnd_s, ho, bI_t, one_ne0, if_false]
    · intro m h9 hT hv0
      obtain ⟨t, k1, k2, k3, k4⟩ := run m h9 hT
      rw [if_pos over] at k4
      exact ⟨0, t, k4, fun _ => ⟨⟨0, rfl, by omega⟩, by rw [k3]; exact hv0⟩, no_c, fin m t k2⟩
  · obtain ⟨ok, V', a', h1, h2, h3, h4⟩ := h_all (T := T) (L := L) hn 14 (Nat.le_refl _) V (skp T L 0) N g hal has
    refine ⟨ok, V', a', h1, h2, ?_, ?_⟩
    · intro s hs hv0
      obtain ⟨t, k1, k2, k3⟩ := c_begin hn hs
      have ho := c_over k2
      rw [decide_eq_false over] at ho
      obtain ⟨t2, j1, j2, j3, j4⟩ := h3 t s n k2 (by rw [hv12 k3]; exact hv0) (by omega)
      refine ⟨t2, ?_, j2, j3, frH_trans (frH_C k3) j4⟩
      simp only [f_X5_tells, k1, bnd_s, ho, bI_f, if_true]
      exact j1
    · intro m h9 hT hv0
      obtain ⟨t, k1, k2, k3, k4⟩ := run m h9 hT
      rw [if_neg over] at k4
      obtain ⟨x, t2, j1, j2, j3, j4⟩ := h4 t m _ n k1 has (by rw [k3]; exact hv0) (by omega)
      have j1' : itr (L_X12_readAll_28 n 1 m) n (0, t) = some (x, t2) := j1
      exact ⟨x, t2, by rw [k4, j1'], j2, j3, fin m t2 (frW_trans k2 j4)⟩
end
/-- a text that is refused: nothing of what counts has changed but tape and fault -/
theorem Inv_fail {j : Nat} {σ υ : MS} (hI : Inv j σ) (h1 : ∀ o, es o = true → o ≠ 0 → o ≠ 2 → o ≠ 172 → o ≠ 177 → υ o = σ o) (h2 : ∀ k, k < 1323 → υ 172 k = σ 172 k) (h0 : ∀ k, k ≠ 18 → υ 0 k = σ 0 k) (t1 : υ 1 1 = 0) (t2 : υ 171 9 = 0) (h6 : υ 171 6 = σ 171 6) (h7 : υ 171 7 = σ 171 7) (h14 : υ 0 18 = υ 171 14) : Inv (j + 1) υ := by
  obtain ⟨i1, i2, i3, ⟨a, c, k1, k2, k3, k4, k5, k6⟩, -, -⟩ := hI
  have v176 : υ 176 = σ 176 := h1 176 (es_t (by omega)) (by omega) (by omega) (by omega) (by omega)
  refine ⟨?_, ?_, ?_, ⟨a, c, k1, k2, by rw [h0 15 (by omega)]; exact k3, by rw [h0 16 (by omega)]; exact k4, by rw [h7]; exact k5, ?_⟩, ⟨0, by omega, t1, t2, fun i hi => by omega⟩, h14⟩
  · exact HR_mono (HR_same i1 (fun k hk => h1 (3 + k) (es_t (by omega)) (by omega) (by omega) (by omega) (by omega)) (fun k hk => h2 k (by omega))) (by omega)
  · exact LWR_same i2 (fun k hk => h1 (30 + k) (es_t (by omega)) (by omega) (by omega) (by omega) (by omega)) (fun k hk _ => h2 k hk)
  · rw [h0 17 (by omega), h6, h1 173 (es_t (by omega)) (by omega) (by omega) (by omega) (by omega)]
    rcases i3 with h | ⟨p1, p2, p3, p4⟩
    · exact Or.inl h
    · exact Or.inr ⟨p1, p2, HR_mono (HR_same p3 (fun k hk => h1 (21 + k) (es_t (by omega)) (by omega) (by omega) (by omega) (by omega)) (fun _ _ => rfl)) (by omega), LWR_same p4 (fun k hk => h1 (44 + k) (es_t (by omega)) (by omega) (by omega) (by omega) (by omega)) (fun _ _ _ => rfl)⟩
  · intro i hi
    have hm := Nat.mod_lt (a + i) (show 0 < 12 by omega)
    rw [v176, h2 2 (by omega)]
    exact ⟨HR_mono (HR_same (k6 i hi).1 (fun k hk => h1 (63 + 9 * ((a + i) % 12) + k) (es_t (by omega)) (by omega) (by omega) (by omega) (by omega)) (fun _ _ => rfl)) (by omega), (k6 i hi).2⟩
/-- a text that is taken: what was done is forgotten, the tape is empty -/
theorem Inv_text {j : Nat} {σ υ : MS} (hI : Inv j σ) (hH : HR (rows υ 3) (υ 172) (3840 * j)) (hW : LWR (rows υ 30) (υ 172)) (h1 : ∀ o, 21 ≤ o → o ≤ 29 → υ o = σ o) (h2 : ∀ o, 44 ≤ o → o ≤ 48 → υ o = σ o) (h3 : υ 173 = σ 173) (h15 : υ 0 15 = σ 0 15) (h16 : υ 0 16 = 0) (h17 : υ 0 17 = σ 0 17) (t1 : υ 1 1 = 0) (t2 : υ 171 9 = 0) (h6 : υ 171 6 = σ 171 6) (h7 : υ 171 7 = 0) (h14 : υ 0 18 = υ 171 14) : Inv (j + 1) υ := by
  obtain ⟨-, -, i3, ⟨a, c, k1, k2, k3, -, -, -⟩, -, -⟩ := hI
  refine ⟨HR_mono hH (by omega), hW, ?_, ⟨a, 0, k1, by omega, by rw [h15]; exact k3, h16, h7, fun i hi => by omega⟩, ⟨0, by omega, t1, t2, fun i hi => by omega⟩, h14⟩
  rw [h17, h6, h3]
  rcases i3 with h | ⟨p1, p2, p3, p4⟩
  · exact Or.inl h
  · exact Or.inr ⟨p1, p2, HR_mono (HR_same p3 (fun k hk => h1 (21 + k) (by omega) (by omega)) (fun _ _ => rfl)) (by omega), LWR_same p4 (fun k hk => h2 (44 + k) (by omega) (by omega)) (fun _ _ _ => rfl)⟩
