/-! layer 2: the law's text, all of it -/
section
variable {T : Nat → Nat} {L : Nat}
theorem rl_law {n i : Nat} {m t : MS} {ok : Bool} (hi : i < 12) (h : (f_X12_letters n m).bind (fun q => f_X12_readLawLine n (nN i) q.2) = some (bI ok, t)) : f_X12_readLine n 0 (nN i) m = some (bI ok, t) := by
  cases e : f_X12_letters n m with
  | none => rw [e] at h; cases h
  | some q =>
    rw [e, bnd_s] at h
    have c : ¬ (12 : Nat) ≤ i := by omega
    simp (disch := omega) only [f_X12_readLine, J_X12_readLine_16, J_X12_readLine_45, J_X12_readLine_46, J_X12_readLine_41, e, bnd_s, if_true, if_false, l12, nN_le, c, h, ok_0, ok_1, true_or, or_true]
    cases ok <;> rfl
def LawC (T : Nat → Nat) (L n a i k : Nat) (st kf af : Nat → Nat) (E : List (Nat × Nat)) (ok : Bool) (i' : Nat) (st' kf' af' : Nat → Nat) (E' : List (Nat × Nat)) (a' : Nat) : Prop :=
  ∀ (s σ0 : MS) (n' : Nat), CA T L s a → CC E s → CLn i st kf af s → k < n' → ∃ t, itr (L_X7_tells_25 n 37 σ0) n' (nN i, s) = some (bI ok, t) ∧ (ok = true → CC E' t ∧ CLn i' st' kf' af' t) ∧ (ok = false → t 1 2 = nN a') ∧ frQ s t
def LawM (T : Nat → Nat) (L n a i k : Nat) (st kf af : Nat → Nat) (E : List (Nat × Nat)) (ok : Bool) (i' : Nat) (st' kf' af' : Nat → Nat) (E' : List (Nat × Nat)) (a' : Nat) : Prop :=
  ∀ (m σ0 : MS) (p n' : Nat), MP T L m p → skp T L p = a → CM E m → MLn i st kf af m → k < n' → ∃ x t, itr (L_X12_readAll_28 n 0 σ0) n' (nN i, m) = some (x, t) ∧ (ok = true → x = nN i' ∧ CM E' t ∧ MLn i' st' kf' af' t) ∧ (ok = false → x = -1 ∧ t 171 12 = nN a') ∧ frV m t
theorem l_all {n : Nat} (hn : 6000 ≤ n) (hL : L ≤ 400) : ∀ k i, i + k = 12 → ∀ (a : Nat) (st kf af : Nat → Nat) (E : List (Nat × Nat)), a ≤ L → skp T L a = a → E.length ≤ a → LI i st kf af E → ∃ ok i' st' kf' af' E' a', a' ≤ L ∧ (ok = true → LI i' st' kf' af' E' ∧ i' ≤ 12 ∧ E'.length ≤ 400) ∧ LawC T L n a i k st kf af E ok i' st' kf' af' E' a' ∧ LawM T L n a i k st kf af E ok i' st' kf' af' E' a' := by
  intro k
  induction k with
  | zero =>
    intro i hik a st kf af E ha hsk hE hI
    have hi : i = 12 := by omega
    subst hi
    refine ⟨false, 0, st, kf, af, E, a, ha, no_c, ?_, ?_⟩
    · intro s σ0 n' hs hc hq hn'
      obtain ⟨m, rfl⟩ : ∃ m, n' = m + 1 := ⟨n' - 1, by omega⟩
      refine ⟨s, itr_en ?_, no_c, fun _ => hs.2.1, frQ_refl s⟩
      simp (disch := omega) only [L_X7_tells_25, l12, nN_le, Nat.le_refl, if_true, Option.map_some, bI_f]
    · intro m σ0 p n' hm hp hcm hmq hn'
      obtain ⟨q, rfl⟩ : ∃ q, n' = q + 1 := ⟨n' - 1, by omega⟩
      obtain ⟨t, k1, k2, k3, k4⟩ := m_letters hn hm
      rw [hp] at k2 k3
      refine ⟨-1, t, itr_en ?_, no_c, fun _ => ⟨rfl, k3⟩, frV_M k4⟩
      simp (disch := omega) only [L_X12_readAll_28, f_X12_readLine, J_X12_readLine_16, J_X12_readLine_45, J_X12_readLine_46, k1, bnd_s, if_true, l12, nN_le, Nat.le_refl, ok_0, true_or, Option.map_some]
  | succ k ih =>
    intro i hik a st kf af E ha hsk hE hI
    have hi : i < 12 := by omega
    have hi3 : ¬ 12 ≤ i := by omega
    obtain ⟨ok, G, kk, am, a1, h1, h2, h4, h5⟩ := l_law (T := T) (L := L) (kf := kf) (af := af) hn hL ha hi hE hI.2.1
    cases ok
    · refine ⟨false, 0, st, kf, af, E, a1, h1, no_c, ?_, ?_⟩
      · intro s σ0 n' hs hc hq hn'
        obtain ⟨m, rfl⟩ : ∃ m, n' = m + 1 := ⟨n' - 1, by omega⟩
        obtain ⟨t, k1, -, k3, k4⟩ := h4 s hs hc hq
        refine ⟨t, itr_en ?_, no_c, k3, k4⟩
        simp (disch := omega) only [L_X7_tells_25, l12, nN_le, hi3, if_false, k1, bnd_s, bI_f, if_true, Option.map_some]
      · intro m σ0 p n' hm hp hcm hmq hn'
        obtain ⟨q, rfl⟩ : ∃ q, n' = q + 1 := ⟨n' - 1, by omega⟩
        obtain ⟨t, p', k1, -, k4, k5⟩ := h5 m p hm hp hcm hmq
        have k1' := rl_law hi k1
        refine ⟨-1, t, itr_en ?_, no_c, fun _ => ⟨rfl, k4 rfl⟩, k5⟩
        simp only [L_X12_readAll_28, k1', bnd_s, bI_f, if_true, Option.map_some]
    · obtain ⟨g1, g2, g3, g4, g5, g6, g7⟩ := h2 rfl
      have hI2 := LI_ext hI g2 g3 g4 g5
      have hlen : (E ++ G).length = E.length + G.length := List.length_append
      have cls : ∀ s, CA T L s a → CC E s → CLn i st kf af s → ∃ t, f_X7_tellsLine n 37 s = some (1, t) ∧ CA T L t a1 ∧ CC (E ++ G) t ∧ CLn (i + 1) (upN st (i + 1) (E ++ G).length) (upN kf i kk) (upN af i am) t ∧ frQ s t := by
        intro s hs hc hq
        obtain ⟨t, k1, k2, -, k4⟩ := h4 s hs hc hq
        exact ⟨t, k1, (k2 rfl).1, (k2 rfl).2.1, (k2 rfl).2.2, k4⟩
      have mod : ∀ m p, MP T L m p → skp T L p = a → CM E m → MLn i st kf af m → ∃ t t2, f_X12_readLine n 0 (nN i) m = some (1, t) ∧ f_X12_blanks n t = some (0, t2) ∧ MP T L t2 a1 ∧ t2 171 12 = nN a1 ∧ CM (E ++ G) t2 ∧ MLn (i + 1) (upN st (i + 1) (E ++ G).length) (upN kf i kk) (upN af i am) t2 ∧ frV m t2 := by
        intro m p hm hp hcm hmq
        obtain ⟨t, p', k1, k2, -, k5⟩ := h5 m p hm hp hcm hmq
        obtain ⟨z1, z2, z3, z4⟩ := k2 rfl
        obtain ⟨t2, j1, j2, j3, j4⟩ := m_blanks hn z1
        rw [z2] at j2 j3
        exact ⟨t, t2, rl_law (ok := true) hi k1, j1, j2, j3, CM_M z3 j4, MLn_N (by omega) z4 (frN_M j4), frV_trans k5 (frV_M j4)⟩
      by_cases over : L ≤ a1
      · have ea : a1 = L := by omega
        refine ⟨true, i + 1, _, _, _, E ++ G, a1, h1, fun _ => ⟨hI2, by omega, by omega⟩, ?_, ?_⟩
        · intro s σ0 n' hs hc hq hn'
          obtain ⟨m, rfl⟩ : ∃ m, n' = m + 1 := ⟨n' - 1, by omega⟩
          obtain ⟨t, k1, k2, k3, k4, k5⟩ := cls s hs hc hq
          have ho := c_over k2
          rw [decide_eq_true over] at ho
          refine ⟨t, itr_en ?_, fun _ => ⟨k3, k4⟩, no_c, k5⟩
          simp (disch := omega) only [L_X7_tells_25, l12, nN_le, hi3, if_false, k1, bnd_s, one_ne0, ho, bI_t, Option.map_some]
        · intro m σ0 p n' hm hp hcm hmq hn'
          obtain ⟨q, rfl⟩ : ∃ q, n' = q + 1 := ⟨n' - 1, by omega⟩
          obtain ⟨t, t2, k1, k2, k3, k4, k5, k6, k7⟩ := mod m p hm hp hcm hmq
          refine ⟨nN (i + 1), t2, itr_en ?_, fun _ => ⟨rfl, k5, k6⟩, no_c, k7⟩
          have e10 : t2 171 10 = t2 171 11 := by rw [k3.2.2.2.1, k3.2.1, ea]
          simp only [L_X12_readAll_28, k1, bnd_s, one_ne0, if_false, k2, e10, if_true, nN_s, Option.map_some]
      · cases hsg : sg T L 59 a1
        · refine ⟨false, 0, st, kf, af, E, a1, h1, no_c, ?_, ?_⟩
          · intro s σ0 n' hs hc hq hn'
            obtain ⟨m, rfl⟩ : ∃ m, n' = m + 1 := ⟨n' - 1, by omega⟩
            obtain ⟨t, k1, k2, k3, k4, k5⟩ := cls s hs hc hq
            have ho := c_over k2
            rw [decide_eq_false over] at ho
            obtain ⟨t2, j1, j2, j3⟩ := c_skipSign (c := 59) hn k2 (by unfold sgc; omega)
            rw [hsg] at j1 j2
            have j1' : f_X9_skipSign n 59 t = some (0, t2) := j1
            refine ⟨t2, itr_en ?_, no_c, fun _ => j2.2.1, frQ_trans k5 (frQ_C j3)⟩
            simp (disch := omega) only [L_X7_tells_25, l12, nN_le, hi3, if_false, k1, bnd_s, one_ne0, ho, bI_f, if_true, j1', Option.map_some]
          · intro m σ0 p n' hm hp hcm hmq hn'
            obtain ⟨q, rfl⟩ : ∃ q, n' = q + 1 := ⟨n' - 1, by omega⟩
            obtain ⟨t, t2, k1, k2, k3, k4, k5, k6, k7⟩ := mod m p hm hp hcm hmq
            have hat := m_isAt (lo := 59) (hi := 59) k3 (by omega) (by omega)
            have hd : decide (a1 < L ∧ 59 ≤ T a1 ∧ T a1 ≤ 59) = false := by
              apply decide_eq_false
              intro h
              have : sg T L 59 a1 = true := decide_eq_true ⟨h.1, by omega⟩
              rw [this] at hsg; cases hsg
            rw [hd] at hat
            have hat' : f_X12_isAt 59 59 t2 = some (bI false) := hat
            refine ⟨-1, t2, itr_en ?_, no_c, fun _ => ⟨rfl, k4⟩, k7⟩
            have e10 : (t2 171 10 = t2 171 11) = False := by rw [k3.2.2.2.1, k3.2.1]; exact nN_eqf (by omega) (by omega) (by omega)
            simp only [L_X12_readAll_28, k1, bnd_s, one_ne0, if_false, k2, e10, hat', bI_f, if_true, Option.map_some]
        · have hkd := sg_kd (c := 59) (by unfold sgc; omega) hsg
          have hnx : skp T L (a1 + 1) = nx T L a1 := by unfold nx; rw [hkd.2.2.2]
          have hgt := nx_gt (T := T) hkd.2.1
          obtain ⟨ok2, i2, st2, kf2, af2, E2, a2, y1, y2, y3, y4⟩ := ih (i + 1) (by omega) (nx T L a1) _ _ _ (E ++ G) (nx_le h1) (nx_sk a1) (by omega) hI2
          refine ⟨ok2, i2, st2, kf2, af2, E2, a2, y1, y2, ?_, ?_⟩
          · intro s σ0 n' hs hc hq hn'
            obtain ⟨m, rfl⟩ : ∃ m, n' = m + 1 := ⟨n' - 1, by omega⟩
            obtain ⟨t, k1, k2, k3, k4, k5⟩ := cls s hs hc hq
            have ho := c_over k2
            rw [decide_eq_false over] at ho
            obtain ⟨t2, j1, j2, j3⟩ := c_skipSign (c := 59) hn k2 (by unfold sgc; omega)
            rw [hsg] at j1 j2
            rw [if_pos rfl] at j2
            have j1' : f_X9_skipSign n 59 t = some (1, t2) := j1
            obtain ⟨t3, r1, r2, r3, r4⟩ := y3 t2 σ0 m j2 (CC_C k3 j3) (CLn_L k4 (frL_C j3)) (by omega)
            refine ⟨t3, ?_, r2, r3, frQ_trans k5 (frQ_trans (frQ_C j3) r4)⟩
            rw [itr_st (a' := (nN (i + 1), t2))]
            · exact r1
            · simp (disch := omega) only [L_X7_tells_25, l12, nN_le, hi3, if_false, k1, bnd_s, one_ne0, ho, bI_f, if_true, j1', nN_s]
          · intro m σ0 p n' hm hp hcm hmq hn'
            obtain ⟨q, rfl⟩ : ∃ q, n' = q + 1 := ⟨n' - 1, by omega⟩
            obtain ⟨t, t2, k1, k2, k3, k4, k5, k6, k7⟩ := mod m p hm hp hcm hmq
            have hat := m_isAt (lo := 59) (hi := 59) k3 (by omega) (by omega)
            have hd : decide (a1 < L ∧ 59 ≤ T a1 ∧ T a1 ≤ 59) = true := decide_eq_true ⟨hkd.2.1, by omega, by omega⟩
            rw [hd] at hat
            have hat' : f_X12_isAt 59 59 t2 = some (bI true) := hat
            have e10 : (nN a1 = t2 171 11) = False := by rw [k3.2.1]; exact nN_eqf (by omega) (by omega) (by omega)
            obtain ⟨x, t3, r1, r2, r3, r4⟩ := y4 (mu t2 171 10 (nN (a1 + 1))) σ0 (a1 + 1) q (MP_10 k3 (by omega)) hnx (CM_M k5 (frM_10 _ _)) (MLn_N (by omega) k6 (frN_M (frM_10 _ _))) (by omega)
            refine ⟨x, t3, ?_, r2, r3, frV_trans k7 (frV_trans (frV_M (frM_10 _ _)) r4)⟩
            rw [itr_st (a' := (nN (i + 1), mu t2 171 10 (nN (a1 + 1))))]
            · exact r1
            · simp only [L_X12_readAll_28, k1, bnd_s, one_ne0, if_false, k2, e10, hat', bI_t, k3.2.2.2.1, nN_s, ltM_s]
theorem LI_0 : LI 0 (fun _ => 0) (fun _ => 0) (fun _ => 0) [] := ⟨rfl, rfl, rngOK_0, fun l hl => by omega⟩
def bgn (s : MS) : MS := mu (mu s 37 0 0) 37 1 0
theorem l_tells {n : Nat} (hn : 6000 ≤ n) (hL : L ≤ 400) : ∃ ok i' st' kf' af' E' a', a' ≤ L ∧ (ok = true → LI i' st' kf' af' E' ∧ i' ≤ 12 ∧ E'.length ≤ 400) ∧
    (∀ s, TC T L s → ∃ t, f_X7_tells n 37 s = some (bI ok, t) ∧ (ok = true → CC E' t ∧ CLn i' st' kf' af' t) ∧ (ok = false → t 1 2 = nN a') ∧ frQ s t) ∧
    (∀ m, m 171 9 = nN L → (∀ i, i < L → T i < 256 ∧ m 177 i = sb (T i)) → ∃ x t, f_X12_readAll n 0 m = some (x, t) ∧ (ok = true → x = nN i' ∧ CM E' t ∧ MLn i' st' kf' af' t) ∧ (ok = false → x = -1 ∧ t 171 12 = nN a') ∧ frR m t ∧ (∀ k, k < 1324 → t 172 k = m 172 k)) := by
  have hal : skp T L 0 ≤ L := (skp_is 0).2.1 (by omega)
  have has : skp T L (skp T L 0) = skp T L 0 := (skp_is 0).2.2
  have fin : ∀ m t : MS, frV (usd m) t → frR m t ∧ (∀ k, k < 1324 → t 172 k = m 172 k) := by
    intro m t h
    refine ⟨⟨fun o o1 o2 => by rw [h.1 o o1 o2, usd_o o1], by rw [h.2.1 0 (by omega) (by omega) (by omega) (by omega), usd_k]; rfl, by rw [h.2.1 9 (by omega) (by omega) (by omega) (by omega), usd_k]; rfl, fun k k1 k2 k3 k4 k5 k6 k7 => ?_⟩, fun k hk => by rw [h.2.2 k hk, usd_o (by omega)]⟩
    rw [h.2.1 k k3 k5 k7 k6, usd_k, if_neg k6, if_neg k3, if_neg k2, if_neg k4, if_neg k1]
  have run : ∀ m : MS, m 171 9 = nN L → (∀ i, i < L → T i < 256 ∧ m 177 i = sb (T i)) → ∃ t, MP T L t (skp T L 0) ∧ frM (usd m) t ∧ CM [] t ∧ f_X12_readAll n 0 m = if L ≤ skp T L 0 then some (0, t) else itr (L_X12_readAll_28 n 0 m) n (0, t) := by
    intro m h9 hT
    obtain ⟨t, k1, k2, k3, k4⟩ := m_blanks hn (usd_MP hL h9 hT)
    refine ⟨t, k2, k4, ⟨by rw [k4.2 16 (by omega) (by omega), usd_k]; rfl, fun i hi => by cases hi⟩, ?_⟩
    have e := e_uses m
    unfold f_X12_readAll
    cases eu : f_X12_uses m with
    | none => rw [eu] at e; cases e
    | some q =>
      rw [eu, bnd_s, ltM_s] at e
      have e' := Option.some.inj e
      simp (disch := omega) only [bnd_s, ltM_s, e', k1, k2.2.2.2.1, k2.2.1, nN_eq]
      by_cases c : L ≤ skp T L 0
      · rw [if_pos c, if_pos (by omega)]
      · rw [if_neg c, if_neg (by omega)]
  have beg : ∀ s, TC T L s → ∃ t, f_X6_begin 37 s = some (0, bgn s) ∧ f_X9_begin n (bgn s) = some (0, t) ∧ CA T L t (skp T L 0) ∧ CC [] t ∧ CLn 0 (fun _ => 0) (fun _ => 0) (fun _ => 0) t ∧ frQ s t := by
    intro s hs
    have e0 : f_X6_begin 37 s = some (0, bgn s) := by simp only [f_X6_begin, ltM_s, bgn]
    have hb : ∀ o, o ≠ 37 → bgn s o = s o := fun o ho => by unfold bgn; rw [mu_row ho, mu_row ho]
    obtain ⟨t, k1, k2, k3⟩ := c_begin hn (TC_same hs (t := bgn s) (by rw [hb 1 (by omega)]) (hb 2 (by omega)))
    refine ⟨t, e0, k1, k2, ⟨?_, fun i hi => by cases hi⟩, ⟨?_, fun i hi => by omega⟩, ⟨fun o o1 o2 => by rw [k3.1 o o1, hb o (by omega)], by rw [k3.2, hb 1 (by omega)]⟩⟩
    · rw [k3.1 37 (by omega)]
      unfold bgn
      rw [mu_own, if_pos rfl]; rfl
    · rw [k3.1 37 (by omega)]
      unfold bgn
      rw [mu_own, if_neg (by omega), mu_own, if_pos rfl]; rfl
  by_cases over : L ≤ skp T L 0
  · refine ⟨true, 0, fun _ => 0, fun _ => 0, fun _ => 0, [], 0, by omega, fun _ => ⟨LI_0, by omega, by show 0 ≤ 400; omega⟩, ?_, ?_⟩
    · intro s hs
      obtain ⟨t, k0, k1, k2, k3, k4, k5⟩ := beg s hs
      have ho := c_over k2
      rw [decide_eq_true over] at ho
      refine ⟨t, ?_, fun _ => ⟨k3, k4⟩, no_c, k5⟩
      simp only [f_X7_tells, k0, k1, bnd_s, ho, bI_t, one_ne0, if_false]
    · intro m h9 hT
      obtain ⟨t, k1, k2, k3, k4⟩ := run m h9 hT
      rw [if_pos over] at k4
      exact ⟨0, t, k4, fun _ => ⟨rfl, k3, fun l hl => by omega⟩, no_c, fin m t (frV_M k2)⟩
  · obtain ⟨ok, i', st', kf', af', E', a', h1, h2, h3, h4⟩ := l_all (T := T) (L := L) hn hL 12 0 (by omega) (skp T L 0) (fun _ => 0) (fun _ => 0) (fun _ => 0) [] hal has (by show 0 ≤ _; omega) LI_0
    refine ⟨ok, i', st', kf', af', E', a', h1, h2, ?_, ?_⟩
    · intro s hs
      obtain ⟨t, k0, k1, k2, k3, k4, k5⟩ := beg s hs
      have ho := c_over k2
      rw [decide_eq_false over] at ho
      obtain ⟨t2, j1, j2, j3, j4⟩ := h3 t s n k2 k3 k4 (by omega)
      refine ⟨t2, ?_, j2, j3, frQ_trans k5 j4⟩
      simp only [f_X7_tells, k0, k1, bnd_s, ho, bI_f, if_true]
      exact j1
    · intro m h9 hT
      obtain ⟨t, k1, k2, k3, k4⟩ := run m h9 hT
      rw [if_neg over] at k4
      obtain ⟨x, t2, j1, j2, j3, j4⟩ := h4 t m _ n k1 has k3 (fun l hl => by omega) (by omega)
      have j1' : itr (L_X12_readAll_28 n 0 m) n (0, t) = some (x, t2) := j1
      exact ⟨x, t2, by rw [k4, j1'], j2, j3, fin m t2 (frV_trans (frV_M k2) j4)⟩
end
theorem tyc_tyl {E : List (Nat × Nat)} : ∀ m s ts, s + m ≤ E.length → tyc (fun i => (gd E i).1) s m ts = tyl ((E.drop s).take m) ts := by
  intro m
  induction m with
  | zero => intro s ts _; rw [List.take_zero]; rfl
  | succ m ih =>
    intro s ts h
    have hs : s < E.length := by omega
    have e : (E.drop s).take (m + 1) = gd E s :: (E.drop (s + 1)).take m := by
      rw [List.drop_eq_getElem_cons hs, List.take_succ_cons]
      congr 1
      unfold gd
      rw [List.getD_eq_getElem?_getD, List.getElem?_eq_getElem hs]
      rfl
    rw [e]
    show (ty1 (gd E s).1 ts).bind (fun ts' => if ts'.length ≤ 30 then tyc (fun i => (gd E i).1) (s + 1) m ts' else none) = (ty1 (gd E s).1 ts).bind (fun ts' => if ts'.length ≤ 30 then tyl ((E.drop (s + 1)).take m) ts' else none)
    congr 1
    funext ts'
    rw [ih (s + 1) ts' (by omega)]
theorem dr_fold {σ : MS} : ∀ N, N ≤ 849 → fR N (fun i s => mu s 172 (474 + i) (s 172 (1323 + i))) σ = rsw σ 172 (fun k => if 474 ≤ k ∧ k < 474 + N then σ 172 (1323 + (k - 474)) else σ 172 k) := by
  intro N
  induction N with
  | zero =>
    intro _
    funext a k
    rw [fR_0]
    unfold rsw
    by_cases c : a = 172
    · rw [if_pos c, if_neg (by omega), c]
    · rw [if_neg c]
  | succ N ih =>
    intro hN
    rw [fR_s, ih (by omega)]
    funext a k
    by_cases c : a = 172
    · subst c
      rw [mu_own, rsw_own, rsw_own]
      by_cases d : k = 474 + N
      · rw [if_pos d, if_neg (by omega), if_pos (by omega), show 1323 + (k - 474) = 1323 + N by omega]
      · rw [if_neg d]
        by_cases e : 474 ≤ k ∧ k < 474 + N
        · rw [if_pos e, if_pos (by omega)]
        · rw [if_neg e, if_neg (by omega)]
    · rw [mu_row c, rsw_row c, rsw_row c]
def drf (s : MS) : MS := rsw s 172 (fun k => if 474 ≤ k ∧ k < 1323 then s 172 (849 + k) else s 172 k)
theorem e_law52 {n : Nat} {v : Int32} (s σ0 : MS) (hn : 6000 ≤ n) : itr (L_X12_law_52 n v σ0) n (0, s) = some (v, mu (mu (drf s) 172 2 1) 171 7 0) := by
  have e : drf s = fR 849 (fun i s => mu s 172 (474 + i) (s 172 (1323 + i))) s := by
    have hf : (fun k => if 474 ≤ k ∧ k < 1323 then s 172 (849 + k) else s 172 k) = (fun k => if 474 ≤ k ∧ k < 474 + 849 then s 172 (1323 + (k - 474)) else s 172 k) := by
      funext k
      by_cases c : 474 ≤ k ∧ k < 1323
      · rw [if_pos c, if_pos (by omega), show 1323 + (k - 474) = 849 + k by omega]
      · rw [if_neg c, if_neg (by omega)]
    rw [dr_fold 849 (by omega)]
    unfold drf
    rw [hf]
  have e849 : (849 : Int32) = nN 849 := rfl
  rw [e]
  refine itr_0 (fun (s : MS) i => (i, s)) 849 (fun i s => mu s 172 (474 + i) (s 172 (1323 + i))) (fun s => (v, mu (mu s 172 2 1) 171 7 0)) (by omega) s ?_ ?_
  · intro i s hi
    have f1 : (1323 : Int32) + nN i = nN (1323 + i) := nN_add 1323 i
    have f2 : (474 : Int32) + nN i = nN (474 + i) := nN_add 474 i
    simp (disch := omega) only [L_X12_law_52, e849, f1, f2, le_f, le_t, lt_f, lt_t, if_false, if_true, bnd_s, ite_bI, ok_bI, ok_0, ok_1, ltM_s, nN_s, Option.map_some, inb_nN, ix_nN, it_t, it_f, true_or, or_true]
  · intro s
    simp (disch := omega) only [L_X12_law_52, e849, le_f, le_t, lt_f, lt_t, if_false, if_true, bnd_s, ite_bI, ok_bI, ok_0, ok_1, ltM_s, nN_s, Option.map_some, inb_nN, ix_nN, it_t, it_f, true_or, or_true]
theorem rv_congr2 {r r' : Nat → Int32} (h : ∀ j, j < 234 → j ≠ 2 → r j = r' j) : rv r = rv r' := by
  funext k i
  unfold rv
  by_cases hr : i < rng k
  · rw [if_pos hr, if_pos hr, h _ (trw_lt hr) (trw_ne2 hr).1]
  · rw [if_neg hr, if_neg hr]
theorem s_3 {j n : Nat} {σ : MS} {x1 x2 x3 x4 x5 : Int32} (hn : 6000 ≤ n) (hI : Inv j σ) : ∃ τ, step_3 n x1 x2 x3 x4 x5 σ = some τ ∧ Inv (j + 1) τ := by
  have hI' := hI
  obtain ⟨i1, i2, i3, ⟨pa, pc, k1, k2, k3, k4, k5, k6⟩, ⟨L, m1, m2, m3, m4⟩, i6⟩ := hI
  have hT : ∀ i, i < L → ix (σ 2 i) < 256 ∧ σ 2 i = nN (ix (σ 2 i)) ∧ σ 177 i = sb (ix (σ 2 i)) := by
    intro i hi
    obtain ⟨b, b1, b2, b3⟩ := m4 i hi
    rw [b2, ix_nN (by omega)]
    exact ⟨b1, rfl, b3⟩
  obtain ⟨ok, i', st', kf', af', E', a', h1, h2, h3, h4⟩ := l_tells (T := fun i => ix (σ 2 i)) (L := L) hn m1
  have tc : TC (fun i => ix (σ 2 i)) L σ := ⟨m1, m2, fun i hi => ⟨(hT i hi).1, (hT i hi).2.1⟩⟩
  obtain ⟨t, c1, c2, c3, c4⟩ := h3 σ tc
  have mod : ∀ m : MS, m 171 9 = nN L → m 177 = σ 177 → ∃ x t, f_X12_readAll n 0 m = some (x, t) ∧ (ok = true → x = nN i' ∧ CM E' t ∧ MLn i' st' kf' af' t) ∧ (ok = false → x = -1 ∧ t 171 12 = nN a') ∧ frR m t ∧ (∀ k, k < 1324 → t 172 k = m 172 k) := by
    intro m e1 e2
    exact h4 m e1 (fun i hi => by rw [e2]; exact ⟨(hT i hi).1, (hT i hi).2.2⟩)
  unfold step_3
  cases ok
  · -- refused
    have c3' := c3 rfl
    have ecls : f_L_law n σ = some (1, mu (mu t 0 18 (nN a')) 1 1 0) := by
      simp only [f_L_law, f_X11_law, c1, bnd_s, bI_f, f_X11_textWasRead, J_X11_textWasRead_16, if_true, c3', ltM_s, thn_r]
    generalize hu : mu (mu t 0 18 (nN a')) 1 1 0 = u at *
    have uo : ∀ o, o ≠ 0 → o ≠ 1 → (o < 37 ∨ 41 < o) → u o = σ o := fun o n1 n2 n3 => by rw [← hu, mu_row n2, mu_row n1, c4.1 o n2 n3]
    obtain ⟨x, t2, r1, -, r3, r4, r5⟩ := mod u (by rw [uo 171 (by omega) (by omega) (by omega)]; exact m3) (uo 177 (by omega) (by omega) (by omega))
    obtain ⟨rx, ra⟩ := r3 rfl
    subst rx
    generalize hυ : mu (mu t2 171 14 (nN a')) 171 0 1 = υ
    have emod : f_X12_law n u = some (0, υ) := by
      have h0 : f_X12_throwsIf 1 1 (mu t2 171 14 (nN a')) = some (1, υ) := by rw [← hυ]; exact e_X12_throwsIf (σ := mu t2 171 14 (nN a')) true 1
      simp only [f_X12_law, J_X12_law_19, J_X12_law_32, r1, bnd_s, m1_0le, if_false, ra, ltM_s, h0, one_ne0]
    have vo : ∀ o, o ≠ 171 → o ≠ 172 → υ o = u o := fun o n4 n5 => by rw [← hυ, mu_row n4, mu_row n4, r4.1 o n4 n5]
    have v171 : ∀ k, k ≠ 14 → k ≠ 0 → υ 171 k = t2 171 k := fun k n1 n2 => by rw [← hυ, mu_own, if_neg n2, mu_own, if_neg n1]
    have u171 : u 171 = σ 171 := uo 171 (by omega) (by omega) (by omega)
    rw [ecls, bnd_s, emod, bnd_s]
    refine ⟨υ, cmp_ok ?_ (fun h => by rw [one_ne0] at h; exact h.elim), Inv_fail hI' ?_ ?_ ?_ ?_ ?_ ?_ ?_ ?_⟩
    · show υ 171 0 = 1
      rw [← hυ, mu_own, if_pos rfl]
    · intro o ho n0 n2 n172 n177
      have h37 : o < 37 ∨ 41 < o := by
        have := of_decide_eq_true ho
        omega
      rw [vo o (es_n ho (by decide)) n172, uo o n0 (es_n ho (by decide)) h37]
    · intro k hk
      rw [← hυ, mu_row (by omega), mu_row (by omega), r5 k (by omega), uo 172 (by omega) (by omega) (by omega)]
    · intro k hk
      rw [vo 0 (by omega) (by omega), ← hu, mu_row (by omega), mu_own, if_neg hk, c4.1 0 (by omega) (by omega)]
    · rw [vo 1 (by omega) (by omega), ← hu, mu_own, if_pos rfl]
    · rw [v171 9 (by omega) (by omega)]; exact r4.2.2.1
    · rw [v171 6 (by omega) (by omega), r4.2.2.2 6 (by omega) (by omega) (by omega) (by omega) (by omega) (by omega) (by omega), u171]
    · rw [v171 7 (by omega) (by omega), r4.2.2.2 7 (by omega) (by omega) (by omega) (by omega) (by omega) (by omega) (by omega), u171]
    · have e1 : υ 171 14 = nN a' := by rw [← hυ, mu_own, if_neg (by omega), mu_own, if_pos rfl]
      rw [vo 0 (by omega) (by omega), e1, ← hu, mu_row (by omega), mu_own, if_pos rfl]
  · -- taken
    obtain ⟨hLI, hi12, hE4⟩ := h2 rfl
    obtain ⟨c2', c2''⟩ := c2 rfl
    generalize hu : mu (mu t 0 18 (-1)) 1 1 0 = u
    have uo : ∀ o, o ≠ 0 → o ≠ 1 → (o < 37 ∨ 41 < o) → u o = σ o := fun o n1 n2 n3 => by rw [← hu, mu_row n2, mu_row n1, c4.1 o n2 n3]
    have ut : ∀ o, o ≠ 0 → o ≠ 1 → u o = t o := fun o n1 n2 => by rw [← hu, mu_row n2, mu_row n1]
    have etw : f_X11_textWasRead 1 t = some (0, u) := by
      simp only [f_X11_textWasRead, J_X11_textWasRead_16, one_ne0, if_false, ltM_s, hu]
    obtain ⟨τ3, d1, d2⟩ := e_lbecome u (h0 := 30) (h1 := 37) (by omega)
    have t30 : τ3 30 0 = nN i' := by
      rw [d2.1, ut 37 (by omega) (by omega)]; exact c2''.1
    generalize hw : mu (mu τ3 0 16 0) 183 0 (nN i') = w
    have ecls : f_L_law n σ = some (0, w) := by
      have e30 : mu τ3 0 16 0 30 0 = nN i' := by rw [mu_row (by omega)]; exact t30
      simp only [f_L_law, f_X11_law, c1, bnd_s, bI_t, etw, one_ne0, if_false, d1, ltM_s, thn_l, e30, hw]
    have wo : ∀ o, o ≠ 0 → o ≠ 1 → o ≠ 183 → (o < 30 ∨ (34 < o ∧ o < 37) ∨ 41 < o) → w o = σ o := fun o n1 n2 n3 n4 => by rw [← hw, mu_row n3, mu_row n1, d2.2.2.2 o (by omega), uo o n1 n2 (by omega)]
    obtain ⟨x, t2, r1, r2, -, r4, r5⟩ := mod w (by rw [wo 171 (by omega) (by omega) (by omega) (by omega)]; exact m3) (wo 177 (by omega) (by omega) (by omega) (by omega))
    obtain ⟨rx, rc, rm⟩ := r2 rfl
    subst rx
    generalize hz : mu (mu t2 171 14 (-1)) 172 1323 (nN i') = z
    generalize hυ : mu (mu (drf z) 172 2 1) 171 7 0 = υ
    have emod : f_X12_law n w = some (nN i', υ) := by
      have h0 : f_X12_throwsIf 0 1 (mu t2 171 14 (-1)) = some (0, mu t2 171 14 (-1)) := e_X12_throwsIf (σ := mu t2 171 14 (-1)) false 1
      simp (disch := omega) only [f_X12_law, J_X12_law_19, J_X12_law_32, r1, bnd_s, nN_0le, if_true, ltM_s, h0, hz, e_law52 _ _ hn, hυ]
    have w172 : w 172 = σ 172 := wo 172 (by omega) (by omega) (by omega) (by omega)
    have u171 : w 171 = σ 171 := wo 171 (by omega) (by omega) (by omega) (by omega)
    have zo : ∀ o, o ≠ 171 → o ≠ 172 → z o = w o := fun o n1 n2 => by rw [← hz, mu_row n2, mu_row n1, r4.1 o n1 n2]
    have z172 : ∀ k, k ≠ 1323 → z 172 k = t2 172 k := fun k hk => by rw [← hz, mu_own, if_neg hk, mu_row (by omega)]
    have z1323 : z 172 1323 = nN i' := by rw [← hz, mu_own, if_pos rfl]
    have vo : ∀ o, o ≠ 171 → o ≠ 172 → υ o = w o := fun o n1 n2 => by
      rw [← hυ, mu_row n1, mu_row n2]
      unfold drf
      rw [rsw_row n2, zo o n1 n2]
    have v171 : ∀ k, k ≠ 14 → k ≠ 7 → υ 171 k = t2 171 k := fun k n1 n2 => by
      rw [← hυ, mu_own, if_neg n2, mu_row (by omega)]
      unfold drf
      rw [rsw_row (by omega), ← hz, mu_row (by omega), mu_own, if_neg n1]
    have vlo : ∀ k, k < 474 → k ≠ 2 → υ 172 k = σ 172 k := fun k n1 n2 => by
      rw [← hυ, mu_row (by omega), mu_own, if_neg n2]
      unfold drf
      rw [rsw_own, if_neg (by omega), z172 k (by omega), r5 k (by omega), w172]
    have v2 : υ 172 2 = 1 := by rw [← hυ, mu_row (by omega), mu_own, if_pos rfl]
    have vhi : ∀ k, 474 ≤ k → k < 1323 → υ 172 k = z 172 (849 + k) := fun k n1 n2 => by
      rw [← hυ, mu_row (by omega), mu_own, if_neg (by omega)]
      unfold drf
      rw [rsw_own, if_pos ⟨n1, n2⟩]
    have v30 : ∀ o, 30 ≤ o → o ≤ 34 → υ o = τ3 o := fun o n1 n2 => by rw [vo o (by omega) (by omega), ← hw, mu_row (by omega), mu_row (by omega)]
    rw [ecls, bnd_s, emod, bnd_s]
    refine ⟨υ, cmp_ok ?_ (fun _ => ?_), Inv_text hI' ?_ ?_ ?_ ?_ ?_ ?_ ?_ ?_ ?_ ?_ ?_ ?_ ?_⟩
    · show υ 171 0 = 0
      rw [v171 0 (by omega) (by omega)]; exact r4.2.1
    · show υ 183 0 = nN i'
      rw [vo 183 (by omega) (by omega), ← hw, mu_own, if_pos rfl]
    · have erv : rv (υ 172) = rv (σ 172) := rv_congr2 (fun k hk hk2 => vlo k (by omega) hk2)
      obtain ⟨f1, N, f, f2, f3⟩ := id i1
      refine HR_upd i1 ?_ ⟨N, by rw [erv]; exact f2⟩ (vlo 7 (by omega) (by omega)) (vlo 8 (by omega) (by omega)) ?_ ?_
      · rw [erv, ← f1]
        have e1 : hv υ 3 = hv σ 3 := hv_rows (fun k hk => by rw [vo (3 + k) (by omega) (by omega), wo (3 + k) (by omega) (by omega) (by omega) (by omega)])
        exact e1
      · intro i hi
        show υ (3 + 8) i = σ (3 + 8) i
        rw [vo (3 + 8) (by omega) (by omega), wo (3 + 8) (by omega) (by omega) (by omega) (by omega)]
      · intro k q1 q2
        exact vlo k (by omega) (by omega)
    · obtain ⟨l0', l1', l2', l3'⟩ := hLI
      have hmono : ∀ l, l ≤ i' → st' l ≤ E'.length := by
        intro l hl
        cases l with
        | zero => omega
        | succ l => exact (l3' l (by omega)).2.1
      refine Or.inr ⟨i', st', fun i => (gd E' i).1, fun i => (gd E' i).2, hi12, ?_, v2, ?_, l0', ?_, ?_⟩
      · show υ (30 + 0) 0 = nN i'
        rw [v30 (30 + 0) (by omega) (by omega)]; exact t30
      · rw [vhi 474 (by omega) (by omega)]; exact z1323
      · intro l hl
        obtain ⟨q1, q2, q3, q4, q5⟩ := l3' l hl
        obtain ⟨p1, p2, p3⟩ := c2''.2 l hl
        obtain ⟨y1, y2, y3, y4⟩ := rm l hl
        obtain ⟨b1, b2, b3⟩ := d2.2.1 l (by omega)
        refine ⟨q1, by omega, ?_, ?_, ?_, ⟨kf' l, q3, ?_, ?_⟩, ⟨af' l, q4, ?_, ?_⟩, ?_⟩
        · show υ (30 + 3) l = nN (st' (l + 1))
          rw [v30 (30 + 3) (by omega) (by omega), b3, ut (37 + 3) (by omega) (by omega)]; exact p3
        · rw [vhi _ (by omega) (by omega), z172 _ (by omega), show 849 + (477 + 4 * l) = 1326 + 4 * l by omega]; exact y3
        · rw [vhi _ (by omega) (by omega), z172 _ (by omega), show 849 + (478 + 4 * l) = 1327 + 4 * l by omega]; exact y4
        · show υ (30 + 1) l = nN (kf' l)
          rw [v30 (30 + 1) (by omega) (by omega), b1, ut (37 + 1) (by omega) (by omega)]; exact p1
        · rw [vhi _ (by omega) (by omega), z172 _ (by omega), show 849 + (475 + 4 * l) = 1324 + 4 * l by omega]; exact y1
        · show υ (30 + 2) l = nN (af' l)
          rw [v30 (30 + 2) (by omega) (by omega), b2, ut (37 + 2) (by omega) (by omega)]; exact p2
        · rw [vhi _ (by omega) (by omega), z172 _ (by omega), show 849 + (476 + 4 * l) = 1325 + 4 * l by omega]; exact y2
        · rcases q5 with e | e
          · exact Or.inl e
          · right
            rw [tyc_tyl _ _ _ (by omega)]
            exact e
      · intro i hi
        rw [l1'] at hi
        have hmem : gd E' i ∈ E' := by
          unfold gd
          rw [List.getD_eq_getElem?_getD, List.getElem?_eq_getElem hi]
          exact List.getElem_mem hi
        obtain ⟨q1, q2⟩ := l2' _ hmem
        obtain ⟨y1, y2⟩ := rc.2 i hi
        refine ⟨q1, q2, ?_, ?_, ?_⟩
        · show υ (30 + 4) i = _
          rw [v30 (30 + 4) (by omega) (by omega), d2.2.2.1 i (by omega), ut (37 + 4) (by omega) (by omega)]; exact c2'.2 i hi
        · rw [vhi _ (by omega) (by omega), z172 _ (by omega), show 849 + (523 + 2 * i) = 1372 + 2 * i by omega]; exact y1
        · rw [vhi _ (by omega) (by omega), z172 _ (by omega), show 849 + (524 + 2 * i) = 1373 + 2 * i by omega]; exact y2
    · intro o o1 o2
      rw [vo o (by omega) (by omega), wo o (by omega) (by omega) (by omega) (by omega)]
    · intro o o1 o2
      rw [vo o (by omega) (by omega), wo o (by omega) (by omega) (by omega) (by omega)]
    · rw [vo 173 (by omega) (by omega), wo 173 (by omega) (by omega) (by omega) (by omega)]
    · rw [vo 0 (by omega) (by omega), ← hw, mu_row (by omega), mu_own, if_neg (by omega), d2.2.2.2 0 (by omega), ← hu, mu_row (by omega), mu_own, if_neg (by omega), c4.1 0 (by omega) (by omega)]
    · rw [vo 0 (by omega) (by omega), ← hw, mu_row (by omega), mu_own, if_pos rfl]
    · rw [vo 0 (by omega) (by omega), ← hw, mu_row (by omega), mu_own, if_neg (by omega), d2.2.2.2 0 (by omega), ← hu, mu_row (by omega), mu_own, if_neg (by omega), c4.1 0 (by omega) (by omega)]
    · rw [vo 1 (by omega) (by omega), ← hw, mu_row (by omega), mu_row (by omega), d2.2.2.2 1 (by omega), ← hu, mu_own, if_pos rfl]
    · rw [v171 9 (by omega) (by omega)]; exact r4.2.2.1
    · rw [v171 6 (by omega) (by omega), r4.2.2.2 6 (by omega) (by omega) (by omega) (by omega) (by omega) (by omega) (by omega), u171]
    · rw [← hυ, mu_own, if_pos rfl]
    · have e1 : υ 171 14 = -1 := by
        rw [← hυ, mu_own, if_neg (by omega), mu_row (by omega)]
        unfold drf
        rw [rsw_row (by omega), ← hz, mu_row (by omega), mu_own, if_pos rfl]
      rw [vo 0 (by omega) (by omega), e1, ← hw, mu_row (by omega), mu_own, if_neg (by omega), d2.2.2.2 0 (by omega), ← hu, mu_row (by omega), mu_own, if_pos rfl]
