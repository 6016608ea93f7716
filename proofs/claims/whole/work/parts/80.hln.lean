/-! layer 2: lines of the house's text -/
def frH (s t : MS) : Prop := (∀ o, o ≠ 1 → (o < 12 ∨ 19 < o) → t o = s o) ∧ t 1 1 = s 1 1
def frW (s t : MS) : Prop := (∀ o, o ≠ 171 → o ≠ 172 → t o = s o) ∧ (∀ k, k ≠ 10 → k ≠ 12 → t 171 k = s 171 k) ∧ (∀ k, (k = 1 ∨ k = 2 ∨ k = 7 ∨ k = 8 ∨ 234 ≤ k) → t 172 k = s 172 k)
theorem frH_C {s t : MS} (h : frC s t) : frH s t := ⟨fun o o1 _ => h.1 o o1, h.2⟩
theorem frH_trans {s t u : MS} (h : frH s t) (h' : frH t u) : frH s u := ⟨fun o o1 o2 => (h'.1 o o1 o2).trans (h.1 o o1 o2), h'.2.trans h.2⟩
theorem frH_mu {s : MS} {o k : Nat} {v : Int32} (h1 : 12 ≤ o) (h2 : o ≤ 19) : frH s (mu s o k v) := ⟨fun o' o1 o2 => mu_row (by omega), by rw [mu_row (by omega)]⟩
theorem frW_M {s t : MS} (h : frM s t) : frW s t := ⟨fun o o1 _ => h.1 o o1, h.2, fun k _ => by rw [h.1 172 (by omega)]⟩
theorem frW_trans {s t u : MS} (h : frW s t) (h' : frW t u) : frW s u := ⟨fun o o1 o2 => (h'.1 o o1 o2).trans (h.1 o o1 o2), fun k k1 k2 => (h'.2.1 k k1 k2).trans (h.2.1 k k1 k2), fun k hk => (h'.2.2 k hk).trans (h.2.2 k hk)⟩
theorem frW_mu {s : MS} {k : Nat} {v : Int32} (h : ¬ (k = 1 ∨ k = 2 ∨ k = 7 ∨ k = 8 ∨ 234 ≤ k)) : frW s (mu s 172 k v) := ⟨fun o _ o2 => mu_row o2, fun k _ _ => by rw [mu_row (by omega)], fun k' hk => by rw [mu_own, if_neg (by omega)]⟩
def LineC (T : Nat → Nat) (L : Nat) (V : HV) (a : Nat) (ok : Bool) (V' : HV) (a' : Nat) (F : MS → Option (Int32 × MS)) : Prop :=
  ∀ s, CA T L s a → hv s 12 = V → ∃ t, F s = some (bI ok, t) ∧ CA T L t a' ∧ (ok = true → hv t 12 = V') ∧ frH s t
def LineM (T : Nat → Nat) (L : Nat) (V : HV) (a : Nat) (ok : Bool) (V' : HV) (a' : Nat) (M : MS → Option (Int32 × MS)) : Prop :=
  ∀ m p, MP T L m p → skp T L p = a → rv (m 172) = V → ∃ t p', M m = some (bI ok, t) ∧ MP T L t p' ∧ (ok = true → skp T L p' = a' ∧ rv (t 172) = V') ∧ (ok = false → t 171 12 = nN a') ∧ frW m t
def LineR (T : Nat → Nat) (L : Nat) (V : HV) (a : Nat) (F M : MS → Option (Int32 × MS)) : Prop :=
  ∃ ok V' a', a' ≤ L ∧ skp T L a' = a' ∧ (ok = true → ∃ N', GV V' N') ∧ LineC T L V a ok V' a' F ∧ LineM T L V a ok V' a' M
section
variable {T : Nat → Nat} {L : Nat}
theorem nx_sk (a : Nat) : skp T L (nx T L a) = nx T L a := (skp_is _).2.2
theorem hv12 {s t : MS} (h : frC s t) : hv t 12 = hv s 12 := hv_rows (fun k hk => h.1 _ (by omega))
theorem CA_mu {s : MS} {a o k : Nat} {v : Int32} (h : CA T L s a) (ho : 2 < o) : CA T L (mu s o k v) a := CA_same h (mu_row (by omega)) (mu_row (by omega))
theorem MP_mu {s : MS} {p k : Nat} {v : Int32} (h : MP T L s p) : MP T L (mu s 172 k v) p := by
  obtain ⟨h1, h2, h3, h4, h5⟩ := h
  exact ⟨h1, by rw [mu_row (by omega)]; exact h2, fun i hi => by rw [mu_row (by omega)]; exact h3 i hi, by rw [mu_row (by omega)]; exact h4, h5⟩
theorem MP_172 {s t : MS} {p : Nat} (h : MP T L s p) (h' : ∀ o, o ≠ 172 → t o = s o) : MP T L t p := by
  obtain ⟨h1, h2, h3, h4, h5⟩ := h
  exact ⟨h1, by rw [h' 171 (by omega)]; exact h2, fun i hi => by rw [h' 177 (by omega)]; exact h3 i hi, by rw [h' 171 (by omega)]; exact h4, h5⟩
theorem no_c {P : Prop} {x y : Bool} (h : x = y) (hn : x ≠ y := by decide) : P := absurd h hn
theorem m1_lt0 : ((-1 : Int32) < 0) = True := by decide
theorem m1_0le : ((0 : Int32) ≤ -1) = False := by decide
/-- a number that is set -/
theorem l_num {n a c w N lo hi : Nat} {V : HV} (hn : 6000 ≤ n) (ha : a ≤ L) (hsk : skp T L a = a) (g : GV V N) (hc : c < 8) (hw : trw 0 c = w) (hw2 : w ≠ 1 ∧ w ≠ 2 ∧ w ≠ 7 ∧ w ≠ 8 ∧ w < 234) (hG : ∀ v, v ≤ 999 → ¬ nN v < nN lo → ¬ nN hi < nN v → GV (vset V 0 c (nN v)) N) :
    LineR T L V a (fun s => (f_X5_takeNumber n (nN lo) (nN hi) s).bind (fun q => ltM (mu q.2 12 c q.1) (fun s1 => if s1 12 c = -1 then some (0, s1) else some (1, s1)))) (fun m => f_X12_readNumber n (nN w) (nN lo) (nN hi) m) := by
  rcases nmI_is (T := T) (L := L) a (nN lo) (nN hi) with h | ⟨v, h, h1, h2, h3, h4, h5⟩
  · refine ⟨false, V, a, ha, hsk, no_c, ?_, ?_⟩
    · intro s hs hv0
      obtain ⟨t, k1, k2, k3⟩ := c_take (lo := nN lo) (hi := nN hi) hn hs
      rw [h] at k1 k2
      refine ⟨mu t 12 c (-1), ?_, CA_mu k2 (by omega), no_c, frH_trans (frH_C k3) (frH_mu (by omega) (by omega))⟩
      have e : mu t 12 c (-1) 12 c = -1 := by rw [mu_own, if_pos rfl]
      simp only [k1, bnd_s, ltM_s, e, if_true, bI_f]
    · intro m p hm hp hv0
      obtain ⟨t, k1, k2, k3, k4⟩ := m_num (lo := nN lo) (hi := nN hi) hn hm
      rw [hp, h] at k1
      rw [hp] at k2 k3
      refine ⟨t, _, ?_, k2, no_c, fun _ => k3, frW_M k4⟩
      simp (disch := omega) only [f_X12_readNumber, J_X12_readNumber_29, J_X12_readNumber_40, k1, bnd_s, m1_0le, if_false, inb_nN, ix_nN, it_t, if_true, mu_same, ltM_s, m1_lt0, true_or, bI_f]
  · refine ⟨true, vset V 0 c (nN v), nx T L a, nx_le ha, nx_sk a, fun _ => ⟨N, hG v h1 h4 h5⟩, ?_, ?_⟩
    · intro s hs hv0
      obtain ⟨t, k1, k2, k3⟩ := c_take (lo := nN lo) (hi := nN hi) hn hs
      rw [h] at k1 k2
      rw [it_m1 (by omega)] at k2
      refine ⟨mu t 12 c (nN v), ?_, CA_mu k2 (by omega), fun _ => by rw [hv_mu0 hc, hv12 k3, hv0], frH_trans (frH_C k3) (frH_mu (by omega) (by omega))⟩
      have e : mu t 12 c (nN v) 12 c = nN v := by rw [mu_own, if_pos rfl]
      simp (disch := omega) only [k1, bnd_s, ltM_s, e, nN_m1, if_false, bI_t]
    · intro m p hm hp hv0
      obtain ⟨t, k1, k2, k3, k4⟩ := m_num (lo := nN lo) (hi := nN hi) hn hm
      rw [hp, h] at k1
      rw [hp] at k2 k3
      have hd : dgt T L a = fnt T L a := by unfold dgt; rw [if_pos h2]
      refine ⟨mu t 172 w (nN v), dgt T L a, ?_, MP_mu k2, fun _ => ⟨by rw [hd]; rfl, ?_⟩, no_c, frW_trans (frW_M k4) (frW_mu (by omega))⟩
      · simp (disch := omega) only [f_X12_readNumber, J_X12_readNumber_29, J_X12_readNumber_40, k1, bnd_s, nN_0le, if_true, inb_nN, ix_nN, it_t, ltM_s, nN_lt0, if_false, or_true, bI_t]
      · rw [mu_rset, ← hw, rv_set (by rw [rng0]; exact hc), k4.1 172 (by omega), hv0]
/-- whom a number tells -/
theorem pn_is (a N : Nat) (hN : N ≤ 8) : nmI T L a 0 (nN N - 1) = -1 ∨ ∃ v, nmI T L a 0 (nN N - 1) = nN v ∧ v < N ∧ kdt T L a = 2 ∧ a < L := by
  rcases nmI_is (T := T) (L := L) a 0 (nN N - 1) with h | ⟨v, h, h1, h2, h3, h4, h5⟩
  · exact Or.inl h
  · right
    refine ⟨v, h, ?_, h2, h3⟩
    apply Classical.byContradiction
    intro c
    apply h5
    cases N with
    | zero =>
      have e : nN 0 - 1 = -1 := by decide
      rw [e, nN_m1lt (by omega)]
      trivial
    | succ k =>
      have e : nN (k + 1) - 1 = nN k := by rw [l1, nN_sub (by omega)]; rfl
      rw [e, nN_lt (by omega) (by omega)]
      omega
def entV (V : HV) (N v : Nat) : HV := vset (vset (vset V 1 N (nN v)) 2 N (-1)) 0 0 (nN (N + 1))
theorem GV_ent {V : HV} {N v : Nat} (g : GV V N) (hN : N < 8) (hv6 : v < 6) : GV (entV V N v) (N + 1) := by
  have e0 : ∀ i, i ≠ 0 → entV V N v 0 i = V 0 i := fun i hi => by unfold entV; rw [vs_ne (by omega), vs_ne (by omega), vs_ne (by omega)]
  have e1 : ∀ p, entV V N v 1 p = if p = N then nN v else V 1 p := fun p => by
    unfold entV
    rw [vs_ne (by omega), vs_ne (by omega)]
    by_cases c : p = N
    · rw [c, vs_eq, if_pos rfl]
    · rw [vs_ne (by omega), if_neg c]
  have e2 : ∀ p, entV V N v 2 p = if p = N then -1 else V 2 p := fun p => by
    unfold entV
    rw [vs_ne (by omega)]
    by_cases c : p = N
    · rw [c, vs_eq, if_pos rfl]
    · rw [vs_ne (by omega), vs_ne (by omega), if_neg c]
  have ek : ∀ k, 3 ≤ k → entV V N v k = V k := fun k hk => funext (fun i => by unfold entV; rw [vs_ne (by omega), vs_ne (by omega), vs_ne (by omega)])
  obtain ⟨a0, a1, a2, a3, a4, a5, a6, ⟨a7, a7'⟩, ⟨a8, a8'⟩, ⟨a9, a9'⟩, a10, a11, a12⟩ := g
  unfold GV
  rw [ek 3 (by omega), ek 4 (by omega), ek 5 (by omega), ek 6 (by omega), ek 7 (by omega), e0 1 (by omega), e0 2 (by omega), e0 3 (by omega), e0 4 (by omega), e0 5 (by omega)]
  refine ⟨⟨vs_eq, by omega⟩, a1, a2, a3, a4, a5, ?_, ⟨?_, ?_⟩, ⟨a8, fun p h1 h2 => a8' p h1 (by omega)⟩, ⟨a9, fun p h1 h2 => a9' p h1 (by omega)⟩, a10, a11, a12⟩
  · intro p hp
    rw [e1]
    split
    · exact ⟨v, rfl, hv6⟩
    · exact a6 p hp
  · intro p hp
    rw [e2]
    split
    · exact Or.inl rfl
    · rcases a7 p (by omega) with h | ⟨q, h1, h2, h3⟩
      · exact Or.inl h
      · exact Or.inr ⟨q, h1, by omega, h3⟩
  · intro p q hp hq h
    rw [e2] at h ⊢
    by_cases c : p = N
    · rw [if_pos c] at h
      exact absurd h.symm (by rw [nN_m1 (by omega)]; exact fun h => h)
    · rw [if_neg c] at h
      have hpN : p < N := by omega
      have hqN : q < N := by
        rcases a7 p hpN with h' | ⟨q', h1, h2, h3⟩
        · rw [h'] at h
          exact absurd h.symm (by rw [nN_m1 (by omega)]; exact fun h => h)
        · rw [h1, nN_eq (by omega) (by omega)] at h
          omega
      rw [if_neg (by omega)]
      exact a7' p q hpN hqN h
theorem wd24 : wd 24 = wd 0 := by decide +kernel
theorem wd25 : wd 25 = wd 1 := by decide +kernel
theorem n32 (z : Nat) (h : z < 33) (h1 : z ≠ 23) (h2 : z ≠ 26) (h3 : z ≠ 31) (h4 : z ≠ 32) : ∀ c, c ∈ wd z → c ≠ 32 := by
  have H : ∀ z, z < 33 → z ≠ 23 → z ≠ 26 → z ≠ 31 → z ≠ 32 → (wd z).all (fun c => decide (c ≠ 32)) = true := by decide +kernel
  intro c hc
  exact of_decide_eq_true (List.all_eq_true.mp (H z h h1 h2 h3 h4) c hc)
theorem wd_pos : ∀ z, z < 33 → 0 < (wd z).length := by decide +kernel
theorem l_person {n a N : Nat} {V : HV} (hn : 6000 ≤ n) (ha : a ≤ L) (hsk : skp T L a = a) (g : GV V N) (hN : N < 8) : LineR T L V a (fun s => f_X5_tellsPerson n 12 s) (fun m => f_X12_readPerson n m) := by
  have h8 := g.le8
  have hN8 : (nN N = (8 : Int32)) = False := by rw [l8]; exact nN_eqf (by omega) (by omega) (by omega)
  have ppl : ∀ m : MS, rv (m 172) = V → f_X12_people m = some (nN N) := fun m hm => e_X12_people (show GW m N by unfold GW; rw [hm]; exact g)
  cases hq : wq T L (wd 0) a
  · refine ⟨false, V, a, ha, hsk, no_c, ?_, ?_⟩
    · intro s hs hv0
      obtain ⟨t, k1, k2, k3⟩ := c_skipWord hn hs (show 24 < 33 by omega) (n32 24 (by omega) (by omega) (by omega) (by omega) (by omega))
      rw [wd24, hq] at k1 k2
      refine ⟨t, ?_, k2, no_c, frH_C k3⟩
      simp only [f_X5_tellsPerson, k1, bnd_s, bI_f, if_true]
    · intro m p hm hp hv0
      obtain ⟨t, k1, k2, k3, k4⟩ := m_letters hn hm
      rw [hp] at k2 k3
      have hw := m_isWord hn k2 k3 ha (show 0 < 33 by omega) (wd_pos 0 (by omega))
      rw [hq] at hw
      refine ⟨t, _, ?_, k2, no_c, fun _ => k3, frW_M k4⟩
      simp only [f_X12_readPerson, J_X12_readPerson_36, ppl m hv0, bnd_s, hN8, if_false, k1, hw, bI_f, if_true, m1_0le]
  · have hl := wq_ltt hq
    have l5 : (5 : Int32) = nN 5 := rfl
    have hb : nx T L a ≤ L := nx_le ha
    rcases nmI_is (T := T) (L := L) (nx T L a) (nN 0) (nN 5) with h | ⟨v, h, h1, h2, h3, h4, h5⟩
    · refine ⟨false, V, nx T L a, hb, nx_sk a, no_c, ?_, ?_⟩
      · intro s hs hv0
        obtain ⟨t, k1, k2, k3⟩ := c_skipWord hn hs (show 24 < 33 by omega) (n32 24 (by omega) (by omega) (by omega) (by omega) (by omega))
        rw [wd24, hq] at k1 k2
        obtain ⟨t2, j1, j2, j3⟩ := c_take (lo := nN 0) (hi := nN 5) hn k2
        rw [if_pos rfl, h] at j1 j2
        refine ⟨t2, ?_, j2, no_c, frH_trans (frH_C k3) (frH_C j3)⟩
        have j1' : f_X5_takeNumber n 0 5 t = some (-1, t2) := j1
        simp only [f_X5_tellsPerson, k1, bnd_s, bI_t, one_ne0, if_false, j1', if_true, bI_f]
      · intro m p hm hp hv0
        obtain ⟨t, k1, k2, k3, k4⟩ := m_letters hn hm
        rw [hp] at k2 k3
        have hw := m_isWord hn k2 k3 ha (show 0 < 33 by omega) (wd_pos 0 (by omega))
        rw [hq] at hw
        rw [hl.1] at k2
        obtain ⟨t2, j1, j2, j3, j4⟩ := m_num (lo := nN 0) (hi := nN 5) hn k2
        have en : skp T L (fnt T L a) = nx T L a := rfl
        rw [en, h] at j1
        rw [en] at j2 j3
        have j1' : f_X12_number n 0 5 t = some (-1, t2) := j1
        refine ⟨t2, _, ?_, j2, no_c, fun _ => j3, frW_trans (frW_M k4) (frW_M j4)⟩
        simp only [f_X12_readPerson, J_X12_readPerson_36, ppl m hv0, bnd_s, hN8, if_false, k1, hw, bI_t, one_ne0, j1', m1_0le, bI_f]
    · have hv6 : v < 6 := by
        rw [nN_lt (by omega) (by omega)] at h5
        omega
      refine ⟨true, entV V N v, nx T L (nx T L a), nx_le hb, nx_sk _, fun _ => ⟨N + 1, GV_ent g hN hv6⟩, ?_, ?_⟩
      · intro s hs hv0
        obtain ⟨t, k1, k2, k3⟩ := c_skipWord hn hs (show 24 < 33 by omega) (n32 24 (by omega) (by omega) (by omega) (by omega) (by omega))
        rw [wd24, hq] at k1 k2
        obtain ⟨t2, j1, j2, j3⟩ := c_take (lo := nN 0) (hi := nN 5) hn k2
        rw [if_pos rfl, h] at j1 j2
        rw [it_m1 (by omega)] at j2
        have j1' : f_X5_takeNumber n 0 5 t = some (nN v, t2) := j1
        have ev : hv t2 12 = V := by rw [hv12 j3, hv12 k3, hv0]
        have hpp : t2 12 0 = nN N := by rw [← hv_0 t2 12 0 (by omega), ev]; exact g.people
        have p1 : ∀ v', mu t2 (12 + 1) N v' 12 0 = nN N := fun v' => by rw [mu_row (by omega)]; exact hpp
        have p2 : ∀ v' v'', mu (mu t2 (12 + 1) N v') (12 + 2) N v'' 12 0 = nN N := fun v' v'' => by rw [mu_row (by omega)]; exact p1 v'
        refine ⟨mu (mu (mu t2 (12 + 1) N (nN v)) (12 + 2) N (-1)) 12 0 (nN (N + 1)), ?_, CA_mu (CA_mu (CA_mu j2 (by omega)) (by omega)) (by omega), fun _ => ?_, frH_trans (frH_C k3) (frH_trans (frH_C j3) (frH_trans (frH_mu (by omega) (by omega)) (frH_trans (frH_mu (by omega) (by omega)) (frH_mu (by omega) (by omega)))))⟩
        · simp (disch := omega) only [f_X5_tellsPerson, k1, bnd_s, bI_t, one_ne0, if_false, j1', nN_m1, f_X4_enter, hpp, p1, p2, inb_nN, ix_nN, it_t, if_true, ltM_s, nN_s]
        · rw [hv_mu0 (by omega), hv_mu (by rw [rng2]; omega), hv_mu (by rw [rng1]; omega), ev]
          rfl
      · intro m p hm hp hv0
        obtain ⟨t, k1, k2, k3, k4⟩ := m_letters hn hm
        rw [hp] at k2 k3
        have hw := m_isWord hn k2 k3 ha (show 0 < 33 by omega) (wd_pos 0 (by omega))
        rw [hq] at hw
        rw [hl.1] at k2
        obtain ⟨t2, j1, j2, j3, j4⟩ := m_num (lo := nN 0) (hi := nN 5) hn k2
        have en : skp T L (fnt T L a) = nx T L a := rfl
        rw [en, h] at j1
        rw [en] at j2 j3
        have j1' : f_X12_number n 0 5 t = some (nN v, t2) := j1
        have e172 : t2 172 = m 172 := by rw [j4.1 172 (by omega), k4.1 172 (by omega)]
        have hpp : t2 172 0 = nN N := by
          have := g.people
          rw [← hv0] at this
          rw [e172]
          exact this
        have hd : dgt T L (nx T L a) = fnt T L (nx T L a) := by unfold dgt; rw [if_pos h2]
        have q0 : ∀ m : MS, f_X12_at (nN N) 0 m = some (nN (10 + 4 * N)) := fun m => by simp only [f_X12_at, a10_0]
        have q1 : ∀ m : MS, f_X12_at (nN N) 1 m = some (nN (11 + 4 * N)) := fun m => by simp only [f_X12_at, a10_1]
        have q2 : ∀ m : MS, f_X12_at (nN N) 2 m = some (nN (12 + 4 * N)) := fun m => by simp only [f_X12_at, a10_2]
        have q3 : ∀ m : MS, f_X12_at (nN N) 3 m = some (nN (13 + 4 * N)) := fun m => by simp only [f_X12_at, a10_3]
        have e0 : mu (mu (mu (mu t2 172 (10 + 4 * N) (nN v)) 172 (11 + 4 * N) (-1)) 172 (12 + 4 * N) 0) 172 (13 + 4 * N) 0 172 0 = nN N := by
          rw [mu_own, if_neg (by omega), mu_own, if_neg (by omega), mu_own, if_neg (by omega), mu_own, if_neg (by omega)]
          exact hpp
        refine ⟨mu (mu (mu (mu (mu t2 172 (10 + 4 * N) (nN v)) 172 (11 + 4 * N) (-1)) 172 (12 + 4 * N) 0) 172 (13 + 4 * N) 0) 172 0 (nN (N + 1)), dgt T L (nx T L a), ?_, MP_mu (MP_mu (MP_mu (MP_mu (MP_mu j2)))), fun _ => ⟨by rw [hd]; rfl, ?_⟩, no_c, frW_trans (frW_M k4) (frW_trans (frW_M j4) (frW_trans (frW_mu (by omega)) (frW_trans (frW_mu (by omega)) (frW_trans (frW_mu (by omega)) (frW_trans (frW_mu (by omega)) (frW_mu (by omega)))))))⟩
        · simp (disch := omega) only [f_X12_readPerson, J_X12_readPerson_36, ppl m hv0, bnd_s, hN8, if_false, k1, hw, bI_t, one_ne0, j1', nN_0le, if_true, q0, q1, q2, q3, inb_nN, ix_nN, it_t, ltM_s, e0, nN_s]
        · rw [mu_rset, mu_rset, mu_rset, mu_rset, mu_rset]
          have w0 : trw 0 0 = 0 := rfl
          have w1 : trw 1 N = 10 + 4 * N := rfl
          have w2 : trw 2 N = 11 + 4 * N := rfl
          have w3 : trw 3 N = 12 + 4 * N := rfl
          have w4 : trw 4 N = 13 + 4 * N := rfl
          rw [← w1, ← w2, ← w3, ← w4]
          conv => lhs; rw [← w0]
          rw [rv_set (by rw [rng0]; omega), rv_set (by rw [rng4]; omega), rv_set (by rw [rng3]; omega), rv_set (by rw [rng2]; omega), rv_set (by rw [rng1]; omega), e172, hv0]
          obtain ⟨-, -, -, -, -, -, -, -, ⟨-, a8'⟩, ⟨-, a9'⟩, -⟩ := g
          have z3 := a8' N hN (Nat.le_refl _)
          have z4 := a9' N hN (Nat.le_refl _)
          unfold entV
          funext k i
          unfold vset
          by_cases c0 : k = 0 ∧ i = 0
          · rw [if_pos c0, if_pos c0]
          · rw [if_neg c0, if_neg c0]
            by_cases c4 : k = 4 ∧ i = N
            · rw [if_pos c4, if_neg (by omega), if_neg (by omega), c4.1, c4.2, z4]
            · rw [if_neg c4]
              by_cases c3 : k = 3 ∧ i = N
              · rw [if_pos c3, if_neg (by omega), if_neg (by omega), c3.1, c3.2, z3]
              · rw [if_neg c3]
end
