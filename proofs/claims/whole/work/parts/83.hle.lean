/-! layer 2: a line of the house's text, and all of it -/
section
variable {T : Nat → Nat} {L : Nat}
theorem line_of {V : HV} {a : Nat} {F M FX MX : MS → Option (Int32 × MS)} (h : LineR T L V (nx T L a) F M)
    (hF : ∀ s, CA T L s a → hv s 12 = V → ∃ t, FX s = F t ∧ CA T L t (nx T L a) ∧ frC s t)
    (hM : ∀ m p, MP T L m p → skp T L p = a → rv (m 172) = V → ∃ t, MX m = M t ∧ MP T L t (fnt T L a) ∧ frM m t) : LineR T L V a FX MX := by
  obtain ⟨ok, V', a', h1, h2, h3, h4, h5⟩ := h
  refine ⟨ok, V', a', h1, h2, h3, ?_, ?_⟩
  · intro s hs hv0
    obtain ⟨t, k1, k2, k3⟩ := hF s hs hv0
    obtain ⟨t', j1, j2, j3, j4⟩ := h4 t k2 (by rw [hv12 k3]; exact hv0)
    exact ⟨t', by rw [k1]; exact j1, j2, j3, frH_trans (frH_C k3) j4⟩
  · intro m p hm hp hv0
    obtain ⟨t, k1, k2, k3⟩ := hM m p hm hp hv0
    obtain ⟨t', p', j1, j2, j3, j4, j5⟩ := h5 t _ k2 rfl (by rw [k3.1 172 (by omega)]; exact hv0)
    exact ⟨t', p', by rw [k1]; exact j1, j2, j3, j4, frW_trans (frW_M k3) j5⟩
def okB (x : Option (Int32 × MS)) : Option (Int32 × MS) := x.bind (fun q => if q.1 = 0 ∨ q.1 = 1 then some (q.1, q.2) else none)
theorem okB_s (b : Bool) (t : MS) : okB (some (bI b, t)) = some (bI b, t) := by simp only [okB, bnd_s, ok_bI]
theorem LineR_ok {V : HV} {a : Nat} {F M : MS → Option (Int32 × MS)} (h : LineR T L V a F M) : LineR T L V a (fun s => okB (F s)) (fun m => okB (M m)) := by
  obtain ⟨ok, V', a', h1, h2, h3, h4, h5⟩ := h
  refine ⟨ok, V', a', h1, h2, h3, ?_, ?_⟩
  · intro s hs hv0
    obtain ⟨t, k1, k2⟩ := h4 s hs hv0
    exact ⟨t, by show okB (F s) = _; rw [k1, okB_s], k2⟩
  · intro m p hm hp hv0
    obtain ⟨t, p', k1, k2⟩ := h5 m p hm hp hv0
    exact ⟨t, p', by show okB (M m) = _; rw [k1, okB_s], k2⟩
theorem LineR_okC {V : HV} {a : Nat} {F M : MS → Option (Int32 × MS)} (h : LineR T L V a F M) : LineR T L V a F (fun m => okB (M m)) := by
  obtain ⟨ok, V', a', h1, h2, h3, h4, h5⟩ := h
  refine ⟨ok, V', a', h1, h2, h3, h4, ?_⟩
  intro m p hm hp hv0
  obtain ⟨t, p', k1, k2⟩ := h5 m p hm hp hv0
  exact ⟨t, p', by show okB (M m) = _; rw [k1, okB_s], k2⟩
theorem wd23 : wd 23 = jnW [wd 2, wd 3, wd 4, wd 5, wd 6, wd 7, wd 8, wd 9] := by decide +kernel
theorem n32h : ∀ w, w ∈ [wd 2, wd 3, wd 4, wd 5, wd 6, wd 7, wd 8, wd 9] → ∀ c, c ∈ w → c ≠ 32 := by
  have H : ([wd 2, wd 3, wd 4, wd 5, wd 6, wd 7, wd 8, wd 9]).all (fun w => w.all (fun c => decide (c ≠ 32))) = true := by decide +kernel
  intro w hw c hc
  exact of_decide_eq_true (List.all_eq_true.mp (List.all_eq_true.mp H w hw) c hc)
theorem WA_c {a nth : Nat} {w : List Nat} {ws : List (List Nat)} : WA T L a (w :: ws) nth = if wq T L w a = true then nN nth else WA T L a ws (nth + 1) := rfl
theorem WA_n {a nth : Nat} : WA T L a [] nth = -1 := rfl
/-- two words of other letters never stand at one place -/
theorem wq_two {a : Nat} {w w' : List Nat} (h : wq T L w a = true) (h' : wq T L w' a = true) : w = w' := by
  obtain ⟨-, h1, h2⟩ := wq_iff.mp h
  obtain ⟨-, h3, h4⟩ := wq_iff.mp h'
  apply List.ext_getElem (by omega)
  intro i i1 i2
  have e1 := h2 i i1
  have e2 := h4 i i2
  rw [e1] at e2
  rw [List.getD_eq_getElem?_getD, List.getD_eq_getElem?_getD, List.getElem?_eq_getElem i1, List.getElem?_eq_getElem i2] at e2
  exact e2
theorem wq_ne {a : Nat} {w w' : List Nat} (h : wq T L w a = true) (hw : w ≠ w') : wq T L w' a = false := by
  cases e : wq T L w' a
  · rfl
  · exact absurd (wq_two h e) hw
theorem l_line {n a N : Nat} {V : HV} (hn : 6000 ≤ n) (ha : a ≤ L) (hsk : skp T L a = a) (g : GV V N) : LineR T L V a (fun s => f_X5_tellsLine n 12 s) (fun m => (f_X12_letters n m).bind (fun q => f_X12_readHouseLine n q.2)) := by
  have h8 := g.le8
  have hb : nx T L a ≤ L := nx_le ha
  have cw : ∀ s, CA T L s a → f_X9_wordAmong n 23 s = some (WA T L a [wd 2, wd 3, wd 4, wd 5, wd 6, wd 7, wd 8, wd 9] 0) := fun s hs => c_among hn hs (by omega) wd23 (by simp) n32h
  have mw : ∀ (m : MS) (p : Nat), MP T L m p → skp T L p = a → ∃ t, f_X12_letters n m = some (0, t) ∧ MP T L t (ltt T L a) ∧ t 171 12 = nN a ∧ frM m t ∧ ∀ z, z < 33 → f_X12_isWord n z t = some (bI (wq T L (wd z) a)) := by
    intro m p hm hp
    obtain ⟨t, k1, k2, k3, k4⟩ := m_letters hn hm
    rw [hp] at k2 k3
    exact ⟨t, k1, k2, k3, k4, fun z hz => m_isWord hn k2 k3 ha hz (wd_pos z hz)⟩
  have n0 : ∀ k, 0 < k → k < 9 → (nN k = (0 : Int32)) = False := fun k h1 h2 => by rw [l0]; exact nN_eqf (by omega) (by omega) (by omega)
  have nk : ∀ k j, k < 9 → j < 9 → k ≠ j → (nN k = nN j) = False := fun k j h1 h2 h3 => nN_eqf h3 (by omega) (by omega)
  have hP : ∀ s, hv s 12 = V → s 12 0 = nN N := fun s h => c_ppl g h
  obtain ⟨b0, b1, b2, b3, b4, b5, -⟩ := id g
  -- a word k whose line is F, M
  have go : ∀ (k : Nat) (F M : MS → Option (Int32 × MS)), k < 8 → (k = 0 → N < 8) → wq T L (wd (2 + k)) a = true → LineR T L V (nx T L a) F M →
      (∀ t t' : MS, f_X9_advance n t = some (0, t') → J_X5_tellsLine_30 n 12 (nN k) t = F t') →
      (∀ t, (∀ z, z < 33 → f_X12_isWord n z t = some (bI (wq T L (wd z) a))) → f_X12_readHouseLine n t = M t) →
      LineR T L V a (fun s => f_X5_tellsLine n 12 s) (fun m => (f_X12_letters n m).bind (fun q => f_X12_readHouseLine n q.2)) := by
    intro k F M hk hk0 hq hl hF hM
    refine line_of hl ?_ ?_
    · intro s hs hv0
      obtain ⟨t, j1, j2, j3⟩ := c_next hn hs
      refine ⟨t, ?_, j2, j3⟩
      have e : WA T L a [wd 2, wd 3, wd 4, wd 5, wd 6, wd 7, wd 8, wd 9] 0 = nN k := by
        have D : ∀ i, i < 8 → ∀ j, j < 8 → i ≠ j → wd (2 + i) ≠ wd (2 + j) := by decide +kernel
        simp only [WA_c, WA_n]
        have f : ∀ j, j < 8 → k ≠ j → wq T L (wd (2 + j)) a = false := fun j hj hkj => wq_ne hq (D k hk j hj hkj)
        have k8 : k = 0 ∨ k = 1 ∨ k = 2 ∨ k = 3 ∨ k = 4 ∨ k = 5 ∨ k = 6 ∨ k = 7 := by omega
        rcases k8 with rfl | rfl | rfl | rfl | rfl | rfl | rfl | rfl
        · rw [if_pos hq]
        · rw [if_neg (by rw [f 0 (by omega) (by omega)]; exact Bool.false_ne_true), if_pos hq]
        · rw [if_neg (by rw [f 0 (by omega) (by omega)]; exact Bool.false_ne_true), if_neg (by rw [f 1 (by omega) (by omega)]; exact Bool.false_ne_true), if_pos hq]
        · rw [if_neg (by rw [f 0 (by omega) (by omega)]; exact Bool.false_ne_true), if_neg (by rw [f 1 (by omega) (by omega)]; exact Bool.false_ne_true), if_neg (by rw [f 2 (by omega) (by omega)]; exact Bool.false_ne_true), if_pos hq]
        · rw [if_neg (by rw [f 0 (by omega) (by omega)]; exact Bool.false_ne_true), if_neg (by rw [f 1 (by omega) (by omega)]; exact Bool.false_ne_true), if_neg (by rw [f 2 (by omega) (by omega)]; exact Bool.false_ne_true), if_neg (by rw [f 3 (by omega) (by omega)]; exact Bool.false_ne_true), if_pos hq]
        · rw [if_neg (by rw [f 0 (by omega) (by omega)]; exact Bool.false_ne_true), if_neg (by rw [f 1 (by omega) (by omega)]; exact Bool.false_ne_true), if_neg (by rw [f 2 (by omega) (by omega)]; exact Bool.false_ne_true), if_neg (by rw [f 3 (by omega) (by omega)]; exact Bool.false_ne_true), if_neg (by rw [f 4 (by omega) (by omega)]; exact Bool.false_ne_true), if_pos hq]
        · rw [if_neg (by rw [f 0 (by omega) (by omega)]; exact Bool.false_ne_true), if_neg (by rw [f 1 (by omega) (by omega)]; exact Bool.false_ne_true), if_neg (by rw [f 2 (by omega) (by omega)]; exact Bool.false_ne_true), if_neg (by rw [f 3 (by omega) (by omega)]; exact Bool.false_ne_true), if_neg (by rw [f 4 (by omega) (by omega)]; exact Bool.false_ne_true), if_neg (by rw [f 5 (by omega) (by omega)]; exact Bool.false_ne_true), if_pos hq]
        · rw [if_neg (by rw [f 0 (by omega) (by omega)]; exact Bool.false_ne_true), if_neg (by rw [f 1 (by omega) (by omega)]; exact Bool.false_ne_true), if_neg (by rw [f 2 (by omega) (by omega)]; exact Bool.false_ne_true), if_neg (by rw [f 3 (by omega) (by omega)]; exact Bool.false_ne_true), if_neg (by rw [f 4 (by omega) (by omega)]; exact Bool.false_ne_true), if_neg (by rw [f 5 (by omega) (by omega)]; exact Bool.false_ne_true), if_neg (by rw [f 6 (by omega) (by omega)]; exact Bool.false_ne_true), if_pos hq]
      have c := cw s hs
      rw [e] at c
      show f_X5_tellsLine n 12 s = F t
      rw [← hF s t j1]
      simp (disch := omega) only [f_X5_tellsLine, c, bnd_s, nN_m1, if_false, hP s hv0, l8, nN_lt]
      by_cases k0 : k = 0
      · have := hk0 k0
        rw [if_pos this, ite_self]
      · rw [if_neg (by rw [n0 k (by omega) (by omega)]; exact id)]
    · intro m p hm hp hv0
      obtain ⟨t, k1, k2, k3, k4, k5⟩ := mw m p hm hp
      rw [(wq_ltt hq).1] at k2
      exact ⟨t, by show (f_X12_letters n m).bind _ = _; rw [k1, bnd_s]; exact hM t k5, k2, k4⟩
  cases q0 : wq T L (wd 2) a
  case true =>
    by_cases hN : N < 8
    · refine go 0 (fun s => okB (f_X5_tellsPerson n 12 s)) (fun m => okB (f_X12_readPerson n m)) (by omega) (fun _ => hN) q0 (LineR_ok (l_person hn hb (nx_sk a) g hN)) ?_ ?_
      · intro t t' h
        simp only [J_X5_tellsLine_30, h, bnd_s, ← l0, if_true, okB]
      · intro t h
        simp only [f_X12_readHouseLine, h 2 (by omega), q0, bnd_s, bI_t, one_ne0, if_false, okB]
    · have hN8 : N = 8 := by omega
      subst hN8
      refine ⟨false, V, a, ha, hsk, no_c, ?_, ?_⟩
      · intro s hs hv0
        refine ⟨s, ?_, hs, no_c, frH_refl s⟩
        have c := cw s hs
        rw [WA_c, if_pos q0] at c
        simp (disch := omega) only [f_X5_tellsLine, J_X5_tellsLine_28, c, bnd_s, nN_m1, if_false, ← l0, if_true, hP s hv0, l8, nN_lt, Nat.lt_irrefl]
        rfl
      · intro m p hm hp hv0
        obtain ⟨t, k1, k2, k3, k4, k5⟩ := mw m p hm hp
        have ppl : f_X12_people t = some (nN 8) := e_X12_people (show GW t 8 by unfold GW; rw [k4.1 172 (by omega), hv0]; exact g)
        refine ⟨t, _, ?_, k2, no_c, fun _ => k3, frW_M k4⟩
        simp only [k1, bnd_s, f_X12_readHouseLine, k5 2 (by omega), q0, bI_t, one_ne0, if_false, f_X12_readPerson, ppl, l8, if_true, bI_f, ok_0, true_or, if_true]
  case false =>
  cases q1 : wq T L (wd 3) a
  case true =>
    refine go 1 (fun s => okB (f_X5_tellsLikes n 12 s)) (fun m => okB (f_X12_readLikes n m)) (by omega) (by omega) q1 (LineR_ok (l_likes hn hb (nx_sk a) g)) ?_ ?_
    · intro t t' h
      simp only [J_X5_tellsLine_30, h, bnd_s, n0 1 (by omega) (by omega), if_false, l1, if_true, okB]
    · intro t h
      simp only [f_X12_readHouseLine, h 2 (by omega), h 3 (by omega), q0, q1, bnd_s, bI_t, bI_f, one_ne0, if_false, if_true, okB]
  case false =>
  cases q2 : wq T L (wd 4) a
  case true =>
    refine go 2 (fun s => okB (f_X5_tellsWed n 12 s)) (fun m => okB (f_X12_readWed n m)) (by omega) (by omega) q2 (LineR_ok (l_wed hn hb (nx_sk a) g)) ?_ ?_
    · intro t t' h
      simp only [J_X5_tellsLine_30, h, bnd_s, n0 2 (by omega) (by omega), l1, l2, nk 2 1 (by omega) (by omega) (by omega), if_false, if_true, okB]
    · intro t h
      simp only [f_X12_readHouseLine, h 2 (by omega), h 3 (by omega), h 4 (by omega), q0, q1, q2, bnd_s, bI_t, bI_f, one_ne0, if_false, if_true, okB]
  case false =>
  cases q3 : wq T L (wd 5) a
  case true =>
    refine go 3 (fun s => okB (f_X5_tellsFlour n 12 s)) (fun m => okB (f_X12_readFlour n m)) (by omega) (by omega) q3 (LineR_ok (l_flour hn hb (nx_sk a) g)) ?_ ?_
    · intro t t' h
      simp only [J_X5_tellsLine_30, h, bnd_s, n0 3 (by omega) (by omega), l1, l2, l3, nk 3 1 (by omega) (by omega) (by omega), nk 3 2 (by omega) (by omega) (by omega), if_false, if_true, okB]
    · intro t h
      simp only [f_X12_readHouseLine, h 2 (by omega), h 3 (by omega), h 4 (by omega), h 5 (by omega), q0, q1, q2, q3, bnd_s, bI_t, bI_f, one_ne0, if_false, if_true, okB]
  case false =>
  cases q4 : wq T L (wd 6) a
  case true =>
    refine go 4 (fun s => (f_X5_takeNumber n (nN 1) (nN 9) s).bind (fun q => ltM (mu q.2 12 3 q.1) (fun s1 => if s1 12 3 = -1 then some (0, s1) else some (1, s1)))) (fun m => okB (f_X12_readNumber n (nN 5) (nN 1) (nN 9) m)) (by omega) (by omega) q4 (LineR_okC (l_num hn hb (nx_sk a) g (by omega) rfl (by omega) ?_)) ?_ ?_
    · intro v hv h1 h2
      rw [nN_lt (by omega) (by omega)] at h1 h2
      exact GV_0 g (fun k i hk => vs_ne (fun h => hk h.1)) (vs_ne (by omega)) (by rw [vs_ne (by omega)]; exact b1) (by rw [vs_ne (by omega)]; exact b2) ⟨v, vs_eq, by omega, by omega⟩ (by rw [vs_ne (by omega)]; exact b4) (by rw [vs_ne (by omega)]; exact b5)
    · intro t t' h
      simp only [J_X5_tellsLine_30, J_X5_tellsLine_128, h, bnd_s, n0 4 (by omega) (by omega), l2, l3, l4, nk 4 1 (by omega) (by omega) (by omega), nk 4 2 (by omega) (by omega) (by omega), nk 4 3 (by omega) (by omega) (by omega), if_false, if_true, ok_0, true_or, if_true, ok_1, or_true, if_true, ltM_s]
      rw [if_neg (show ¬ nN 4 = (1 : Int32) by rw [l1, nk 4 1 (by omega) (by omega) (by omega)]; exact id)]
      rfl
    · intro t h
      simp only [f_X12_readHouseLine, h 2 (by omega), h 3 (by omega), h 4 (by omega), h 5 (by omega), h 6 (by omega), q0, q1, q2, q3, q4, bnd_s, bI_t, bI_f, one_ne0, if_false, if_true, okB]
      rfl
  case false =>
  cases q5 : wq T L (wd 7) a
  case true =>
    refine go 5 (fun s => (f_X5_takeNumber n (nN 1) (nN 400) s).bind (fun q => ltM (mu q.2 12 4 q.1) (fun s1 => if s1 12 4 = -1 then some (0, s1) else some (1, s1)))) (fun m => okB (f_X12_readNumber n (nN 6) (nN 1) (nN 400) m)) (by omega) (by omega) q5 (LineR_okC (l_num hn hb (nx_sk a) g (by omega) rfl (by omega) ?_)) ?_ ?_
    · intro v hv h1 h2
      rw [nN_lt (by omega) (by omega)] at h1 h2
      exact GV_0 g (fun k i hk => vs_ne (fun h => hk h.1)) (vs_ne (by omega)) (by rw [vs_ne (by omega)]; exact b1) (by rw [vs_ne (by omega)]; exact b2) (by rw [vs_ne (by omega)]; exact b3) ⟨v, vs_eq, by omega, by omega⟩ (by rw [vs_ne (by omega)]; exact b5)
    · intro t t' h
      have d1 : (nN 5 = (1 : Int32)) = False := nk 5 1 (by omega) (by omega) (by omega)
      simp only [J_X5_tellsLine_30, J_X5_tellsLine_154, h, bnd_s, n0 5 (by omega) (by omega), d1, l2, l3, l4, l5, nk 5 2 (by omega) (by omega) (by omega), nk 5 3 (by omega) (by omega) (by omega), nk 5 4 (by omega) (by omega) (by omega), if_false, if_true, ok_0, true_or, if_true, ok_1, or_true, if_true, ltM_s]
      rfl
    · intro t h
      simp only [f_X12_readHouseLine, h 2 (by omega), h 3 (by omega), h 4 (by omega), h 5 (by omega), h 6 (by omega), h 7 (by omega), q0, q1, q2, q3, q4, q5, bnd_s, bI_t, bI_f, one_ne0, if_false, if_true, okB]
      rfl
  case false =>
  cases q6 : wq T L (wd 8) a
  case true =>
    refine go 6 (fun s => okB (f_X5_tellsBond n 12 s)) (fun m => okB (f_X12_readBond n m)) (by omega) (by omega) q6 (LineR_ok (l_bond hn hb (nx_sk a) g)) ?_ ?_
    · intro t t' h
      simp only [J_X5_tellsLine_30, h, bnd_s, n0 6 (by omega) (by omega), l1, l2, l3, l4, l5, l6, nk 6 1 (by omega) (by omega) (by omega), nk 6 2 (by omega) (by omega) (by omega), nk 6 3 (by omega) (by omega) (by omega), nk 6 4 (by omega) (by omega) (by omega), nk 6 5 (by omega) (by omega) (by omega), if_false, if_true, okB]
    · intro t h
      simp only [f_X12_readHouseLine, h 2 (by omega), h 3 (by omega), h 4 (by omega), h 5 (by omega), h 6 (by omega), h 7 (by omega), h 8 (by omega), q0, q1, q2, q3, q4, q5, q6, bnd_s, bI_t, bI_f, one_ne0, if_false, if_true, okB]
  case false =>
  cases q7 : wq T L (wd 9) a
  case true =>
    refine go 7 (fun s => (f_X5_takeNumber n (nN 0) (nN 999) s).bind (fun q => ltM (mu q.2 12 5 q.1) (fun s1 => if s1 12 5 = -1 then some (0, s1) else some (1, s1)))) (fun m => (f_X12_readNumber n (nN 3) (nN 0) (nN 999) m).bind (fun q123 => (if q123.1 = 0 then J_X12_readHouseLine_133 n q123.2 else J_X12_readHouseLine_134 n (1 : Int32) q123.2))) (by omega) (by omega) q7 ?_ ?_ ?_
    · have hl := l_num (n := n) (a := nx T L a) (c := 5) (w := 3) (lo := 0) (hi := 999) hn hb (nx_sk a) g (by omega) rfl (by omega) (by
        intro v hv h1 h2
        exact GV_0 g (fun k i hk => vs_ne (fun h => hk h.1)) (vs_ne (by omega)) (by rw [vs_ne (by omega)]; exact b1) (by rw [vs_ne (by omega)]; exact b2) (by rw [vs_ne (by omega)]; exact b3) (by rw [vs_ne (by omega)]; exact b4) ⟨v, vs_eq, by omega⟩)
      obtain ⟨ok, V', a', h1, h2, h3, h4, h5⟩ := hl
      refine ⟨ok, V', a', h1, h2, h3, h4, ?_⟩
      intro m p hm hp hv0
      obtain ⟨t, p', k1, k2⟩ := h5 m p hm hp hv0
      refine ⟨t, p', ?_, k2⟩
      have k1' : f_X12_readNumber n (nN 3) (nN 0) (nN 999) m = some (bI ok, t) := k1
      simp only [k1', bnd_s, J_X12_readHouseLine_133, J_X12_readHouseLine_134, ok_0, true_or, if_true, ok_1, or_true, if_true]
      cases ok <;> rfl
    · intro t t' h
      have d1 : (nN 7 = (1 : Int32)) = False := nk 7 1 (by omega) (by omega) (by omega)
      have d2 : (nN 7 = (0 : Int32)) = False := n0 7 (by omega) (by omega)
      simp only [J_X5_tellsLine_30, J_X5_tellsLine_186, h, bnd_s, d1, d2, l2, l3, l4, l5, l6, nk 7 2 (by omega) (by omega) (by omega), nk 7 3 (by omega) (by omega) (by omega), nk 7 4 (by omega) (by omega) (by omega), nk 7 5 (by omega) (by omega) (by omega), nk 7 6 (by omega) (by omega) (by omega), if_false, if_true, ok_0, true_or, if_true, ok_1, or_true, if_true, ltM_s]
      rfl
    · intro t h
      simp only [f_X12_readHouseLine, h 2 (by omega), h 3 (by omega), h 4 (by omega), h 5 (by omega), h 6 (by omega), h 7 (by omega), h 8 (by omega), h 9 (by omega), q0, q1, q2, q3, q4, q5, q6, q7, bnd_s, bI_t, bI_f, one_ne0, if_false, if_true]
      rfl
  case false =>
    refine ⟨false, V, a, ha, hsk, no_c, ?_, ?_⟩
    · intro s hs hv0
      refine ⟨s, ?_, hs, no_c, frH_refl s⟩
      have c := cw s hs
      simp only [WA_c, WA_n, q0, q1, q2, q3, q4, q5, q6, q7, Bool.false_eq_true, if_false] at c
      simp only [f_X5_tellsLine, J_X5_tellsLine_28, c, bnd_s, if_true, bI_f]
    · intro m p hm hp hv0
      obtain ⟨t, k1, k2, k3, k4, k5⟩ := mw m p hm hp
      refine ⟨t, _, ?_, k2, no_c, fun _ => k3, frW_M k4⟩
      simp only [k1, bnd_s, f_X12_readHouseLine, J_X12_readHouseLine_133, J_X12_readHouseLine_134, k5 2 (by omega), k5 3 (by omega), k5 4 (by omega), k5 5 (by omega), k5 6 (by omega), k5 7 (by omega), k5 8 (by omega), k5 9 (by omega), q0, q1, q2, q3, q4, q5, q6, q7, bI_f, if_true, ok_0, true_or, if_true]
end
