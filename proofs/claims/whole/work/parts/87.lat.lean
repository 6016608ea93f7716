/-! layer 2: the law's text: conditions -/
theorem wd30 : wd 30 = wd 16 := by decide +kernel
theorem wd28 : wd 28 = wd 17 := by decide +kernel
theorem wd29 : wd 29 = wd 18 := by decide +kernel
theorem wd31 : wd 31 = jnW [wd 4, wd 15] := by decide +kernel
theorem n32w : ∀ w, w ∈ [wd 4, wd 15] → ∀ c, c ∈ w → c ≠ 32 := by
  have H : ([wd 4, wd 15]).all (fun w => w.all (fun c => decide (c ≠ 32))) = true := by decide +kernel
  intro w hw c hc
  exact of_decide_eq_true (List.all_eq_true.mp (List.all_eq_true.mp H w hw) c hc)
/-- a step that is added behind what failed -/
theorem k_addf {s : MS} {c : Nat} (v : Int32) (hc : c ≤ 400) (h : s 37 1 = nN c) : ∃ t, f_X6_addStep 37 v s = some (0, t) ∧ t 1 = s 1 ∧ (∃ c, c ≤ 400 ∧ t 37 1 = nN c) ∧ frL s t := by
  by_cases d : c = 400
  · refine ⟨s, ?_, rfl, ⟨c, hc, h⟩, frL_refl s⟩
    have d' : 400 ≤ c := by omega
    simp (disch := omega) only [f_X6_addStep, J_X6_addStep_32, h, l400, nN_le, d', if_true]
  · have d' : ¬ 400 ≤ c := by omega
    have e : ∀ v, mu s (37 + 4) c v 37 1 = nN c := fun v => by rw [mu_row (by omega)]; exact h
    refine ⟨mu (mu s (37 + 4) c v) 37 1 (nN (c + 1)), ?_, by rw [mu_row (by omega), mu_row (by omega)], ⟨c + 1, by omega, by rw [mu_own, if_pos rfl]⟩, ⟨fun o o1 o2 o3 => by rw [mu_row o2, mu_row (by omega)], by rw [mu_row (by omega), mu_row (by omega)], fun k hk => by rw [mu_own, if_neg hk, mu_row (by omega)]⟩⟩
    simp (disch := omega) only [f_X6_addStep, J_X6_addStep_32, h, l400, nN_le, d', if_false, inb_nN, ix_nN, it_t, if_true, ltM_s, e, nN_s]
theorem frN_13 (m : MS) (v : Int32) : frN m (mu m 171 13 v) := ⟨fun o o1 _ => mu_row o1, fun k _ _ h _ => by rw [mu_own, if_neg h], fun k _ => by rw [mu_row (by omega)]⟩
theorem CM_13 {E : List (Nat × Nat)} {m : MS} {v : Int32} (h : CM E m) : CM E (mu m 171 13 v) := ⟨by rw [mu_own, if_neg (by omega)]; exact h.1, fun i hi => by rw [mu_row (by omega)]; exact h.2 i hi⟩
theorem ty_12 {ts : List Bool} : ty1 12 (true :: ts) = some (true :: ts) := rfl
theorem ty_13 {ts : List Bool} : ty1 13 (true :: true :: ts) = some (true :: ts) := rfl
theorem ty_14 {ts : List Bool} : ty1 14 (true :: true :: ts) = some (true :: ts) := rfl
theorem ty_10 {ts : List Bool} : ty1 10 (false :: false :: ts) = some (true :: ts) := rfl
theorem ty_11 {ts : List Bool} : ty1 11 (false :: false :: ts) = some (true :: ts) := rfl
theorem ty_6 {ts : List Bool} : ty1 6 ts = some (true :: ts) := rfl
theorem ty_7 {ts : List Bool} : ty1 7 ts = some (true :: ts) := rfl
section
variable {T : Nat → Nat} {L : Nat}
theorem MP_13 {m : MS} {p : Nat} {v : Int32} (h : MP T L m p) : MP T L (mu m 171 13 v) p := by
  obtain ⟨h1, h2, h3, h4, h5⟩ := h
  exact ⟨h1, by rw [mu_own, if_neg (by omega)]; exact h2, fun i hi => by rw [mu_row (by omega)]; exact h3 i hi, by rw [mu_own, if_neg (by omega)]; exact h4, h5⟩
theorem wq_sg {a c : Nat} {w : List Nat} (hc : sgc c) (h : sg T L c a = true) : wq T L w a = false := by
  cases e : wq T L w a
  · rfl
  · have := (wq_iff.mp e).1
    have := (sg_kd hc h).1
    omega
/-- a comparison, behind its first sum -/
theorem p_cmp {n a d b : Nat} {E G1 : List (Nat × Nat)} {o : Nat} (hn : 6000 ≤ n) (hL : L ≤ 400) (ho : o = 10 ∨ o = 11) (hd : d ≤ 6) (ha : a < L) (hE : (E ++ G1).length + 2 ≤ a) (hG : rngOK G1) (hT : ∀ ts : List Bool, ts.length ≤ 28 → tyl G1 ts = some (false :: ts)) (hl : G1.length + b ≤ a) (hba : b < a) {F : MS → Option (Int32 × MS)} {M : MS → Option (Int32 × MS)}
    (hF : ∀ s, CA T L s b → CC E s → ∃ t t2, CA T L t (nx T L a) ∧ CC (E ++ G1) t ∧ frL s t ∧ t2 = t ∧ F s = (f_X7_tellsSum n 37 t).bind (fun q204 => ((f_X6_addStep 37 (nN (enc o 0)) q204.2).bind (fun q212 => (if q204.1 = 0 ∨ q204.1 = 1 then some (q204.1, q212.2) else none)))))
    (hM : ∀ m p, MP T L m p → skp T L p = b → CM E m → m 171 13 = nN d → ∃ t p', MP T L t p' ∧ skp T L p' = nx T L a ∧ CM (E ++ G1) t ∧ t 171 13 = nN d ∧ frN m t ∧ M m = (f_X12_readSum n t).bind (fun q153 => if q153.1 = 0 then some ((0 : Int32), q153.2) else (f_X12_emits (nN o) 0 q153.2).bind (fun q => some ((1 : Int32), q.2)))) :
    PieceR T L E b d (2 * d + 2) true F M := by
  have hb := nx_le (T := T) (L := L) (a := a) (by omega)
  have hgt := nx_gt (T := T) ha
  obtain ⟨ok, E', a', i1, i2, i3, i4⟩ := p_sum (T := T) (L := L) (n := n) (d := d) (a := nx T L a) (E := E ++ G1) hn hL hb (by omega)
  cases ok
  · refine ⟨false, E, a', i1, no_c, ?_, ?_⟩
    · intro s hs hc
      obtain ⟨t, t2, k1, k2, k3, -, k4⟩ := hF s hs hc
      obtain ⟨t3, w1, -, w3, w4⟩ := i3 t k1 k2
      obtain ⟨w5, c, w6, w7⟩ := w3 rfl
      obtain ⟨t4, z1, z2, z3, z4⟩ := k_addf (nN (enc o 0)) w6 w7
      refine ⟨t4, ?_, no_c, fun _ => ⟨by rw [z2]; exact w5, z3⟩, frL_trans k3 (frL_trans w4 z4)⟩
      have w1' : f_X7_tellsSum n 37 t = some (bI false, t3) := w1
      rw [k4, w1', bnd_s, z1, bnd_s]
      rfl
    · intro m p hm hp hcm hd'
      obtain ⟨t, p', k1, k2, k3, k4, k5, k6⟩ := hM m p hm hp hcm hd'
      obtain ⟨t3, p'', w1, -, w3, w4⟩ := i4 t p' k1 k2 k3 k4
      have w1' : f_X12_readSum n t = some (bI false, t3) := w1
      refine ⟨t3, 0, ?_, no_c, w3, frN_trans k5 w4⟩
      rw [k6, w1', bnd_s]
      rfl
  · obtain ⟨j1, G2, j2, j3, j4, j5, j6⟩ := i2 rfl
    have hlen : E'.length = E.length + G1.length + G2.length := by rw [j2, List.length_append, List.length_append]
    have hEG : (E ++ G1).length = E.length + G1.length := List.length_append
    have h400 : E'.length < 400 := by omega
    have e0 : (0 : Int32) = nN 0 := rfl
    refine ⟨true, E' ++ [(o, 0)], a', i1, fun _ => ⟨j1, G1 ++ (G2 ++ [(o, 0)]), ?_, ?_, ?_, ?_, by omega⟩, ?_, ?_⟩
    · rw [j2, List.append_assoc, List.append_assoc]
    · exact rngOK_app hG (rngOK_app j3 (rngOK_1 (by omega) (by omega)))
    · intro ts hts
      rw [tyl_app, hT ts (by omega), bnd_s, tyl_app, j4 (false :: ts) (by simp only [List.length_cons]; omega), bnd_s]
      apply tyl_1
      · rcases ho with h | h
        · rw [h]; exact ty_10
        · rw [h]; exact ty_11
      · simp only [List.length_cons]; omega
    · rw [List.length_append, List.length_append]
      show G1.length + (G2.length + 1) + b ≤ a'
      omega
    · intro s hs hc
      obtain ⟨t, t2, k1, k2, k3, -, k4⟩ := hF s hs hc
      obtain ⟨t3, w1, w2, -, w4⟩ := i3 t k1 k2
      obtain ⟨w5, w6⟩ := w2 rfl
      obtain ⟨t4, z1, z2, z3, z5, z6⟩ := k_add o 0 w6 h400
      refine ⟨t4, ?_, fun _ => ⟨CA_same w5 z3 z5, z2⟩, no_c, frL_trans k3 (frL_trans w4 z6)⟩
      have w1' : f_X7_tellsSum n 37 t = some (bI true, t3) := w1
      rw [k4, w1', bnd_s, z1, bnd_s]
      rfl
    · intro m p hm hp hcm hd'
      obtain ⟨t, p', k1, k2, k3, k4, k5, k6⟩ := hM m p hm hp hcm hd'
      obtain ⟨t3, p'', w1, w2, -, w4⟩ := i4 t p' k1 k2 k3 k4
      obtain ⟨w5, w6, w7, w8⟩ := w2 rfl
      have w1' : f_X12_readSum n t = some (bI true, t3) := w1
      have em := e_emits (p := nN o) (q := nN 0) w7.1 h400
      have em' : f_X12_emits (nN o) 0 t3 = some (0, emt t3 E'.length (nN o) (nN 0)) := em
      refine ⟨emt t3 E'.length (nN o) (nN 0), p'', ?_, fun _ => ⟨MP_emt w5, w6, CM_emt w7, by rw [emt_k (by omega)]; exact w8⟩, no_c, frN_trans k5 (frN_trans w4 emt_fr)⟩
      rw [k6, w1', bnd_s, bI_t]
      simp only [one_ne0, if_false, em', bnd_s]
theorem p_atom {n a d : Nat} {E : List (Nat × Nat)} {r : RT_gt} {r' : RT_gr} (hn : 6000 ≤ n) (hL : L ≤ 400) (hd : d ≤ 6) (ha : a ≤ L) (hE : E.length + 2 ≤ a)
    (hC : d < 6 → ∀ (E : List (Nat × Nat)) (a : Nat), a ≤ L → E.length + 2 ≤ a → PieceR T L E a (d + 1) (2 * (d + 1)) true (fun s => r.2 37 (nN (d + 1)) s) (fun m => r'.2.2 m))
    (hA : d < 6 → ∀ (E : List (Nat × Nat)) (a : Nat), a ≤ L → E.length + 2 ≤ a → PieceR T L E a (d + 1) (2 * (d + 1) + 2) true (fun s => r.1 37 (nN (d + 1)) s) (fun m => r'.1 m)) :
    PieceR T L E a d (2 * d + 2) true (fun s => F_X7_tellsAtom r n 37 (nN d) s) (fun m => F_X12_readAtom r' n m) := by
  have cN : ∀ s, CA T L s a → f_X9_wordAmong n 30 s = some (if wq T L (wd 16) a = true then 0 else -1) := by
    intro s hs
    have := c_one (z := 30) hn hs (by omega) (n32 30 (by omega) (by omega) (by omega) (by omega) (by omega))
    rw [wd30] at this
    exact this
  have cP : ∀ s, CA T L s a → f_X9_isSign 40 s = some (bI (sg T L 40 a)) := fun s hs => c_isSign (c := 40) hs (by unfold sgc; omega)
  have mP : ∀ m p, MP T L m p → skp T L p = a → ∃ t, f_X12_sign n 40 m = some (bI (sg T L 40 a), t) ∧ MP T L t (if sg T L 40 a = true then a + 1 else a) ∧ t 171 12 = nN a ∧ frM m t := by
    intro m p hm hp
    obtain ⟨t, k1, k2, k3, k4⟩ := m_sign (c := 40) hn hm (by omega)
    rw [hp] at k1 k2 k3
    exact ⟨t, k1, k2, k3, k4⟩
  have l6' : ∀ k, k < 100 → (nN k < (6 : Int32)) = (k < 6) := fun k hk => by rw [l6]; exact nN_lt (by omega) (by omega)
  have e6' : ∀ k, k < 100 → (nN k = (6 : Int32)) = (k = 6) := fun k hk => by rw [l6]; exact nN_eq (by omega) (by omega)
  have m1z : ((-1 : Int32) = 0) = False := by decide
  have sub1 : nN (d + 1) - 1 = nN d := by rw [l1, nN_sub (by omega)]; rfl
  cases hsg : sg T L 40 a
  case true =>
    have hkd := sg_kd (c := 40) (by unfold sgc; omega) hsg
    have hnx : skp T L (a + 1) = nx T L a := by unfold nx; rw [hkd.2.2.2]
    have hnot : wq T L (wd 16) a = false := wq_sg (c := 40) (by unfold sgc; omega) hsg
    have hb := nx_le (T := T) ha
    have hgt := nx_gt (T := T) hkd.2.1
    by_cases d6 : d < 6
    · obtain ⟨ok, E', a1, i1, i2, i3, i4⟩ := hC d6 E (nx T L a) hb (by omega)
      have cls : ∀ s, CA T L s a → CC E s → ∃ t t1, CA T L t (nx T L a) ∧ r.2 37 (nN (d + 1)) t = some (bI ok, t1) ∧ (ok = true → CA T L t1 a1 ∧ CC E' t1) ∧ (ok = false → t1 1 2 = nN a1 ∧ ∃ c, c ≤ 400 ∧ t1 37 1 = nN c) ∧ frL s t1 ∧ f_X9_advance n s = some (0, t) := by
        intro s hs hc
        obtain ⟨t, j1, j2, j3⟩ := c_next hn hs
        obtain ⟨t1, w1, w2, w3, w4⟩ := i3 t j2 (CC_C hc j3)
        exact ⟨t, t1, j2, w1, w2, w3, frL_trans (frL_C j3) w4, j1⟩
      have mod : ∀ m p, MP T L m p → skp T L p = a → CM E m → m 171 13 = nN d → ∃ t t1 p1, f_X12_sign n 40 m = some (1, t) ∧ t 171 13 = nN d ∧ r'.2.2 (mu t 171 13 (nN (d + 1))) = some (bI ok, t1) ∧ (ok = true → MP T L t1 p1 ∧ skp T L p1 = a1 ∧ CM E' t1 ∧ t1 171 13 = nN (d + 1)) ∧ (ok = false → t1 171 12 = nN a1) ∧ frN m t1 := by
        intro m p hm hp hcm hd'
        obtain ⟨t, k1, k2, k3, k4⟩ := mP m p hm hp
        rw [hsg] at k1 k2
        rw [if_pos rfl] at k2
        obtain ⟨t1, p1, w1, w2, w3, w4⟩ := i4 (mu t 171 13 (nN (d + 1))) (a + 1) (MP_13 k2) hnx (CM_13 (CM_M hcm k4)) (by rw [mu_own, if_pos rfl])
        exact ⟨t, t1, p1, k1, by rw [k4.2 13 (by omega) (by omega)]; exact hd', w1, w2, w3, frN_trans (frN_M k4) (frN_trans (frN_13 _ _) w4)⟩
      cases ok
      · refine ⟨false, E, a1, i1, no_c, ?_, ?_⟩
        · intro s hs hc
          obtain ⟨t, t1, k1, k2, -, k3, k4, k5⟩ := cls s hs hc
          refine ⟨t1, ?_, no_c, k3, k4⟩
          simp (disch := omega) only [F_X7_tellsAtom, J_X7_tellsAtom_17, J_X7_tellsAtom_34, J_X7_tellsAtom_80, J_X7_tellsAtom_81, cN s hs, hnot, Bool.false_eq_true, if_false, bnd_s, m1z, cP s hs, hsg, bI_t, one_ne0, l6', d6, if_true, k5, nN_s, k2, bI_f, true_or]
        · intro m p hm hp hcm hd'
          obtain ⟨t, t1, p1, k1, k2, k3, -, k5, k6⟩ := mod m p hm hp hcm hd'
          refine ⟨t1, 0, ?_, no_c, k5, k6⟩
          have d6n : ¬ d = 6 := by omega
          simp (disch := omega) only [F_X12_readAtom, k1, bnd_s, one_ne0, if_false, k2, e6', d6n, nN_s, ltM_s, k3, bI_f, if_true]
      · obtain ⟨j1, G, j2, j3, j4, j5, j6⟩ := i2 rfl
        cases hs41 : sg T L 41 a1
        · refine ⟨false, E, a1, i1, no_c, ?_, ?_⟩
          · intro s hs hc
            obtain ⟨t, t1, k1, k2, k3, -, k4, k5⟩ := cls s hs hc
            obtain ⟨z1, z2⟩ := k3 rfl
            obtain ⟨t2, y1, y2, y3⟩ := c_skipSign (c := 41) hn z1 (by unfold sgc; omega)
            rw [hs41] at y1 y2
            have y1' : f_X9_skipSign n 41 t1 = some (0, t2) := y1
            have z2' := CC_C z2 y3
            have hle : E'.length ≤ 400 := by
              rw [j2, List.length_append]; omega
            refine ⟨t2, ?_, no_c, fun _ => ⟨y2.2.1, E'.length, hle, z2'.1⟩, frL_trans k4 (frL_C y3)⟩
            simp (disch := omega) only [F_X7_tellsAtom, J_X7_tellsAtom_17, J_X7_tellsAtom_34, J_X7_tellsAtom_80, J_X7_tellsAtom_81, cN s hs, hnot, Bool.false_eq_true, if_false, bnd_s, m1z, cP s hs, hsg, bI_t, one_ne0, l6', d6, if_true, k5, nN_s, k2, y1', true_or, bI_f]
          · intro m p hm hp hcm hd'
            obtain ⟨t, t1, p1, k1, k2, k3, k4, -, k6⟩ := mod m p hm hp hcm hd'
            obtain ⟨z1, z2, z3, z4⟩ := k4 rfl
            obtain ⟨t2, y1, y2, y3, y4⟩ := m_sign (c := 41) hn (MP_13 (v := nN d) z1) (by omega)
            rw [z2, hs41] at y1 y2
            rw [z2] at y3
            have y1' : f_X12_sign n 41 (mu t1 171 13 (nN d)) = some (0, t2) := y1
            refine ⟨t2, 0, ?_, no_c, fun _ => y3, frN_trans k6 (frN_trans (frN_13 _ _) (frN_M y4))⟩
            have d6n : ¬ d = 6 := by omega
            simp (disch := omega) only [F_X12_readAtom, k1, bnd_s, one_ne0, if_false, k2, e6', d6n, nN_s, ltM_s, k3, bI_t, z4, sub1, y1', true_or, if_true, bI_f]
        · have hkd2 := sg_kd (c := 41) (by unfold sgc; omega) hs41
          have hgt2 := nx_gt (T := T) hkd2.2.1
          refine ⟨true, E', nx T L a1, nx_le i1, fun _ => ⟨nx_sk a1, G, j2, j3, fun ts hts => j4 ts (by omega), by omega, by omega⟩, ?_, ?_⟩
          · intro s hs hc
            obtain ⟨t, t1, k1, k2, k3, -, k4, k5⟩ := cls s hs hc
            obtain ⟨z1, z2⟩ := k3 rfl
            obtain ⟨t2, y1, y2, y3⟩ := c_skipSign (c := 41) hn z1 (by unfold sgc; omega)
            rw [hs41] at y1 y2
            rw [if_pos rfl] at y2
            have y1' : f_X9_skipSign n 41 t1 = some (1, t2) := y1
            refine ⟨t2, ?_, fun _ => ⟨y2, CC_C z2 y3⟩, no_c, frL_trans k4 (frL_C y3)⟩
            simp (disch := omega) only [F_X7_tellsAtom, J_X7_tellsAtom_17, J_X7_tellsAtom_34, J_X7_tellsAtom_80, J_X7_tellsAtom_81, cN s hs, hnot, Bool.false_eq_true, if_false, bnd_s, m1z, cP s hs, hsg, bI_t, one_ne0, l6', d6, if_true, k5, nN_s, k2, y1', or_true]
          · intro m p hm hp hcm hd'
            obtain ⟨t, t1, p1, k1, k2, k3, k4, -, k6⟩ := mod m p hm hp hcm hd'
            obtain ⟨z1, z2, z3, z4⟩ := k4 rfl
            obtain ⟨t2, y1, y2, y3, y4⟩ := m_sign (c := 41) hn (MP_13 (v := nN d) z1) (by omega)
            rw [z2, hs41] at y1 y2
            rw [if_pos rfl] at y2
            have y1' : f_X12_sign n 41 (mu t1 171 13 (nN d)) = some (1, t2) := y1
            refine ⟨t2, a1 + 1, ?_, fun _ => ⟨y2, by unfold nx; rw [hkd2.2.2.2], CM_M (CM_13 z3) y4, by rw [y4.2 13 (by omega) (by omega), mu_own, if_pos rfl]⟩, no_c, frN_trans k6 (frN_trans (frN_13 _ _) (frN_M y4))⟩
            have d6n : ¬ d = 6 := by omega
            simp (disch := omega) only [F_X12_readAtom, k1, bnd_s, one_ne0, if_false, k2, e6', d6n, nN_s, ltM_s, k3, bI_t, z4, sub1, y1', or_true, if_true]
    · have d6e : d = 6 := by omega
      refine ⟨false, E, a, ha, no_c, ?_, ?_⟩
      · intro s hs hc
        refine ⟨s, ?_, no_c, fun _ => ⟨hs.2.1, E.length, by omega, hc.1⟩, frL_refl s⟩
        simp (disch := omega) only [F_X7_tellsAtom, J_X7_tellsAtom_17, J_X7_tellsAtom_34, cN s hs, hnot, Bool.false_eq_true, if_false, bnd_s, m1z, cP s hs, hsg, bI_t, one_ne0, l6', d6, bI_f, if_true]
      · intro m p hm hp hcm hd'
        obtain ⟨t, k1, k2, k3, k4⟩ := mP m p hm hp
        rw [hsg] at k1
        have k5 : t 171 13 = nN d := by rw [k4.2 13 (by omega) (by omega)]; exact hd'
        refine ⟨t, 0, ?_, no_c, fun _ => k3, frN_M k4⟩
        simp (disch := omega) only [F_X12_readAtom, k1, bnd_s, bI_t, one_ne0, if_false, k5, e6', d6e, if_true, bI_f]
  case false =>
  have mP0 : ∀ m p, MP T L m p → skp T L p = a → ∃ t t2, f_X12_sign n 40 m = some (0, t) ∧ f_X12_passes n 16 t = some (bI (wq T L (wd 16) a), t2) ∧ MP T L t2 (if wq T L (wd 16) a = true then fnt T L a else a) ∧ t2 171 12 = nN a ∧ frM m t2 := by
    intro m p hm hp
    obtain ⟨t, k1, k2, k3, k4⟩ := mP m p hm hp
    rw [hsg] at k1 k2
    rw [if_neg Bool.false_ne_true] at k2
    obtain ⟨t2, j1, j2, j3, j4⟩ := m_passes (z := 16) hn k2 (by omega) (wd_pos 16 (by omega))
    have hsk : skp T L a = a := by rw [← hp]; exact (skp_is p).2.2
    rw [hsk] at j1 j2 j3
    exact ⟨t, t2, k1, j1, j2, j3, frM_trans k4 j4⟩
  cases hnot : wq T L (wd 16) a
  case true =>
    have hl := wq_ltt hnot
    have hb := nx_le (T := T) ha
    have hgt := nx_gt (T := T) hl.2
    by_cases d6 : d < 6
    · obtain ⟨ok, E', a1, i1, i2, i3, i4⟩ := hA d6 E (nx T L a) hb (by omega)
      have cls : ∀ s, CA T L s a → CC E s → ∃ t t1, r.1 37 (nN (d + 1)) t = some (bI ok, t1) ∧ (ok = true → CA T L t1 a1 ∧ CC E' t1) ∧ (ok = false → t1 1 2 = nN a1 ∧ ∃ c, c ≤ 400 ∧ t1 37 1 = nN c) ∧ frL s t1 ∧ f_X9_advance n s = some (0, t) := by
        intro s hs hc
        obtain ⟨t, j1, j2, j3⟩ := c_next hn hs
        obtain ⟨t1, w1, w2, w3, w4⟩ := i3 t j2 (CC_C hc j3)
        exact ⟨t, t1, w1, w2, w3, frL_trans (frL_C j3) w4, j1⟩
      have mod : ∀ m p, MP T L m p → skp T L p = a → CM E m → m 171 13 = nN d → ∃ t t0 t1 p1, f_X12_sign n 40 m = some (0, t0) ∧ f_X12_passes n 16 t0 = some (1, t) ∧ t 171 13 = nN d ∧ r'.1 (mu t 171 13 (nN (d + 1))) = some (bI ok, t1) ∧ (ok = true → MP T L t1 p1 ∧ skp T L p1 = a1 ∧ CM E' t1 ∧ t1 171 13 = nN (d + 1)) ∧ (ok = false → t1 171 12 = nN a1) ∧ frN m t1 := by
        intro m p hm hp hcm hd'
        obtain ⟨t0, t, k1, k2, k3, k4, k5⟩ := mP0 m p hm hp
        rw [hnot] at k2 k3
        rw [if_pos rfl] at k3
        obtain ⟨t1, p1, w1, w2, w3, w4⟩ := i4 (mu t 171 13 (nN (d + 1))) (fnt T L a) (MP_13 k3) rfl (CM_13 (CM_M hcm k5)) (by rw [mu_own, if_pos rfl])
        exact ⟨t, t0, t1, p1, k1, k2, by rw [k5.2 13 (by omega) (by omega)]; exact hd', w1, w2, w3, frN_trans (frN_M k5) (frN_trans (frN_13 _ _) w4)⟩
      have e12 : (2000 : Int32) = nN (enc 12 0) := by decide +kernel
      cases ok
      · refine ⟨false, E, a1, i1, no_c, ?_, ?_⟩
        · intro s hs hc
          obtain ⟨t, t1, k2, -, k3, k4, k5⟩ := cls s hs hc
          obtain ⟨w5, c, w6, w7⟩ := k3 rfl
          obtain ⟨t4, z1, z2, z3, z4⟩ := k_addf 2000 w6 w7
          refine ⟨t4, ?_, no_c, fun _ => ⟨by rw [z2]; exact w5, z3⟩, frL_trans k4 z4⟩
          simp (disch := omega) only [F_X7_tellsAtom, J_X7_tellsAtom_17, J_X7_tellsAtom_34, cN s hs, hnot, if_true, bnd_s, one_ne0, if_false, l6', d6, k5, nN_s, k2, z1, bI_f, true_or]
        · intro m p hm hp hcm hd'
          obtain ⟨t, t0, t1, p1, k0, k1, k2, k3, -, k5, k6⟩ := mod m p hm hp hcm hd'
          refine ⟨t1, 0, ?_, no_c, k5, k6⟩
          have d6n : ¬ d = 6 := by omega
          simp (disch := omega) only [F_X12_readAtom, k0, k1, bnd_s, one_ne0, if_false, if_true, k2, e6', d6n, nN_s, ltM_s, k3, bI_f]
      · obtain ⟨j1, G, j2, j3, j4, j5, j6⟩ := i2 rfl
        have hlen : E'.length = E.length + G.length := by rw [j2, List.length_append]
        have h400 : E'.length < 400 := by omega
        refine ⟨true, E' ++ [(12, 0)], a1, i1, fun _ => ⟨j1, G ++ [(12, 0)], by rw [j2, List.append_assoc], rngOK_app j3 (rngOK_1 (by omega) (by omega)), ?_, ?_, by omega⟩, ?_, ?_⟩
        · intro ts hts
          rw [tyl_app, j4 ts (by omega), bnd_s]
          exact tyl_1 ty_12 (by simp only [List.length_cons]; omega)
        · rw [len_1]; omega
        · intro s hs hc
          obtain ⟨t, t1, k2, k3, -, k4, k5⟩ := cls s hs hc
          obtain ⟨w5, w6⟩ := k3 rfl
          obtain ⟨t4, z1, z2, z3, z5, z6⟩ := k_add 12 0 w6 h400
          rw [← e12] at z1
          refine ⟨t4, ?_, fun _ => ⟨CA_same w5 z3 z5, z2⟩, no_c, frL_trans k4 z6⟩
          simp (disch := omega) only [F_X7_tellsAtom, J_X7_tellsAtom_17, J_X7_tellsAtom_34, cN s hs, hnot, if_true, bnd_s, one_ne0, if_false, l6', d6, k5, nN_s, k2, z1, bI_t, or_true]
        · intro m p hm hp hcm hd'
          obtain ⟨t, t0, t1, p1, k0, k1, k2, k3, k4, -, k6⟩ := mod m p hm hp hcm hd'
          obtain ⟨z1, z2, z3, z4⟩ := k4 rfl
          have em := e_emits (m := mu t1 171 13 (nN d)) (p := nN 12) (q := nN 0) (CM_13 z3).1 h400
          have em' : f_X12_emits 12 0 (mu t1 171 13 (nN d)) = some (0, emt (mu t1 171 13 (nN d)) E'.length (nN 12) (nN 0)) := em
          refine ⟨emt (mu t1 171 13 (nN d)) E'.length (nN 12) (nN 0), p1, ?_, fun _ => ⟨MP_emt (MP_13 z1), z2, CM_emt (CM_13 z3), by rw [emt_k (by omega), mu_own, if_pos rfl]⟩, no_c, frN_trans k6 (frN_trans (frN_13 _ _) emt_fr)⟩
          have d6n : ¬ d = 6 := by omega
          simp (disch := omega) only [F_X12_readAtom, k0, k1, bnd_s, one_ne0, if_false, if_true, k2, e6', d6n, nN_s, ltM_s, k3, bI_t, z4, sub1, em']
    · have d6e : d = 6 := by omega
      refine ⟨false, E, a, ha, no_c, ?_, ?_⟩
      · intro s hs hc
        refine ⟨s, ?_, no_c, fun _ => ⟨hs.2.1, E.length, by omega, hc.1⟩, frL_refl s⟩
        simp (disch := omega) only [F_X7_tellsAtom, J_X7_tellsAtom_17, J_X7_tellsAtom_34, cN s hs, hnot, if_true, bnd_s, one_ne0, if_false, l6', d6, bI_f]
      · intro m p hm hp hcm hd'
        obtain ⟨t0, t, k1, k2, k3, k4, k5⟩ := mP0 m p hm hp
        rw [hnot] at k2
        have k6 : t 171 13 = nN d := by rw [k5.2 13 (by omega) (by omega)]; exact hd'
        refine ⟨t, 0, ?_, no_c, fun _ => k4, frN_M k5⟩
        simp (disch := omega) only [F_X12_readAtom, k1, bnd_s, if_true, k2, bI_t, one_ne0, if_false, k6, e6', d6e, bI_f]
  case false =>
  have mT : ∀ m p, MP T L m p → skp T L p = a → ∃ t t2 t3, f_X12_sign n 40 m = some (0, t) ∧ f_X12_passes n 16 t = some (0, t2) ∧ f_X12_letters n t2 = some (0, t3) ∧ MP T L t3 (ltt T L a) ∧ t3 171 12 = nN a ∧ frM m t3 ∧ f_X12_isWord n 4 t3 = some (bI (wq T L (wd 4) a)) ∧ f_X12_isWord n 15 t3 = some (bI (wq T L (wd 15) a)) := by
    intro m p hm hp
    obtain ⟨t, t2, k1, k2, k3, k4, k5⟩ := mP0 m p hm hp
    rw [hnot] at k2 k3
    rw [if_neg Bool.false_ne_true] at k3
    obtain ⟨t3, j1, j2, j3, j4⟩ := m_letters hn k3
    have hsk : skp T L a = a := by rw [← hp]; exact (skp_is p).2.2
    rw [hsk] at j2 j3
    exact ⟨t, t2, t3, k1, k2, j1, j2, j3, frM_trans k5 j4, m_isWord hn j2 j3 ha (by omega) (wd_pos 4 (by omega)), m_isWord hn j2 j3 ha (by omega) (wd_pos 15 (by omega))⟩
  have cW : ∀ s, CA T L s a → f_X9_wordAmong n 31 s = some (WA T L a [wd 4, wd 15] 0) := fun s hs => c_among hn hs (by omega) wd31 (by simp) n32w
  -- wed, bound
  have tag : ∀ j, j < 2 → WA T L a [wd 4, wd 15] 0 = nN j → kdt T L a = 1 →
      (∀ m t t2 t3 : MS, f_X12_sign n 40 m = some (0, t) → f_X12_passes n 16 t = some (0, t2) → f_X12_letters n t2 = some (0, t3) → f_X12_isWord n 4 t3 = some (bI (wq T L (wd 4) a)) → f_X12_isWord n 15 t3 = some (bI (wq T L (wd 15) a)) → F_X12_readAtom r' n m = (f_X12_emits (nN (6 + j)) 0 t3).bind (fun q => some (1, q.2))) →
      PieceR T L E a d (2 * d + 2) true (fun s => F_X7_tellsAtom r n 37 (nN d) s) (fun m => F_X12_readAtom r' n m) := by
    intro j hj hw hk hm0
    have hal := (kd_1i.mp hk).1
    have hgt := nx_gt (T := T) hal
    have ej : (1006 : Int32) + nN j = nN (enc (6 + j) 0) := by
      have : enc (6 + j) 0 = 1006 + j := by unfold enc; rw [if_pos (by omega)]; omega
      rw [this]; exact nN_add 1006 j
    have ety : ∀ ts : List Bool, ty1 (6 + j) ts = some (true :: ts) := by
      intro ts
      have : j = 0 ∨ j = 1 := by omega
      rcases this with h | h
      · rw [h]; exact ty_6
      · rw [h]; exact ty_7
    refine ⟨true, E ++ [(6 + j, 0)], nx T L a, nx_le ha, fun _ => ⟨nx_sk a, [(6 + j, 0)], rfl, rngOK_1 (by omega) (by omega), fun ts hts => tyl_1 (ety ts) (by simp only [List.length_cons]; omega), by show 1 + a ≤ _; omega, hgt⟩, ?_, ?_⟩
    · intro s hs hc
      obtain ⟨t, k1, k2, k3, k4, k5⟩ := k_add (6 + j) 0 hc (by omega)
      obtain ⟨t2, j1, j2, j3⟩ := c_next hn (CA_same hs k3 k4)
      have hw' := cW s hs
      rw [hw] at hw'
      refine ⟨t2, ?_, fun _ => ⟨j2, CC_C k2 j3⟩, no_c, frL_trans k5 (frL_C j3)⟩
      simp (disch := omega) only [F_X7_tellsAtom, J_X7_tellsAtom_17, cN s hs, hnot, Bool.false_eq_true, if_false, bnd_s, m1z, if_true, cP s hs, hsg, bI_f, hw', nN_m1, ej, k1, j1, bI_t]
    · intro m p hm hp hcm hd'
      obtain ⟨t, t2, t3, k1, k2, k3, k4, k5, k6, k7, k8⟩ := mT m p hm hp
      have hcm' := CM_M hcm k6
      have em := e_emits (p := nN (6 + j)) (q := nN 0) hcm'.1 (by omega)
      have em' : f_X12_emits (nN (6 + j)) 0 t3 = some (0, emt t3 E.length (nN (6 + j)) (nN 0)) := em
      have hl : ltt T L a = fnt T L a := by unfold ltt; rw [if_pos hk]
      rw [hl] at k4
      refine ⟨emt t3 E.length (nN (6 + j)) (nN 0), fnt T L a, ?_, fun _ => ⟨MP_emt k4, rfl, CM_emt hcm', by rw [emt_k (by omega), k6.2 13 (by omega) (by omega)]; exact hd'⟩, no_c, frN_trans (frN_M k6) emt_fr⟩
      show F_X12_readAtom r' n m = _
      rw [hm0 m t t2 t3 k1 k2 k3 k7 k8, em', bnd_s]
      rfl
  cases q4 : wq T L (wd 4) a
  case true =>
    refine tag 0 (by omega) (by simp only [WA_c, q4, if_true]) (wq_iff.mp q4).1 ?_
    intro m t t2 t3 k1 k2 k3 k7 k8
    have e6 : (6 : Int32) = nN (6 + 0) := rfl
    have z6 : ((6 : Int32) < 0) = False := by decide
    rw [← e6]
    cases em : f_X12_emits 6 0 t3 with
    | none => simp only [F_X12_readAtom, f_X12_readTag, J_X12_readTag_33, J_X12_readTag_55, J_X12_readTag_64, k1, k2, k3, k7, q4, bnd_s, if_true, bI_t, one_ne0, if_false, z6, em, Option.bind_none]
    | some q => simp only [F_X12_readAtom, f_X12_readTag, J_X12_readTag_33, J_X12_readTag_55, J_X12_readTag_64, k1, k2, k3, k7, q4, bnd_s, if_true, bI_t, one_ne0, if_false, z6, em, or_true]
  case false =>
  cases q15 : wq T L (wd 15) a
  case true =>
    refine tag 1 (by omega) (by simp only [WA_c, q4, q15, if_true, Bool.false_eq_true, if_false]) (wq_iff.mp q15).1 ?_
    intro m t t2 t3 k1 k2 k3 k7 k8
    have e7 : (7 : Int32) = nN (6 + 1) := rfl
    have z7 : ((7 : Int32) < 0) = False := by decide
    rw [← e7]
    cases em : f_X12_emits 7 0 t3 with
    | none => simp only [F_X12_readAtom, f_X12_readTag, J_X12_readTag_33, J_X12_readTag_55, J_X12_readTag_64, k1, k2, k3, k7, k8, q4, q15, bnd_s, if_true, bI_t, bI_f, one_ne0, if_false, z7, em, Option.bind_none]
    | some q => simp only [F_X12_readAtom, f_X12_readTag, J_X12_readTag_33, J_X12_readTag_55, J_X12_readTag_64, k1, k2, k3, k7, k8, q4, q15, bnd_s, if_true, bI_t, bI_f, one_ne0, if_false, z7, em, or_true]
  case false =>
  have hWn : WA T L a [wd 4, wd 15] 0 = -1 := by simp only [WA_c, WA_n, q4, q15, Bool.false_eq_true, if_false]
  -- a sum
  have m1l : ((-1 : Int32) < 0) = True := m1_lt0
  have mS : ∀ m p, MP T L m p → skp T L p = a → CM E m → m 171 13 = nN d → ∃ t t2 t3 t4, f_X12_sign n 40 m = some (0, t) ∧ f_X12_passes n 16 t = some (0, t2) ∧ f_X12_readTag n t2 = some (0, t4) ∧ MP T L t4 a ∧ skp T L a = a ∧ CM E t4 ∧ t4 171 13 = nN d ∧ frN m t4 ∧ t3 = t4 := by
    intro m p hm hp hcm hd'
    obtain ⟨t, t2, t3, k1, k2, k3, k4, k5, k6, k7, k8⟩ := mT m p hm hp
    have hsk : skp T L a = a := by rw [← hp]; exact (skp_is p).2.2
    refine ⟨t, t2, mu t3 171 10 (nN a), mu t3 171 10 (nN a), k1, k2, ?_, MP_10 k4 ha, hsk, CM_M (CM_M hcm k6) (frM_10 _ _), by rw [mu_own, if_neg (by omega), k6.2 13 (by omega) (by omega)]; exact hd', frN_trans (frN_M k6) (frN_M (frM_10 _ _)), rfl⟩
    simp only [f_X12_readTag, J_X12_readTag_33, J_X12_readTag_55, J_X12_readTag_64, k3, bnd_s, k7, q4, bI_f, if_true, k8, q15, m1l, k5, ltM_s, true_or]
  have cS : ∀ s, CA T L s a → F_X7_tellsAtom r n 37 (nN d) s = (f_X7_tellsSum n 37 s).bind (fun q140 => (if q140.1 = 0 then some ((0 : Int32), q140.2) else ((f_X9_isSign (60 : Int32) q140.2).bind (fun q154 => (if q154 = 0 then ((f_X9_isSign (62 : Int32) q140.2).bind (fun q172 => (if q172 = 0 then J_X7_tellsAtom_185 r n 37 (-1 : Int32) q140.2 else J_X7_tellsAtom_185 r n 37 (2005 : Int32) q140.2))) else J_X7_tellsAtom_185 r n 37 (2004 : Int32) q140.2))))) := by
    intro s hs
    have hw' := cW s hs
    rw [hWn] at hw'
    simp only [F_X7_tellsAtom, J_X7_tellsAtom_17, cN s hs, hnot, Bool.false_eq_true, if_false, bnd_s, m1z, if_true, cP s hs, hsg, bI_f, hw']
  obtain ⟨ok, E', a1, i1, i2, i3, i4⟩ := p_sum (T := T) (L := L) (n := n) (d := d) (a := a) (E := E) hn hL ha hE
  cases ok
  · refine ⟨false, E, a1, i1, no_c, ?_, ?_⟩
    · intro s hs hc
      obtain ⟨t, k1, -, k3, k4⟩ := i3 s hs hc
      have k1' : f_X7_tellsSum n 37 s = some (bI false, t) := k1
      refine ⟨t, ?_, no_c, k3, k4⟩
      show F_X7_tellsAtom r n 37 (nN d) s = _
      rw [cS s hs, k1', bnd_s]
      rfl
    · intro m p hm hp hcm hd'
      obtain ⟨t, t2, t3, t4, k1, k2, k3, k4, k5, k6, k7, k8, -⟩ := mS m p hm hp hcm hd'
      obtain ⟨t5, p', w1, -, w3, w4⟩ := i4 t4 a k4 k5 k6 k7
      have w1' : f_X12_readSum n t4 = some (bI false, t5) := w1
      refine ⟨t5, 0, ?_, no_c, w3, frN_trans k8 w4⟩
      simp only [F_X12_readAtom, k1, bnd_s, if_true, k2, k3, w1', bI_f]
  · obtain ⟨j1, G1, j2, j3, j4, j5, j6⟩ := i2 rfl
    subst j2
    have hEl : (E ++ G1).length + 2 ≤ a1 := by rw [List.length_append]; omega
    have cA1 : ∀ s, CA T L s a → CC E s → ∃ t, f_X7_tellsSum n 37 s = some (1, t) ∧ CA T L t a1 ∧ CC (E ++ G1) t ∧ frL s t := by
      intro s hs hc
      obtain ⟨t, k1, k2, -, k4⟩ := i3 s hs hc
      exact ⟨t, k1, (k2 rfl).1, (k2 rfl).2, k4⟩
    have mA1 : ∀ m p, MP T L m p → skp T L p = a → CM E m → m 171 13 = nN d → ∃ t t2 t4 t5 p', f_X12_sign n 40 m = some (0, t) ∧ f_X12_passes n 16 t = some (0, t2) ∧ f_X12_readTag n t2 = some (0, t4) ∧ f_X12_readSum n t4 = some (1, t5) ∧ MP T L t5 p' ∧ skp T L p' = a1 ∧ CM (E ++ G1) t5 ∧ t5 171 13 = nN d ∧ frN m t5 := by
      intro m p hm hp hcm hd'
      obtain ⟨t, t2, t3, t4, k1, k2, k3, k4, k5, k6, k7, k8, -⟩ := mS m p hm hp hcm hd'
      obtain ⟨t5, p', w1, w2, -, w4⟩ := i4 t4 a k4 k5 k6 k7
      obtain ⟨z1, z2, z3, z4⟩ := w2 rfl
      exact ⟨t, t2, t4, t5, p', k1, k2, k3, w1, z1, z2, z3, z4, frN_trans k8 w4⟩
    have e10 : (2004 : Int32) = nN (enc 10 0) := by decide +kernel
    have e11 : (2005 : Int32) = nN (enc 11 0) := by decide +kernel
    cases h60 : sg T L 60 a1
    · cases h62 : sg T L 62 a1
      · refine ⟨false, E, a1, i1, no_c, ?_, ?_⟩
        · intro s hs hc
          obtain ⟨t, k1, k2, k3, k4⟩ := cA1 s hs hc
          have h1 := c_isSign (c := 60) k2 (by unfold sgc; omega)
          have h2 := c_isSign (c := 62) k2 (by unfold sgc; omega)
          rw [h60] at h1
          rw [h62] at h2
          have h1' : f_X9_isSign 60 t = some (bI false) := h1
          have h2' : f_X9_isSign 62 t = some (bI false) := h2
          refine ⟨t, ?_, no_c, fun _ => ⟨k2.2.1, (E ++ G1).length, by omega, k3.1⟩, k4⟩
          show F_X7_tellsAtom r n 37 (nN d) s = _
          rw [cS s hs]
          simp only [k1, bnd_s, one_ne0, if_false, h1', bI_f, if_true, h2', J_X7_tellsAtom_185]
        · intro m p hm hp hcm hd'
          obtain ⟨t, t2, t4, t5, p', k1, k2, k3, k4, k5, k6, k7, k8, k9⟩ := mA1 m p hm hp hcm hd'
          obtain ⟨u1, y1, y2, y3, y4⟩ := m_sign (c := 60) hn k5 (by omega)
          rw [k6, h60] at y1 y2
          rw [if_neg Bool.false_ne_true] at y2
          obtain ⟨u2, x1, x2, x3, x4⟩ := m_sign (c := 62) hn y2 (by omega)
          rw [j1, h62] at x1
          rw [j1] at x3
          have y1' : f_X12_sign n 60 t5 = some (0, u1) := y1
          have x1' : f_X12_sign n 62 u1 = some (0, u2) := x1
          refine ⟨u2, 0, ?_, no_c, fun _ => x3, frN_trans k9 (frN_trans (frN_M y4) (frN_M x4))⟩
          simp only [F_X12_readAtom, J_X12_readAtom_159, k1, bnd_s, if_true, k2, k3, k4, one_ne0, if_false, y1', x1', bI_f]
      · have hkd := sg_kd (c := 62) (by unfold sgc; omega) h62
        refine p_cmp (o := 11) (a := a1) (b := a) hn hL (Or.inr rfl) hd hkd.2.1 hEl j3 j4 j5 j6 ?_ ?_
        · intro s hs hc
          obtain ⟨t, k1, k2, k3, k4⟩ := cA1 s hs hc
          have h1 := c_isSign (c := 60) k2 (by unfold sgc; omega)
          have h2 := c_isSign (c := 62) k2 (by unfold sgc; omega)
          rw [h60] at h1
          rw [h62] at h2
          have h1' : f_X9_isSign 60 t = some (bI false) := h1
          have h2' : f_X9_isSign 62 t = some (bI true) := h2
          obtain ⟨t1, y1, y2, y3⟩ := c_next hn k2
          refine ⟨t1, t1, y2, CC_C k3 y3, frL_trans k4 (frL_C y3), rfl, ?_⟩
          have z : ((2005 : Int32) = -1) = False := by decide
          show F_X7_tellsAtom r n 37 (nN d) s = _
          rw [cS s hs, ← e11]
          simp only [k1, bnd_s, one_ne0, if_false, h1', bI_f, if_true, h2', bI_t, J_X7_tellsAtom_185, z, y1]
        · intro m p hm hp hcm hd'
          obtain ⟨t, t2, t4, t5, p', k1, k2, k3, k4, k5, k6, k7, k8, k9⟩ := mA1 m p hm hp hcm hd'
          obtain ⟨u1, y1, y2, y3, y4⟩ := m_sign (c := 60) hn k5 (by omega)
          rw [k6, h60] at y1 y2
          rw [if_neg Bool.false_ne_true] at y2
          obtain ⟨u2, x1, x2, x3, x4⟩ := m_sign (c := 62) hn y2 (by omega)
          rw [j1, h62] at x1 x2
          rw [if_pos rfl] at x2
          have y1' : f_X12_sign n 60 t5 = some (0, u1) := y1
          have x1' : f_X12_sign n 62 u1 = some (1, u2) := x1
          refine ⟨u2, a1 + 1, x2, by unfold nx; rw [hkd.2.2.2], CM_M (CM_M k7 y4) x4, by rw [x4.2 13 (by omega) (by omega), y4.2 13 (by omega) (by omega)]; exact k8, frN_trans k9 (frN_trans (frN_M y4) (frN_M x4)), ?_⟩
          have e11' : (11 : Int32) = nN 11 := rfl
          simp only [F_X12_readAtom, J_X12_readAtom_152, J_X12_readAtom_159, J_X12_readAtom_173, k1, bnd_s, if_true, k2, k3, k4, one_ne0, if_false, y1', x1', e11']
    · have hkd := sg_kd (c := 60) (by unfold sgc; omega) h60
      refine p_cmp (o := 10) (a := a1) (b := a) hn hL (Or.inl rfl) hd hkd.2.1 hEl j3 j4 j5 j6 ?_ ?_
      · intro s hs hc
        obtain ⟨t, k1, k2, k3, k4⟩ := cA1 s hs hc
        have h1 := c_isSign (c := 60) k2 (by unfold sgc; omega)
        rw [h60] at h1
        have h1' : f_X9_isSign 60 t = some (bI true) := h1
        obtain ⟨t1, y1, y2, y3⟩ := c_next hn k2
        refine ⟨t1, t1, y2, CC_C k3 y3, frL_trans k4 (frL_C y3), rfl, ?_⟩
        have z : ((2004 : Int32) = -1) = False := by decide
        show F_X7_tellsAtom r n 37 (nN d) s = _
        rw [cS s hs, ← e10]
        simp only [k1, bnd_s, one_ne0, if_false, h1', bI_t, J_X7_tellsAtom_185, z, y1]
      · intro m p hm hp hcm hd'
        obtain ⟨t, t2, t4, t5, p', k1, k2, k3, k4, k5, k6, k7, k8, k9⟩ := mA1 m p hm hp hcm hd'
        obtain ⟨u1, y1, y2, y3, y4⟩ := m_sign (c := 60) hn k5 (by omega)
        rw [k6, h60] at y1 y2
        rw [if_pos rfl] at y2
        have y1' : f_X12_sign n 60 t5 = some (1, u1) := y1
        refine ⟨u1, a1 + 1, y2, by unfold nx; rw [hkd.2.2.2], CM_M k7 y4, by rw [y4.2 13 (by omega) (by omega)]; exact k8, frN_trans k9 (frN_M y4), ?_⟩
        have e10' : (10 : Int32) = nN 10 := rfl
        simp only [F_X12_readAtom, J_X12_readAtom_152, J_X12_readAtom_159, J_X12_readAtom_173, k1, bnd_s, if_true, k2, k3, k4, one_ne0, if_false, y1', e10']
end
