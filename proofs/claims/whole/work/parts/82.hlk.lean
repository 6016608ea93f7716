/-! layer 2: lines of the house's text: likes, flour -/
def likF (T : Nat → Nat) (u b : Nat) (V : HV) (k : Nat) : HV := fR k (fun i W => if i = u then W else vset W 5 (8 * u + i) (nN (T (b + i) - 48))) V
def flo (T : Nat → Nat) (a : Nat) : Nat → Option Nat
  | 0 => some 0
  | k + 1 => (flo T a k).bind (fun w => if T (a + k) - 97 < 6 ∧ w.testBit (T (a + k) - 97) = false then some (w ||| 2 ^ (T (a + k) - 97)) else none)
section
variable {T : Nat → Nat} {L : Nat}
theorem likF_s {u b k : Nat} {V : HV} : likF T u b V (k + 1) = if k = u then likF T u b V k else vset (likF T u b V k) 5 (8 * u + k) (nN (T (b + k) - 48)) := rfl
theorem GV_lik {u b N : Nat} {V : HV} (g : GV V N) (hu : u < 8) : ∀ k, k ≤ 8 → (∀ i, i < k → 48 ≤ T (b + i) ∧ T (b + i) ≤ 57) → GV (likF T u b V k) N := by
  intro k
  induction k with
  | zero => intro _ _; exact g
  | succ k ih =>
    intro hk hT
    have g' := ih (by omega) (fun i hi => hT i (by omega))
    rw [likF_s]
    split
    · exact g'
    · refine GV_5 g' (fun k' i hk' => vs_ne (fun h => hk' h.1)) (fun i hi => ?_)
      by_cases c : i = 8 * u + k
      · rw [c, vs_eq]
        have := hT k (by omega)
        exact ⟨_, rfl, by omega⟩
      · rw [vs_ne (fun h => c h.2)]
        obtain ⟨-, -, -, -, -, -, -, -, -, -, a10, -⟩ := g'
        exact a10 i hi
theorem frH_refl (s : MS) : frH s s := ⟨fun _ _ _ => rfl, rfl⟩
theorem frW_refl (s : MS) : frW s s := ⟨fun _ _ _ => rfl, fun _ _ _ => rfl, fun _ _ => rfl⟩
theorem frW_10 (s : MS) (v : Int32) : frW s (mu s 171 10 v) := frW_M (frM_10 s v)
theorem c_fig {s : MS} {b N : Nat} (h : CA T L s b) (hN : N ≤ 8) : f_X9_isFigures (nN N) s = some (bI (decide (kdt T L b = 2 ∧ fnt T L b = b + N))) := by
  obtain ⟨⟨j1, -⟩, k2, k3, k4, k5, k6⟩ := h
  have hk := kdt_le (T := T) (L := L) b
  have hf : b ≤ fnt T L b := by
    by_cases c : b < L
    · have := (fnt_is (T := T) (L := L) (a := b)).1 c; omega
    · rw [fnt_is.2 (by omega)]; exact Nat.le_refl _
  have hfl := fnt_le (T := T) k5
  simp (disch := omega) only [f_X9_isFigures, J_X9_isFigures_25, J_X9_isFigures_26, k4, k3, k2, l2, nN_eq, nN_sub]
  by_cases c : kdt T L b = 2
  · rw [if_pos c]
    by_cases d : fnt T L b - b = N
    · rw [if_pos d, decide_eq_true ⟨c, by omega⟩]; rfl
    · rw [if_neg d, decide_eq_false (fun h => d (by omega))]; rfl
  · rw [if_neg c, decide_eq_false (fun h => c h.1)]; rfl
theorem l_likes {n a N : Nat} {V : HV} (hn : 6000 ≤ n) (ha : a ≤ L) (hsk : skp T L a = a) (g : GV V N) : LineR T L V a (fun s => f_X5_tellsLikes n 12 s) (fun m => f_X12_readLikes n m) := by
  have h8 := g.le8
  rcases pn_is (T := T) (L := L) a N h8 with h | ⟨u, h, u1, u2, u3⟩
  · refine ⟨false, V, a, ha, hsk, no_c, ?_, ?_⟩
    · intro s hs hv0
      obtain ⟨t, k1, k2, k3⟩ := c_take (lo := 0) (hi := nN N - 1) hn hs
      rw [h] at k1 k2
      refine ⟨t, ?_, k2, no_c, frH_C k3⟩
      simp only [f_X5_tellsLikes, J_X5_tellsLikes_31, c_ppl g hv0, k1, bnd_s, if_true, bI_f]
    · intro m p hm hp hv0
      obtain ⟨t, k1, k2, k3, k4⟩ := m_pt hn hm hp (show GV (rv (m 172)) N by rw [hv0]; exact g)
      rw [h] at k1
      refine ⟨t, _, ?_, k2, no_c, fun _ => k3, frW_M k4⟩
      simp only [f_X12_readLikes, k1, bnd_s, m1_0le, if_false, bI_f]
  · have hum := nN_m1 (a := u) (by omega)
    have hb : nx T L a ≤ L := nx_le ha
    have hdu : dgt T L a = fnt T L a := by unfold dgt; rw [if_pos u2]
    have hbs : skp T L (nx T L a) = nx T L a := nx_sk a
    generalize hbe : nx T L a = b at *
    have clsA : ∀ s, CA T L s a → hv s 12 = V → ∃ t, f_X5_takeNumber n 0 (s 12 0 - 1) s = some (nN u, t) ∧ CA T L t b ∧ hv t 12 = V ∧ frC s t := by
      intro s hs hv0
      obtain ⟨t, k1, k2, k3⟩ := c_take (lo := 0) (hi := nN N - 1) hn hs
      rw [h] at k1 k2
      rw [it_m1 (by omega), hbe] at k2
      rw [c_ppl g hv0]
      exact ⟨t, k1, k2, by rw [hv12 k3]; exact hv0, k3⟩
    -- digits from b on
    have hd := dgt_le (T := T) (L := L) hb
    have hdig : ∀ i, i < dgt T L b - b → b + i < L ∧ 48 ≤ T (b + i) ∧ T (b + i) ≤ 57 := by
      intro i hi
      have := (sc_is (L := L) (q := fun i => decide (48 ≤ T i ∧ T i ≤ 57)) (L - b) b (Nat.le_refl _)).2.2.2
      rw [dgt_sc] at this
      have := this (b + i) (by omega) (by omega)
      exact ⟨this.1, of_decide_eq_true this.2⟩
    have hdN : (dgt T L b - b = N) ↔ (kdt T L b = 2 ∧ fnt T L b = b + N) := by
      unfold dgt at hd ⊢
      by_cases c : kdt T L b = 2
      · rw [if_pos c] at hd ⊢
        constructor
        · intro e; exact ⟨c, by omega⟩
        · intro e; omega
      · rw [if_neg c]
        constructor
        · intro e; omega
        · intro e; exact absurd e.1 c
    have mod : ∀ m p, MP T L m p → skp T L p = a → rv (m 172) = V → ∃ t, f_X12_readLikes n m = some (bI (decide (dgt T L b - b = N)), t) ∧ MP T L t (dgt T L b) ∧ rv (t 172) = likF T u b V (min (dgt T L b - b) N) ∧ t 171 12 = nN b ∧ frW m t := by
      intro m p hm hp hv0
      obtain ⟨t, k1, k2, k3, k4⟩ := m_pt hn hm hp (show GV (rv (m 172)) N by rw [hv0]; exact g)
      rw [h] at k1
      rw [hdu] at k2
      obtain ⟨t1, b1, b2, b3, b4⟩ := m_blanks hn k2
      rw [nx_f, hbe] at b2 b3
      have hv1 : rv (t1 172) = V := by rw [b4.1 172 (by omega), k4.1 172 (by omega), hv0]
      have fr1 : frW m t1 := frW_trans (frW_M k4) (frW_M b4)
      have key : ∃ r, itr (L_X12_readLikes_17 n (nN u) m) n (0, t1) = some r ∧ (r.1 = bI (decide (dgt T L b - b = N)) ∧ MP T L r.2 (dgt T L b) ∧ rv (r.2 172) = likF T u b V (min (dgt T L b - b) N) ∧ r.2 171 12 = nN b ∧ frW m r.2) := by
        refine itr_inv (fun i st => st.1 = nN i ∧ MP T L st.2 (b + i) ∧ rv (st.2 172) = likF T u b V (min i N) ∧ st.2 171 12 = nN b ∧ frW m st.2) _ (dgt T L b - b) ?_ ?_ n 0 _ (by omega) (by have := b2.1; omega) ⟨rfl, b2, by rw [Nat.zero_min]; exact hv1, b3, fr1⟩
        · rintro i ⟨x, s⟩ hi ⟨p1, p2, p3, p4, p5⟩
          dsimp only at p1 p2 p3 p4 p5
          left
          obtain ⟨q1, q2, q3⟩ := hdig i hi
          have p1' : x = nN i := p1
          subst p1'
          have hat := m_isAt (lo := 48) (hi := 57) p2 (by omega) (by omega)
          rw [decide_eq_true ⟨q1, q2, q3⟩] at hat
          have hL := b2.1
          have gk : GV (likF T u b V (min i N)) N := GV_lik g (by omega) _ (by omega) (fun j hj => (hdig j (by omega)).2)
          have ppl : f_X12_people s = some (nN N) := e_X12_people (show GW s N by unfold GW; rw [p3]; exact gk)
          have e48 : (48 : Int32) = nN 48 := rfl
          have e57 : (57 : Int32) = nN 57 := rfl
          have r10 : s 171 10 = nN (b + i) := p2.2.2.2.1
          have stepJ : ∀ s' : MS, MP T L s' (b + i) → rv (s' 172) = likF T u b V (min (i + 1) N) → s' 171 12 = nN b → frW m s' → ∃ a', J_X12_readLikes_66 n (nN u) (nN i) s' = some (.inl a') ∧ (a'.1 = nN (i + 1) ∧ MP T L a'.2 (b + (i + 1)) ∧ rv (a'.2 172) = likF T u b V (min (i + 1) N) ∧ a'.2 171 12 = nN b ∧ frW m a'.2) := by
            intro s' w1 w2 w3 w4
            refine ⟨(nN (i + 1), mu s' 171 10 (nN (b + i + 1))), ?_, rfl, ?_, ?_, ?_, ?_⟩
            · simp only [J_X12_readLikes_66, w1.2.2.2.1, nN_s, ltM_s]
            · exact MP_10 w1 (by omega)
            · show rv (mu s' 171 10 (nN (b + i + 1)) 172) = _
              rw [mu_row (by omega)]; exact w2
            · show mu s' 171 10 (nN (b + i + 1)) 171 12 = _
              rw [mu_own, if_neg (by omega)]; exact w3
            · exact frW_trans w4 (frW_10 _ _)
          by_cases c : N ≤ i
          · obtain ⟨a', z1, z2⟩ := stepJ s p2 (by rw [p3, Nat.min_eq_right c, Nat.min_eq_right (by omega)]) p4 p5
            refine ⟨a', ?_, z2⟩
            simp (disch := omega) only [L_X12_readLikes_17, e48, e57, hat, bnd_s, bI_t, one_ne0, if_false, ppl, nN_le]
            rw [if_pos c]; exact z1
          · by_cases d : i = u
            · obtain ⟨a', z1, z2⟩ := stepJ s p2 (by rw [p3, Nat.min_eq_left (by omega), Nat.min_eq_left (by omega), likF_s, if_pos d]) p4 p5
              refine ⟨a', ?_, z2⟩
              simp (disch := omega) only [L_X12_readLikes_17, e48, e57, hat, bnd_s, bI_t, one_ne0, if_false, ppl, nN_le, nN_eq]
              rw [if_neg c, if_pos d]; exact z1
            · have tv : s 177 (b + i) = nN (T (b + i)) := by
                have := p2.2.2.1 (b + i) q1
                rw [this.2, sb_8 (by omega)]
              have w5 : trw 5 (8 * u + i) = 42 + (8 * u + i) := rfl
              have hr : rv (mu s 172 (42 + (8 * u + i)) (nN (T (b + i) - 48)) 172) = likF T u b V (min (i + 1) N) := by
                rw [mu_rset, ← w5, rv_set (by rw [rng5]; omega), p3, Nat.min_eq_left (by omega), Nat.min_eq_left (by omega), likF_s, if_neg d]
              obtain ⟨a', z1, z2⟩ := stepJ (mu s 172 (42 + (8 * u + i)) (nN (T (b + i) - 48))) (MP_mu p2) hr (by rw [mu_row (by omega)]; exact p4) (frW_trans p5 (frW_mu (by omega)))
              refine ⟨a', ?_, z2⟩
              have hbt : f_X12_both (nN u) (nN i) s = some (nN (8 * u + i)) := by simp only [f_X12_both, i8, i8']
              have hsub : nN (T (b + i)) - nN 48 = nN (T (b + i) - 48) := nN_sub q2
              simp (disch := omega) only [L_X12_readLikes_17, e48, e57, hat, bnd_s, bI_t, one_ne0, if_false, ppl, nN_le, nN_eq, hbt, r10, a42, inb_nN, ix_nN, it_t, if_true, tv, hsub, ltM_s]
              rw [if_neg c, if_neg d]; exact z1
        · rintro ⟨x, s⟩ ⟨p1, p2, p3, p4, p5⟩
          dsimp only at p1 p2 p3 p4 p5
          have p1' : x = nN (dgt T L b - b) := p1
          subst p1'
          have ed : b + (dgt T L b - b) = dgt T L b := by omega
          have hL := b2.1
          rw [ed] at p2
          have hq := (sc_is (L := L) (q := fun i => decide (48 ≤ T i ∧ T i ≤ 57)) (L - b) b (Nat.le_refl _)).2.2.1
          rw [dgt_sc] at hq
          have hat := m_isAt (lo := 48) (hi := 57) p2 (by omega) (by omega)
          rw [decide_eq_false (fun h => hq ⟨h.1, decide_eq_true h.2⟩)] at hat
          have gk : GV (likF T u b V (min (dgt T L b - b) N)) N := GV_lik g (by omega) _ (by omega) (fun j hj => (hdig j (by omega)).2)
          have ppl : f_X12_people s = some (nN N) := e_X12_people (show GW s N by unfold GW; rw [p3]; exact gk)
          have e48 : (48 : Int32) = nN 48 := rfl
          have e57 : (57 : Int32) = nN 57 := rfl
          refine ⟨(bI (decide (dgt T L b - b = N)), s), ?_, rfl, p2, p3, p4, p5⟩
          simp (disch := omega) only [L_X12_readLikes_17, J_X12_readLikes_95, e48, e57, hat, bnd_s, bI_f, if_true, ppl, nN_eq, ok_0, ok_1]
          by_cases c : dgt T L b - b = N
          · rw [if_pos c, decide_eq_true c]; rfl
          · rw [if_neg c, decide_eq_false c]; rfl
      obtain ⟨⟨x, s⟩, r1, r2, r3, r4, r5, r6⟩ := key
      have r2' : x = bI (decide (dgt T L b - b = N)) := r2
      subst r2'
      refine ⟨s, ?_, r3, r4, r5, r6⟩
      simp (disch := omega) only [f_X12_readLikes, k1, bnd_s, nN_0le, if_true, b1, r1]
    by_cases c : kdt T L b = 2 ∧ fnt T L b = b + N
    · have hDN := hdN.mpr c
      have hd2 : dgt T L b = fnt T L b := by unfold dgt; rw [if_pos c.1]
      refine ⟨true, likF T u b V N, nx T L b, nx_le hb, nx_sk b, fun _ => ⟨N, GV_lik g (by omega) N h8 (fun j hj => (hdig j (by omega)).2)⟩, ?_, ?_⟩
      · intro s hs hv0
        obtain ⟨t, k1, k2, k3, k4⟩ := clsA s hs hv0
        have hfig := c_fig k2 h8
        rw [decide_eq_true c] at hfig
        have key : ∃ r, itr (L_X5_tellsLikes_35 n 12 (nN u) s) n (0, t) = some r ∧ (r.1 = 1 ∧ CA T L r.2 (nx T L b) ∧ hv r.2 12 = likF T u b V N ∧ frH s r.2) := by
          refine itr_inv (fun i st => st.1 = nN i ∧ CA T L st.2 b ∧ hv st.2 12 = likF T u b V i ∧ frH s st.2) _ N ?_ ?_ n 0 _ (by omega) (by omega) ⟨rfl, k2, k3, frH_C k4⟩
          · rintro i ⟨x, q⟩ hi ⟨p1, p2, p3, p4⟩
            dsimp only at p1 p2 p3 p4
            left
            have p1' : x = nN i := p1
            subst p1'
            obtain ⟨q1, q2, q3⟩ := hdig i (by omega)
            have gk : GV (likF T u b V i) N := GV_lik g (by omega) _ (by omega) (fun j hj => (hdig j (by omega)).2)
            have ppl := c_ppl gk p3
            have hL := p2.1.1
            by_cases d : i = u
            · refine ⟨(nN (i + 1), q), ?_, rfl, p2, by rw [p3, likF_s, if_pos d], p4⟩
              simp (disch := omega) only [L_X5_tellsLikes_35, J_X5_tellsLikes_79, ppl, nN_le, nN_eq, nN_s]
              rw [if_neg (by omega), if_pos d]
            · have tv := (p2.1.2.2 (b + i) q1).2
              have e48 : (48 : Int32) = nN 48 := rfl
              have hsub : nN (T (b + i)) - nN 48 = nN (T (b + i) - 48) := nN_sub q2
              refine ⟨(nN (i + 1), mu q (12 + 5) (8 * u + i) (nN (T (b + i) - 48))), ?_, rfl, CA_mu p2 (by omega), ?_, frH_trans p4 (frH_mu (by omega) (by omega))⟩
              · simp (disch := omega) only [L_X5_tellsLikes_35, J_X5_tellsLikes_79, ppl, nN_le, nN_eq, nN_s, p2.2.1, nN_add, i8, inb_nN, ix_nN, it_t, if_true, tv, e48, hsub, ltM_s]
                rw [if_neg (by omega), if_neg d]
              · show hv (mu q (12 + 5) (8 * u + i) (nN (T (b + i) - 48))) 12 = _
                rw [hv_mu (by rw [rng5]; omega), p3, likF_s, if_neg d]
          · rintro ⟨x, q⟩ ⟨p1, p2, p3, p4⟩
            dsimp only at p1 p2 p3 p4
            have p1' : x = nN N := p1
            subst p1'
            have gk : GV (likF T u b V N) N := GV_lik g (by omega) _ (by omega) (fun j hj => (hdig j (by omega)).2)
            have ppl := c_ppl gk p3
            obtain ⟨t2, j1, j2, j3⟩ := c_next hn p2
            refine ⟨(1, t2), ?_, rfl, j2, by show hv t2 12 = _; rw [hv12 j3]; exact p3, frH_trans p4 (frH_C j3)⟩
            simp (disch := omega) only [L_X5_tellsLikes_35, ppl, nN_le, Nat.le_refl, if_true, j1, bnd_s, Option.map_some]
        obtain ⟨⟨x, q⟩, r1, r2, r3, r4, r5⟩ := key
        have r2' : x = 1 := r2
        subst r2'
        refine ⟨q, ?_, r3, fun _ => r4, r5⟩
        simp only [f_X5_tellsLikes, k1, bnd_s, hum, if_false, c_ppl g k3, hfig, bI_t, one_ne0, r1]
      · intro m p hm hp hv0
        obtain ⟨t, k1, k2, k3, k4, k5⟩ := mod m p hm hp hv0
        rw [decide_eq_true hDN] at k1
        refine ⟨t, _, k1, k2, fun _ => ⟨by rw [hd2]; rfl, by rw [k3, hDN, Nat.min_self]⟩, no_c, k5⟩
    · refine ⟨false, V, b, hb, hbs, no_c, ?_, ?_⟩
      · intro s hs hv0
        obtain ⟨t, k1, k2, k3, k4⟩ := clsA s hs hv0
        have hfig := c_fig k2 h8
        rw [decide_eq_false c] at hfig
        refine ⟨t, ?_, k2, no_c, frH_C k4⟩
        simp only [f_X5_tellsLikes, J_X5_tellsLikes_31, k1, bnd_s, hum, if_false, c_ppl g k3, hfig, bI_f, if_true]
      · intro m p hm hp hv0
        obtain ⟨t, k1, k2, k3, k4, k5⟩ := mod m p hm hp hv0
        rw [decide_eq_false (fun h => c (hdN.mp h))] at k1
        exact ⟨t, _, k1, k2, no_c, fun _ => k4, k5⟩
theorem flo_s {a k : Nat} : flo T a (k + 1) = (flo T a k).bind (fun w => if T (a + k) - 97 < 6 ∧ w.testBit (T (a + k) - 97) = false then some (w ||| 2 ^ (T (a + k) - 97)) else none) := rfl
theorem flo_none {a k : Nat} (h : flo T a k = none) : ∀ j, flo T a (k + j) = none := by
  intro j
  induction j with
  | zero => exact h
  | succ j ih =>
    show flo T a ((k + j) + 1) = none
    rw [flo_s, ih]; rfl
theorem flo_lt {a : Nat} : ∀ k w, flo T a k = some w → w < 64 := by
  intro k
  induction k with
  | zero =>
    intro w h
    have : (0 : Nat) = w := Option.some.inj h
    omega
  | succ k ih =>
    intro w h
    rw [flo_s] at h
    cases e : flo T a k with
    | none => rw [e] at h; cases h
    | some v =>
      rw [e, bnd_s] at h
      split at h
      · rename_i c
        have hw := Option.some.inj h
        rw [← hw]
        have h1 := ih v e
        have h2 : 2 ^ (T (a + k) - 97) < 64 := by
          have : ∀ x, x < 6 → 2 ^ x < 64 := by decide
          exact this _ c.1
        exact Nat.or_lt_two_pow (n := 6) h1 h2
      · cases h
theorem l_flour {n a N : Nat} {V : HV} (hn : 6000 ≤ n) (ha : a ≤ L) (hsk : skp T L a = a) (g : GV V N) : LineR T L V a (fun s => f_X5_tellsFlour n 12 s) (fun m => f_X12_readFlour n m) := by
  have hk3 := kdt_le (T := T) (L := L) a
  have c_w : ∀ s, CA T L s a → f_X9_isWord s = some (bI (decide (kdt T L a = 1))) := by
    intro s hs
    simp (disch := omega) only [f_X9_isWord, J_X9_isWord_13, hs.2.2.2.1, l1, nN_eq]
    by_cases c : kdt T L a = 1
    · rw [if_pos c, decide_eq_true c]; rfl
    · rw [if_neg c, decide_eq_false c]; rfl
  by_cases c : kdt T L a = 1
  · have hal := (kd_1i.mp c).1
    have hf := (fnt_is (T := T) (L := L) (a := a)).1 hal
    have hl : ltt T L a = fnt T L a := by unfold ltt; rw [if_pos c]
    have let1 : ∀ i, i < fnt T L a - a → a + i < L ∧ 97 ≤ T (a + i) ∧ T (a + i) ≤ 122 := by
      intro i hi
      obtain ⟨q1, q2⟩ := kd_at c (Or.inl rfl) (show a ≤ a + i by omega) (show a + i < fnt T L a by omega)
      exact ⟨q1, kd_1 q2⟩
    have e97 : (97 : Int32) = nN 97 := rfl
    -- a letter
    have cls : ∀ s, CA T L s a → ∃ r, itr (L_X5_tellsFlour_22 n 12 s) n (0, nN a) = some r ∧ ((flo T a (fnt T L a - a) = none ∧ r = (0, s)) ∨ ∃ w, flo T a (fnt T L a - a) = some w ∧ ∃ t, f_X9_advance n (mu s 12 2 (nN w)) = some (0, t) ∧ r = (1, t)) := by
      intro s hs
      have hL := hs.1.1
      have e13 := hs.2.2.1
      refine itr_inv (fun i st => st.2 = nN (a + i) ∧ ∃ w, flo T a i = some w ∧ st.1 = nN w) _ (fnt T L a - a) ?_ ?_ n 0 _ (by omega) (by omega) ⟨rfl, 0, rfl, rfl⟩
      · rintro i ⟨x, y⟩ hi ⟨p1, w, p2, p3⟩
        have p1' : y = nN (a + i) := p1
        have p3' : x = nN w := p3
        subst p1' p3'
        obtain ⟨q1, q2, q3⟩ := let1 i hi
        have hw := flo_lt _ _ p2
        have tv := (hs.1.2.2 (a + i) q1).2
        have hsub : nN (T (a + i)) - nN 97 = nN (T (a + i) - 97) := nN_sub q2
        have hst := flo_s (T := T) (a := a) (k := i)
        rw [p2, bnd_s] at hst
        have mono : flo T a (i + 1) = none → flo T a (fnt T L a - a) = none := by
          intro e
          have := flo_none e (fnt T L a - a - (i + 1))
          rw [show i + 1 + (fnt T L a - a - (i + 1)) = fnt T L a - a by omega] at this
          exact this
        by_cases d : T (a + i) - 97 < 6
        · have hand := and_bit (s := w) (p := T (a + i) - 97) (by omega) (by omega)
          rw [shl1 (by omega)] at hand
          cases eb : w.testBit (T (a + i) - 97)
          · rw [eb] at hand
            rw [if_pos ⟨d, eb⟩] at hst
            left
            refine ⟨(nN (w ||| 2 ^ (T (a + i) - 97)), nN (a + (i + 1))), ?_, rfl, _, hst, rfl⟩
            simp (disch := omega) only [L_X5_tellsFlour_22, e13, nN_le, inb_nN, ix_nN, it_t, if_true, tv, e97, hsub, l6, hand, shl1, nN_or, nN_s, Nat.add_assoc]
            rw [if_neg (by omega), if_neg (by omega)]
          · rw [eb] at hand
            rw [if_neg (fun h => by rw [eb] at h; cases h.2)] at hst
            right
            refine ⟨(0, s), ?_, Or.inl ⟨mono hst, rfl⟩⟩
            simp (disch := omega) only [L_X5_tellsFlour_22, J_X5_tellsFlour_63, e13, nN_le, inb_nN, ix_nN, it_t, if_true, tv, e97, hsub, l6, shl1, hand, Bool.true_eq_false, if_false, Option.map_some]
            rw [if_neg (by omega), if_neg (by omega)]
        · rw [if_neg (fun h => d h.1)] at hst
          right
          refine ⟨(0, s), ?_, Or.inl ⟨mono hst, rfl⟩⟩
          simp (disch := omega) only [L_X5_tellsFlour_22, J_X5_tellsFlour_63, e13, nN_le, inb_nN, ix_nN, it_t, if_true, tv, e97, hsub, l6, Option.map_some]
          rw [if_neg (by omega), if_pos (by omega)]
      · rintro ⟨x, y⟩ ⟨p1, w, p2, p3⟩
        have p1' : y = nN (a + (fnt T L a - a)) := p1
        have p3' : x = nN w := p3
        subst p1' p3'
        obtain ⟨t, j1, j2, j3⟩ := c_next hn (CA_mu (o := 12) (k := 2) (v := nN w) hs (by omega))
        refine ⟨(1, t), ?_, Or.inr ⟨w, p2, t, j1, rfl⟩⟩
        simp (disch := omega) only [L_X5_tellsFlour_22, e13, nN_le, ltM_s, j1, bnd_s, Option.map_some]
        rw [if_pos (by omega)]
    have mod : ∀ m : MS, MP T L m (fnt T L a) → m 171 12 = nN a → ∃ r, itr (L_X12_readFlour_28 n m) n (0, 1, nN a) = some r ∧ ((flo T a (fnt T L a - a) = none ∧ r = (0, m)) ∨ ∃ w, flo T a (fnt T L a - a) = some w ∧ r = (1, mu m 172 4 (nN w))) := by
      intro m hm hb
      have hL := hm.1
      have r10 : m 171 10 = nN (fnt T L a) := hm.2.2.2.1
      refine itr_inv (fun i st => (st.2.1 = 0 ∧ flo T a (fnt T L a - a) = none) ∨ (st.2.1 = 1 ∧ st.2.2 = nN (a + i) ∧ ∃ w, flo T a i = some w ∧ st.1 = nN w)) _ (fnt T L a - a) ?_ ?_ n 0 _ (by omega) (by omega) (Or.inr ⟨rfl, rfl, 0, rfl, rfl⟩)
      · rintro i ⟨x, y, z⟩ hi (⟨p1, p2⟩ | ⟨p0, p1, w, p2, p3⟩)
        · have p1' : y = 0 := p1
          subst p1'
          right
          refine ⟨(0, m), ?_, Or.inl ⟨p2, rfl⟩⟩
          simp only [L_X12_readFlour_28, J_X12_readFlour_95, J_X12_readFlour_106, if_true, true_or, Option.map_some, ite_self]
        · have p0' : y = 1 := p0
          have p1' : z = nN (a + i) := p1
          have p3' : x = nN w := p3
          subst p0' p1' p3'
          obtain ⟨q1, q2, q3⟩ := let1 i hi
          have hw := flo_lt _ _ p2
          have tv : m 177 (a + i) = nN (T (a + i)) := by rw [(hm.2.2.1 (a + i) q1).2, sb_8 (by omega)]
          have hsub : nN (T (a + i)) - nN 97 = nN (T (a + i) - 97) := nN_sub q2
          have hst := flo_s (T := T) (a := a) (k := i)
          rw [p2, bnd_s] at hst
          have mono : flo T a (i + 1) = none → flo T a (fnt T L a - a) = none := by
            intro e
            have := flo_none e (fnt T L a - a - (i + 1))
            rw [show i + 1 + (fnt T L a - a - (i + 1)) = fnt T L a - a by omega] at this
            exact this
          left
          have hnr := e_X12_noRoom (σ := m) (nN (T (a + i) - 97))
          by_cases d : T (a + i) - 97 < 6
          · have hR : isR (nN (T (a + i) - 97)) = true := by
              unfold isR
              apply decide_eq_true
              rw [l5, nN_le (by omega) (by omega), nN_0le (by omega)]
              exact ⟨trivial, by omega⟩
            rw [hR] at hnr
            have hhas := e_X12_has (σ := m) (s := w) (k := T (a + i) - 97) (by omega) (by omega)
            cases eb : w.testBit (T (a + i) - 97)
            · rw [eb] at hhas
              rw [if_pos ⟨d, eb⟩] at hst
              refine ⟨(nN (w ||| 2 ^ (T (a + i) - 97)), 1, nN (a + (i + 1))), ?_, Or.inr ⟨rfl, rfl, _, hst, rfl⟩⟩
              simp (disch := omega) only [L_X12_readFlour_28, J_X12_readFlour_73, J_X12_readFlour_87, r10, nN_le, one_ne0, if_false, inb_nN, ix_nN, it_t, if_true, tv, e97, hsub, hnr, bnd_s, Bool.not_true, bI_f, hhas, shl1, nN_or, nN_s, Nat.add_assoc]
              rw [if_neg (by omega)]
            · rw [eb] at hhas
              rw [if_neg (fun h => by rw [eb] at h; cases h.2)] at hst
              refine ⟨(nN w ||| 0, 0, nN (a + (i + 1))), ?_, Or.inl ⟨rfl, mono hst⟩⟩
              simp (disch := omega) only [L_X12_readFlour_28, J_X12_readFlour_72, J_X12_readFlour_73, J_X12_readFlour_87, r10, nN_le, one_ne0, if_false, inb_nN, ix_nN, it_t, if_true, tv, e97, hsub, hnr, bnd_s, Bool.not_true, bI_f, hhas, bI_t, nN_s, Nat.add_assoc]
              rw [if_neg (by omega)]
          · rw [if_neg (fun h => d h.1)] at hst
            have hR : isR (nN (T (a + i) - 97)) = false := by
              unfold isR
              apply decide_eq_false
              rw [l5, nN_le (by omega) (by omega)]
              omega
            rw [hR] at hnr
            refine ⟨(nN w ||| 0, 0, nN (a + (i + 1))), ?_, Or.inl ⟨rfl, mono hst⟩⟩
            simp (disch := omega) only [L_X12_readFlour_28, J_X12_readFlour_72, J_X12_readFlour_73, J_X12_readFlour_87, r10, nN_le, one_ne0, if_false, inb_nN, ix_nN, it_t, if_true, tv, e97, hsub, hnr, bnd_s, Bool.not_false, bI_t, nN_s, Nat.add_assoc]
            rw [if_neg (by omega)]
      · rintro ⟨x, y, z⟩ (⟨p1, p2⟩ | ⟨p0, p1, w, p2, p3⟩)
        · have p1' : y = 0 := p1
          subst p1'
          refine ⟨(0, m), ?_, Or.inl ⟨p2, rfl⟩⟩
          simp only [L_X12_readFlour_28, J_X12_readFlour_95, J_X12_readFlour_106, if_true, true_or, Option.map_some, ite_self]
        · have p0' : y = 1 := p0
          have p1' : z = nN (a + (fnt T L a - a)) := p1
          have p3' : x = nN w := p3
          subst p0' p1' p3'
          refine ⟨(1, mu m 172 4 (nN w)), ?_, Or.inr ⟨w, p2, rfl⟩⟩
          simp (disch := omega) only [L_X12_readFlour_28, J_X12_readFlour_95, J_X12_readFlour_106, r10, nN_le, one_ne0, if_false, ltM_s, or_true, if_true, Option.map_some]
          rw [if_pos (by omega)]
    have run : ∀ m p, MP T L m p → skp T L p = a → ∃ t, f_X12_readFlour n m = itr (L_X12_readFlour_28 n t) n (0, 1, nN a) ∧ MP T L t (fnt T L a) ∧ t 171 12 = nN a ∧ frM m t := by
      intro m p hm hp
      obtain ⟨t, k1, k2, k3, k4⟩ := m_letters hn hm
      rw [hp] at k2 k3
      rw [hl] at k2
      refine ⟨t, ?_, k2, k3, k4⟩
      have hL := hm.1
      simp (disch := omega) only [f_X12_readFlour, J_X12_readFlour_22, k1, bnd_s, k2.2.2.2.1, k3, nN_le]
      rw [if_neg (by omega)]
    cases e : flo T a (fnt T L a - a) with
    | none =>
      refine ⟨false, V, a, ha, hsk, no_c, ?_, ?_⟩
      · intro s hs hv0
        obtain ⟨r, r1, r2⟩ := cls s hs
        rcases r2 with ⟨-, r2⟩ | ⟨w, r2, -⟩
        · subst r2
          refine ⟨s, ?_, hs, no_c, frH_refl s⟩
          simp only [f_X5_tellsFlour, c_w s hs, decide_eq_true c, bnd_s, bI_t, one_ne0, if_false, hs.2.1, r1, bI_f]
        · rw [e] at r2; cases r2
      · intro m p hm hp hv0
        obtain ⟨t, k1, k2, k3, k4⟩ := run m p hm hp
        obtain ⟨r, r1, r2⟩ := mod t k2 k3
        rcases r2 with ⟨-, r2⟩ | ⟨w, r2, -⟩
        · subst r2
          exact ⟨t, _, k1.trans r1, k2, no_c, fun _ => k3, frW_M k4⟩
        · rw [e] at r2; cases r2
    | some w =>
      have hw := flo_lt _ _ e
      refine ⟨true, vset V 0 2 (nN w), nx T L a, nx_le ha, nx_sk a, fun _ => ⟨N, ?_⟩, ?_, ?_⟩
      · have g' := g
        obtain ⟨b0, b1, b2, b3, b4, b5, -⟩ := g
        exact GV_0 g' (fun k i hk => vs_ne (fun h => hk h.1)) (vs_ne (by omega)) (by rw [vs_ne (by omega)]; exact b1) ⟨w, vs_eq, hw⟩ (by rw [vs_ne (by omega)]; exact b3) (by rw [vs_ne (by omega)]; exact b4) (by rw [vs_ne (by omega)]; exact b5)
      · intro s hs hv0
        obtain ⟨r, r1, r2⟩ := cls s hs
        rcases r2 with ⟨r2, -⟩ | ⟨w', r2, t, r3, r4⟩
        · rw [e] at r2; cases r2
        · rw [e] at r2
          have : w = w' := Option.some.inj r2
          subst this
          subst r4
          obtain ⟨t', j1, j2, j3⟩ := c_next hn (CA_mu (o := 12) (k := 2) (v := nN w) hs (by omega))
          rw [r3] at j1
          have : t = t' := (Prod.mk.inj (Option.some.inj j1)).2
          subst this
          refine ⟨t, ?_, j2, fun _ => by rw [hv12 j3, hv_mu0 (by omega), hv0], frH_trans (frH_mu (by omega) (by omega)) (frH_C j3)⟩
          simp only [f_X5_tellsFlour, c_w s hs, decide_eq_true c, bnd_s, bI_t, one_ne0, if_false, hs.2.1, r1]
      · intro m p hm hp hv0
        obtain ⟨t, k1, k2, k3, k4⟩ := run m p hm hp
        obtain ⟨r, r1, r2⟩ := mod t k2 k3
        rcases r2 with ⟨r2, -⟩ | ⟨w', r2, r3⟩
        · rw [e] at r2; cases r2
        · rw [e] at r2
          have : w = w' := Option.some.inj r2
          subst this
          subst r3
          have w2 : trw 0 2 = 4 := rfl
          exact ⟨mu t 172 4 (nN w), fnt T L a, k1.trans r1, MP_mu k2, fun _ => ⟨rfl, by rw [mu_rset, ← w2, rv_set (by rw [rng0]; omega), k4.1 172 (by omega), hv0]⟩, no_c, frW_trans (frW_M k4) (frW_mu (by omega))⟩
  · refine ⟨false, V, a, ha, hsk, no_c, ?_, ?_⟩
    · intro s hs hv0
      refine ⟨s, ?_, hs, no_c, frH_refl s⟩
      simp only [f_X5_tellsFlour, c_w s hs, decide_eq_false c, bnd_s, bI_f, if_true]
    · intro m p hm hp hv0
      obtain ⟨t, k1, k2, k3, k4⟩ := m_letters hn hm
      rw [hp] at k2 k3
      have hl : ltt T L a = a := by unfold ltt; rw [if_neg c]
      rw [hl] at k2
      refine ⟨t, _, ?_, k2, no_c, fun _ => k3, frW_M k4⟩
      have hL := hm.1
      obtain ⟨n', rfl⟩ : ∃ n', n = n' + 1 := ⟨n - 1, by omega⟩
      have e0 : L_X12_readFlour_28 (n' + 1) t (0, 0, nN a) = some (.inr (0, t)) := by
        simp only [L_X12_readFlour_28, J_X12_readFlour_95, J_X12_readFlour_106, if_true, true_or, Option.map_some, ite_self]
      simp (disch := omega) only [f_X12_readFlour, J_X12_readFlour_22, k1, bnd_s, k2.2.2.2.1, k3, nN_le, Nat.le_refl, if_true, itr_en e0, bI_f]
end
