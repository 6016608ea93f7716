/-! layer 2: seed, undo, image, back -/
theorem Inv_home {j : Nat} {σ υ : MS} (hI : Inv j σ) (h1 : ∀ o, es o = true → (o < 3 ∨ 11 < o) → o ≠ 172 → υ o = σ o) (h2 : ∀ k, k < 1323 → (k = 2 ∨ 474 ≤ k) → υ 172 k = σ 172 k) (h3 : υ 1 1 = σ 1 1) (h4 : υ 171 6 = σ 171 6) (h5 : υ 171 7 = σ 171 7) (h6 : υ 171 9 = σ 171 9) (h7 : υ 171 14 = σ 171 14) (hHR : HR (rows υ 3) (υ 172) (3840 * (j + 1))) : Inv (j + 1) υ := by
  obtain ⟨i1, i2, i3, ⟨a, c, k1, k2, k3, k4, k5, k6⟩, ⟨L, l1, l2, l3, l4⟩, i6⟩ := hI
  have v0 : υ 0 = σ 0 := h1 0 (es_t (by omega)) (by omega) (by omega)
  have v176 : υ 176 = σ 176 := h1 176 (es_t (by omega)) (by omega) (by omega)
  refine ⟨hHR, ?_, ?_, ⟨a, c, k1, k2, by rw [v0]; exact k3, by rw [v0]; exact k4, by rw [h5]; exact k5, ?_⟩, ⟨L, l1, by rw [h3]; exact l2, by rw [h6]; exact l3, ?_⟩, by rw [v0, h7]; exact i6⟩
  · exact LWR_same i2 (fun k hk => h1 (30 + k) (es_t (by omega)) (by omega) (by omega)) h2
  · rw [v0, h4, h1 173 (es_t (by omega)) (by omega) (by omega)]
    rcases i3 with h | ⟨p1, p2, p3, p4⟩
    · exact Or.inl h
    · exact Or.inr ⟨p1, p2, HR_mono (HR_same p3 (fun k hk => h1 (21 + k) (es_t (by omega)) (by omega) (by omega)) (fun _ _ => rfl)) (by omega), LWR_same p4 (fun k hk => h1 (44 + k) (es_t (by omega)) (by omega) (by omega)) (fun _ _ _ => rfl)⟩
  · intro i hi
    have hm := Nat.mod_lt (a + i) (show 0 < 12 by omega)
    rw [v176, h2 2 (by omega) (by omega)]
    exact ⟨HR_mono (HR_same (k6 i hi).1 (fun k hk => h1 (63 + 9 * ((a + i) % 12) + k) (es_t (by omega)) (by omega) (by omega)) (fun _ _ => rfl)) (by omega), (k6 i hi).2⟩
  · intro i hi
    rw [h1 2 (es_t (by omega)) (by omega) (by omega), h1 177 (es_t (by omega)) (by omega) (by omega)]
    exact l4 i hi
theorem s_44 {j n : Nat} {σ : MS} {x1 x2 x3 x4 x5 : Int32} (hn : 6000 ≤ n) (hI : Inv j σ) : ∃ τ, step_44 n x1 x2 x3 x4 x5 σ = some τ ∧ Inv (j + 1) τ := by
  obtain ⟨N, e, gh, gw⟩ := Inv_v hI
  have hs : σ 3 6 = σ 172 9 := by
    have := congrFun (congrFun e 0) 6
    rw [hv_0 σ 3 6 (by omega)] at this
    exact this
  have r172 : mu (mu σ 3 6 x1) 171 0 0 172 = σ 172 := by rw [mu_row (by omega), mu_row (by omega)]
  unfold step_44
  simp only [f_X11_seed, f_X12_seed, ltM_s, bnd_s, r172, hs, if_true]
  refine ⟨_, rfl, ?_⟩
  have rw172 : mu (mu (mu σ 3 6 x1) 171 0 0) 172 9 x1 172 = rset (σ 172) 9 x1 := by rw [mu_rset, r172]
  have hv3 : hv (mu (mu (mu σ 3 6 x1) 171 0 0) 172 9 x1) 3 = vset (hv σ 3) 0 6 x1 := by
    have : hv (mu (mu (mu σ 3 6 x1) 171 0 0) 172 9 x1) 3 = hv (mu σ 3 6 x1) 3 := hv_rows (fun k hk => by rw [mu_row (by omega), mu_row (by omega)])
    rw [this, hv_mu0 (by omega)]
  have rv3 : rv (rset (σ 172) 9 x1) = vset (rv (σ 172)) 0 6 x1 := rv_set (k := 0) (i := 6) (by decide)
  refine Inv_home hI ?_ ?_ ?_ ?_ ?_ ?_ ?_ ?_
  · intro o ho h3 n1
    have n2 : o ≠ 171 := by intro h; rw [h] at ho; revert ho; decide
    rw [mu_row n1, mu_row n2, mu_row (by omega)]
  · intro k hk hk2
    rw [rw172]
    exact if_neg (by omega)
  · rw [mu_row (by omega), mu_row (by omega), mu_row (by omega)]
  · rw [mu_row (by omega), mu_at, if_neg (by omega), mu_row (by omega)]
  · rw [mu_row (by omega), mu_at, if_neg (by omega), mu_row (by omega)]
  · rw [mu_row (by omega), mu_at, if_neg (by omega), mu_row (by omega)]
  · rw [mu_row (by omega), mu_at, if_neg (by omega), mu_row (by omega)]
  · rw [rw172]
    refine HR_mono (HR_upd hI.1 ?_ ⟨N, ?_⟩ ?_ ?_ ?_ ?_) (by omega)
    · rw [rv3, ← e, ← hv3]
      rfl
    · rw [rv3]
      have gw2 : GV (rv (σ 172)) N := gw
      obtain ⟨-, b1, b2, b3, b4, b5, -⟩ := gw2
      exact GV_0 gw (fun k i hk => by unfold vset; rw [if_neg (by omega)]) rfl b1 b2 b3 b4 b5
    · exact if_neg (by omega)
    · exact if_neg (by omega)
    · intro i hi
      show mu (mu (mu σ 3 6 x1) 171 0 0) 172 9 x1 11 i = σ 11 i
      rw [mu_row (by omega), mu_row (by omega), mu_row (by omega)]
    · intro k k1 k2
      exact if_neg (by omega)
theorem e_undo {σ : MS} {n c : Nat} (hn : 6000 ≤ n) (hc : c ≤ 12) (h : σ 171 7 = nN c) (h1 : 1 ≤ c) : f_X12_undo n σ = some (1, rsw (mu (mu σ 171 0 0) 171 7 (nN (c - 1))) 172 (fun k => if k < 474 then σ 176 (474 * (c - 1) + k) else σ 172 k)) := by
  have h7 : mu σ 171 0 0 171 7 = nN c := by rw [mu_at, if_neg (by omega)]; exact h
  have ec : nN c - 1 = nN (c - 1) := by rw [l1, nN_sub h1]
  have ne0 : (nN c = 0) = False := by rw [l0, nN_eq (by omega) (by omega)]; exact eq_false (by omega)
  simp only [f_X12_undo, ltM_s, h7, ne0, if_false, ec]
  have e : rsw (mu (mu σ 171 0 0) 171 7 (nN (c - 1))) 172 (fun k => if k < 474 then σ 176 (474 * (c - 1) + k) else σ 172 k) = fR 474 (fun i s => mu s 172 (0 + i) (s 176 (474 * (c - 1) + i))) (mu (mu σ 171 0 0) 171 7 (nN (c - 1))) := by
    rw [cp_fold (by omega)]
    congr 1
    funext k
    rw [mu_row (show 176 ≠ 171 by omega), mu_row (show 176 ≠ 171 by omega), mu_row (show 172 ≠ 171 by omega), mu_row (show 172 ≠ 171 by omega)]
    by_cases ck : k < 474
    · rw [if_pos ck, if_pos (by omega), Nat.sub_zero]
    · rw [if_neg ck, if_neg (by omega)]
  rw [e]
  refine itr_0P (fun (s : MS) i => (i, s)) 474 (fun i s => mu s 172 (0 + i) (s 176 (474 * (c - 1) + i))) (fun s => ((1 : Int32), s)) (fun _ s => s 171 7 = nN (c - 1)) (by omega) _ (by rw [mu_own]; rfl) ?_ ?_
  · intro i s hi hs
    refine ⟨?_, by rw [mu_row (show 171 ≠ 172 by omega)]; exact hs⟩
    have e2 : 474 * nN (c - 1) + nN i = nN (474 * (c - 1) + i) := by rw [l474, nN_mul, nN_add]
    have hlt : 474 * (c - 1) ≤ 474 * 11 := Nat.mul_le_mul_left 474 (by omega)
    simp (disch := omega) only [L_X12_undo_26, l474, le_f, if_false, hs]
    rw [← l474, e2]
    simp (disch := omega) only [le_f, le_t, lt_f, lt_t, if_false, if_true, bnd_s, ite_bI, ok_bI, ok_0, ok_1, ltM_s, nN_s, Option.map_some, inb_nN, ix_nN, it_t, it_f, true_or, or_true, Nat.zero_add]
  · intro s _
    simp (disch := omega) only [L_X12_undo_26, l474, le_f, le_t, lt_f, lt_t, if_false, if_true, bnd_s, ite_bI, ok_bI, ok_0, ok_1, ltM_s, nN_s, Option.map_some, inb_nN, ix_nN, it_t, it_f, true_or, or_true]
theorem s_45 {j n : Nat} {σ : MS} {x1 x2 x3 x4 x5 : Int32} (hn : 6000 ≤ n) (hI : Inv j σ) : ∃ τ, step_45 n x1 x2 x3 x4 x5 σ = some τ ∧ Inv (j + 1) τ := by
  have hI' := hI
  obtain ⟨i1, i2, i3, ⟨a, c, k1, k2, k3, k4, k5, k6⟩, ⟨L, l1', l2, l3, l4⟩, i6⟩ := hI
  unfold step_45
  by_cases hc0 : c = 0
  · subst hc0
    have h7 : mu σ 171 0 0 171 7 = 0 := by rw [mu_at, if_neg (by omega)]; exact k5
    have k4' : σ 0 16 = 0 := k4
    have n0 : ¬ (0 : Int32) < 0 := by decide
    simp only [f_X11_undo, f_X12_undo, k4', n0, if_false, bnd_s, ltM_s, h7, if_true]
    exact ⟨_, rfl, Inv_mono (Inv_same hI' (Sm_thr σ 0)) (by omega)⟩
  · have hp := Nat.mod_lt (a + (c - 1)) (show 0 < 12 by omega)
    obtain ⟨τ, hb1, hb2, hb3, hb4⟩ := e_become (mu σ 0 16 (nN (c - 1))) (h0 := 3) (h1 := 63 + 9 * ((a + (c - 1)) % 12)) (by omega)
    have ecls : f_X11_undo σ = some (1, τ) := by
      have g0 : ((0 : Int32) < nN c) = True := by rw [l0, nN_lt (by omega) (by omega)]; exact eq_true (by omega)
      have ec : nN c - 1 = nN (c - 1) := by rw [l1, nN_sub (by omega)]
      have m15 : mu σ 0 16 (nN (c - 1)) 0 15 = nN a := by rw [mu_at, if_neg (by omega)]; exact k3
      have m16 : mu σ 0 16 (nN (c - 1)) 0 16 = nN (c - 1) := by rw [mu_own]; rfl
      simp only [f_X11_undo, k4, g0, if_true, ltM_s, ec, m15, m16, nN_add]
      rw [l12, remI_nN (by omega) (by omega), inb_nN (by omega) hp, ix_nN (by omega), it_t, hb1, bnd_s]
    have t171 : τ 171 7 = nN c := by rw [hb4 171 (by omega), mu_row (by omega)]; exact k5
    rw [ecls]
    simp only [bnd_s, e_undo hn k2 t171 (by omega), if_true]
    refine ⟨_, rfl, ?_⟩
    have t172 : τ 172 = σ 172 := by rw [hb4 172 (by omega), mu_row (by omega)]
    have t176 : τ 176 = σ 176 := by rw [hb4 176 (by omega), mu_row (by omega)]
    rw [t172, t176]
    obtain ⟨q1, q2⟩ := k6 (c - 1) (by omega)
    have v0 : ∀ k, k ≠ 16 → rsw (mu (mu τ 171 0 0) 171 7 (nN (c - 1))) 172 (fun k => if k < 474 then σ 176 (474 * (c - 1) + k) else σ 172 k) 0 k = σ 0 k := by
      intro k hk
      rw [rsw_row (by omega), mu_row (by omega), mu_row (by omega), hb4 0 (by omega), mu_at, if_neg (by omega)]
    have vrow : ∀ o, o ≠ 172 → o ≠ 171 → o ≠ 0 → (o < 3 ∨ 11 < o) → rsw (mu (mu τ 171 0 0) 171 7 (nN (c - 1))) 172 (fun k => if k < 474 then σ 176 (474 * (c - 1) + k) else σ 172 k) o = σ o := by
      intro o n1 n2 n3 n4
      rw [rsw_row n1, mu_row n2, mu_row n2, hb4 o (by omega), mu_row n3]
    have v171 : ∀ k, k ≠ 7 → k ≠ 0 → rsw (mu (mu τ 171 0 0) 171 7 (nN (c - 1))) 172 (fun k => if k < 474 then σ 176 (474 * (c - 1) + k) else σ 172 k) 171 k = σ 171 k := by
      intro k n1 n2
      rw [rsw_row (by omega), mu_at, if_neg (by omega), mu_at, if_neg (by omega), hb4 171 (by omega), mu_row (by omega)]
    have w2 : (fun k => if k < 474 then σ 176 (474 * (c - 1) + k) else σ 172 k) 2 = σ 172 2 := by
      show (if 2 < 474 then σ 176 (474 * (c - 1) + 2) else σ 172 2) = σ 172 2
      rw [if_pos (by omega)]
      exact q2
    refine ⟨?_, ?_, ?_, ⟨a, c - 1, k1, by omega, ?_, ?_, ?_, ?_⟩, ⟨L, l1', ?_, ?_, ?_⟩, ?_⟩
    · rw [rsw_own]
      refine HR_mono (HR_same2 q1 ?_ ?_ ?_) (by omega)
      · intro k i hk hi
        show rsw (mu (mu τ 171 0 0) 171 7 (nN (c - 1))) 172 _ (3 + k) i = σ (63 + 9 * ((a + (c - 1)) % 12) + k) i
        rw [rsw_row (by omega), mu_row (by omega), mu_row (by omega), hb2 k i hk hi, mu_row (by omega)]
      · intro i hi
        show rsw (mu (mu τ 171 0 0) 171 7 (nN (c - 1))) 172 _ (3 + 8) i = σ (63 + 9 * ((a + (c - 1)) % 12) + 8) i
        rw [rsw_row (by omega), mu_row (by omega), mu_row (by omega), hb3 i hi, mu_row (by omega)]
      · intro k hk
        show (if k < 474 then σ 176 (474 * (c - 1) + k) else σ 172 k) = σ 176 (474 * (c - 1) + k)
        rw [if_pos hk]
    · rw [rsw_own]
      refine LWR_same i2 (fun k hk => vrow (30 + k) (by omega) (by omega) (by omega) (by omega)) ?_
      intro k hk hk2
      rcases hk2 with rfl | hk2
      · exact w2
      · show (if k < 474 then σ 176 (474 * (c - 1) + k) else σ 172 k) = σ 172 k
        rw [if_neg (by omega)]
    · rw [v0 17 (by omega), v171 6 (by omega) (by omega), vrow 173 (by omega) (by omega) (by omega) (by omega)]
      rcases i3 with h | ⟨p1, p2, p3, p4⟩
      · exact Or.inl h
      · exact Or.inr ⟨p1, p2, HR_mono (HR_same p3 (fun k hk => vrow (21 + k) (by omega) (by omega) (by omega) (by omega)) (fun _ _ => rfl)) (by omega), LWR_same p4 (fun k hk => vrow (44 + k) (by omega) (by omega) (by omega) (by omega)) (fun _ _ _ => rfl)⟩
    · rw [v0 15 (by omega)]
      exact k3
    · rw [rsw_row (by omega), mu_row (by omega), mu_row (by omega), hb4 0 (by omega), mu_own]
      rfl
    · rw [rsw_row (by omega), mu_own]
      rfl
    · intro i hi
      have hm := Nat.mod_lt (a + i) (show 0 < 12 by omega)
      rw [vrow 176 (by omega) (by omega) (by omega) (by omega), rsw_own]
      refine ⟨HR_mono (HR_same (k6 i (by omega)).1 (fun k hk => vrow _ (by omega) (by omega) (by omega) (by omega)) (fun _ _ => rfl)) (by omega), ?_⟩
      rw [(k6 i (by omega)).2]
      exact w2.symm
    · rw [vrow 1 (by omega) (by omega) (by omega) (by omega)]
      exact l2
    · rw [v171 9 (by omega) (by omega)]
      exact l3
    · intro i hi
      rw [vrow 2 (by omega) (by omega) (by omega) (by omega), vrow 177 (by omega) (by omega) (by omega) (by omega)]
      exact l4 i hi
    · rw [v0 18 (by omega), v171 14 (by omega) (by omega)]
      exact i6
theorem s_46 {j n : Nat} {σ : MS} {x1 x2 x3 x4 x5 : Int32} (hn : 6000 ≤ n) (hI : Inv j σ) : ∃ τ, step_46 n x1 x2 x3 x4 x5 σ = some τ ∧ Inv (j + 1) τ := by
  obtain ⟨i1, i2, i3, ⟨a, c, k1, k2, k3, k4, k5, k6⟩, ⟨L, l1', l2, l3, l4⟩, i6⟩ := hI
  obtain ⟨τ1, b1, b2⟩ := e_become σ (h0 := 21) (h1 := 3) (by omega)
  obtain ⟨τ2, c1, c2⟩ := e_lbecome τ1 (h0 := 44) (h1 := 30) (by omega)
  have ecls : f_X11_image σ = some (0, mu τ2 0 17 1) := by
    simp only [f_X11_image, b1, c1, bnd_s, ltM_s]
  unfold step_46
  rw [ecls]
  simp only [bnd_s, e_image _ hn]
  refine ⟨_, rfl, ?_⟩
  have r172 : mu τ2 0 17 1 172 = σ 172 := by rw [mu_row (by omega), c2.2.2.2 172 (by omega), b2.2.2 172 (by omega)]
  have r173 : mu τ2 0 17 1 173 = σ 173 := by rw [mu_row (by omega), c2.2.2.2 173 (by omega), b2.2.2 173 (by omega)]
  rw [r172, r173]
  generalize hυ : mu (rsw (mu (mu τ2 0 17 1) 171 0 0) 173 (fun k => if k < 1323 then σ 172 k else σ 173 k)) 171 6 1 = υ
  have vrow : ∀ o, o ≠ 171 → o ≠ 173 → o ≠ 0 → (o < 21 ∨ 29 < o) → (o < 44 ∨ 48 < o) → υ o = σ o := by
    intro o n1 n2 n3 n4 n5
    rw [← hυ, mu_row n1, rsw_row n2, mu_row n1, mu_row n3, c2.2.2.2 o (by omega), b2.2.2 o (by omega)]
  have v0 : ∀ k, k ≠ 17 → υ 0 k = σ 0 k := by
    intro k hk
    rw [← hυ, mu_row (by omega), rsw_row (by omega), mu_row (by omega), mu_at, if_neg (by omega), c2.2.2.2 0 (by omega), b2.2.2 0 (by omega)]
  have v171 : ∀ k, k ≠ 6 → k ≠ 0 → υ 171 k = σ 171 k := by
    intro k n1 n2
    rw [← hυ, mu_at, if_neg (by omega), rsw_row (by omega), mu_at, if_neg (by omega), mu_row (by omega), c2.2.2.2 171 (by omega), b2.2.2 171 (by omega)]
  have v173 : υ 173 = fun k => if k < 1323 then σ 172 k else σ 173 k := by rw [← hυ, mu_row (by omega), rsw_own]
  refine ⟨?_, ?_, Or.inr ⟨?_, ?_, ?_, ?_⟩, ⟨a, c, k1, k2, ?_, ?_, ?_, ?_⟩, ⟨L, l1', ?_, ?_, ?_⟩, ?_⟩
  · rw [vrow 172 (by omega) (by omega) (by omega) (by omega) (by omega)]
    exact HR_mono (HR_same i1 (fun k hk => vrow (3 + k) (by omega) (by omega) (by omega) (by omega) (by omega)) (fun _ _ => rfl)) (by omega)
  · rw [vrow 172 (by omega) (by omega) (by omega) (by omega) (by omega)]
    exact LWR_same i2 (fun k hk => vrow (30 + k) (by omega) (by omega) (by omega) (by omega) (by omega)) (fun _ _ _ => rfl)
  · rw [← hυ, mu_row (by omega), rsw_row (by omega), mu_row (by omega), mu_own]
    rfl
  · rw [← hυ, mu_own]
    rfl
  · refine HR_mono (HR_same2 i1 ?_ ?_ ?_) (by omega)
    · intro k i hk hi
      have hk9 : k < 9 := by omega
      show υ (21 + k) i = σ (3 + k) i
      rw [← hυ, mu_row (by omega), rsw_row (by omega), mu_row (by omega), mu_row (by omega), c2.2.2.2 (21 + k) (by omega), b2.1 k i hk hi]
    · intro i hi
      show υ (21 + 8) i = σ (3 + 8) i
      rw [← hυ, mu_row (by omega), rsw_row (by omega), mu_row (by omega), mu_row (by omega), c2.2.2.2 (21 + 8) (by omega), b2.2.1 i hi]
    · intro k hk
      rw [v173]
      exact if_pos (by omega)
  · refine LWR_same2 i2 ?_ ?_ ?_ ?_
    · show υ (44 + 0) 0 = σ (30 + 0) 0
      rw [← hυ, mu_row (by omega), rsw_row (by omega), mu_row (by omega), mu_row (by omega)]
      show τ2 44 0 = σ 30 0
      rw [c2.1, b2.2.2 30 (by omega)]
    · intro l hl
      obtain ⟨d1, d2, d3⟩ := c2.2.1 l hl
      refine ⟨?_, ?_, ?_⟩
      · show υ (44 + 1) l = σ (30 + 1) l
        rw [← hυ, mu_row (by omega), rsw_row (by omega), mu_row (by omega), mu_row (by omega), d1, b2.2.2 (30 + 1) (by omega)]
      · show υ (44 + 2) l = σ (30 + 2) l
        rw [← hυ, mu_row (by omega), rsw_row (by omega), mu_row (by omega), mu_row (by omega), d2, b2.2.2 (30 + 2) (by omega)]
      · show υ (44 + 3) l = σ (30 + 3) l
        rw [← hυ, mu_row (by omega), rsw_row (by omega), mu_row (by omega), mu_row (by omega), d3, b2.2.2 (30 + 3) (by omega)]
    · intro i hi
      show υ (44 + 4) i = σ (30 + 4) i
      rw [← hυ, mu_row (by omega), rsw_row (by omega), mu_row (by omega), mu_row (by omega), c2.2.2.1 i hi, b2.2.2 (30 + 4) (by omega)]
    · intro k hk _
      rw [v173]
      exact if_pos (by omega)
  · rw [v0 15 (by omega)]; exact k3
  · rw [v0 16 (by omega)]; exact k4
  · rw [v171 7 (by omega) (by omega)]; exact k5
  · intro i hi
    have hm := Nat.mod_lt (a + i) (show 0 < 12 by omega)
    rw [vrow 176 (by omega) (by omega) (by omega) (by omega) (by omega), vrow 172 (by omega) (by omega) (by omega) (by omega) (by omega)]
    exact ⟨HR_mono (HR_same (k6 i hi).1 (fun k hk => vrow _ (by omega) (by omega) (by omega) (by omega) (by omega)) (fun _ _ => rfl)) (by omega), (k6 i hi).2⟩
  · rw [vrow 1 (by omega) (by omega) (by omega) (by omega) (by omega)]; exact l2
  · rw [v171 9 (by omega) (by omega)]; exact l3
  · intro i hi
    rw [vrow 2 (by omega) (by omega) (by omega) (by omega) (by omega), vrow 177 (by omega) (by omega) (by omega) (by omega) (by omega)]
    exact l4 i hi
  · rw [v0 18 (by omega), v171 14 (by omega) (by omega)]; exact i6
