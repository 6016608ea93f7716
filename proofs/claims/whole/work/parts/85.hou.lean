/-! layer 2: house -/
def bef (m : MS) : MS := rsw m 174 (fun k => if k < 1323 then m 172 k else m 174 k)
theorem bef_o {m : MS} {o : Nat} (h : o ≠ 174) : bef m o = m o := rsw_row h
theorem bef_174 (m : MS) : bef m 174 = fun k => if k < 1323 then m 172 k else m 174 k := rsw_own m 174 _
theorem e_house {n : Nat} {m t : MS} {x : Int32} {r : Int32 × MS} (hn : 6000 ≤ n) (hR : f_X12_readAll n 1 (bef m) = some (x, t)) (hJ : (if 0 ≤ x then J_X12_house_46 n x (-1) t else J_X12_house_46 n x (t 171 12) t) = some r) : f_X12_house n m = some r := by
  have e : fR 1323 (fun i s => mu s 174 (0 + i) (s 172 (0 + i))) m = bef m := by
    rw [cp_fold (by omega)]
    unfold bef
    congr 1
    funext k
    by_cases c : k < 1323
    · rw [if_pos c, if_pos (by omega)]
      congr 1
      omega
    · rw [if_neg c, if_neg (by omega)]
  unfold f_X12_house
  refine itr_count (f := L_X12_house_2 n m) (fun i => (nN i, fR i (fun i s => mu s 174 (0 + i) (s 172 (0 + i))) m)) 1323 r ?_ ?_ n 0 (by omega) (by omega)
  · intro i hi
    simp (disch := omega) only [L_X12_house_2, l1323, le_f, le_t, lt_f, lt_t, if_false, if_true, bnd_s, ite_bI, ok_bI, ok_0, ok_1, ltM_s, nN_s, Option.map_some, inb_nN, ix_nN, it_t, it_f, true_or, or_true, Nat.zero_add, fR_s]
  · have e1 : L_X12_house_2 n m (nN 1323, bef m) = some (.inr r) := by
      simp (disch := omega) only [L_X12_house_2, l1323, le_f, le_t, lt_f, lt_t, if_false, if_true, bnd_s, ite_bI, ok_bI, ok_0, ok_1, ltM_s, nN_s, Option.map_some, inb_nN, ix_nN, it_t, it_f, true_or, or_true, hR]
      rw [hJ]; rfl
    rw [← e] at e1
    exact e1
def bck (s : MS) : MS := rsw s 172 (fun k => if k < 1323 then s 174 k else s 172 k)
theorem bck_o {m : MS} {o : Nat} (h : o ≠ 172) : bck m o = m o := rsw_row h
theorem bck_k {m : MS} {k : Nat} (h : k < 1323) : bck m 172 k = m 174 k := by
  unfold bck
  rw [rsw_own, if_pos h]
theorem e_back90 {n : Nat} (s : MS) (hn : 6000 ≤ n) : J_X12_house_90 n s = some (0, bck s) := by
  have e : bck s = fR 1323 (fun i s => mu s 172 (0 + i) (s 174 (0 + i))) s := by
    rw [cp_fold (by omega)]
    unfold bck
    congr 1
    funext k
    by_cases c : k < 1323
    · rw [if_pos c, if_pos (by omega)]
      congr 1
      omega
    · rw [if_neg c, if_neg (by omega)]
  rw [e]
  unfold J_X12_house_90
  refine itr_0 (fun (s : MS) i => (i, s)) 1323 (fun i s => mu s 172 (0 + i) (s 174 (0 + i))) (fun s => ((0 : Int32), s)) (by omega) s ?_ ?_
  · intro i s hi
    simp (disch := omega) only [L_X12_house_92, l1323, le_f, le_t, lt_f, lt_t, if_false, if_true, bnd_s, ite_bI, ok_bI, ok_0, ok_1, ltM_s, nN_s, Option.map_some, inb_nN, ix_nN, it_t, it_f, true_or, or_true, Nat.zero_add]
  · intro s
    simp (disch := omega) only [L_X12_house_92, l1323, le_f, le_t, lt_f, lt_t, if_false, if_true, bnd_s, ite_bI, ok_bI, ok_0, ok_1, ltM_s, nN_s, Option.map_some, inb_nN, ix_nN, it_t, it_f, true_or, or_true]
theorem e_J46n {n : Nat} {t : MS} (hn : 6000 ≤ n) (f : Int32) : J_X12_house_46 n (-1) f t = some (0, bck (mu (mu t 171 14 f) 171 0 1)) := by
  have h := e_X12_throwsIf (σ := mu t 171 14 f) true 1
  have h' : f_X12_throwsIf 1 1 (mu t 171 14 f) = some (1, mu (mu t 171 14 f) 171 0 1) := h
  simp only [J_X12_house_46, ltM_s, m1_0le, if_false, J_X12_house_59, h', bnd_s, one_ne0, e_back90 _ hn]
theorem e_J46y {n y tx : Nat} {t : MS} (hn : 6000 ≤ n) (hy : y < 100) (htx : tx ≤ 12) (h1 : t 172 1 = nN tx) (f : Int32) : J_X12_house_46 n (nN y) f t = if tx = 12 then some (0, bck (mu (mu t 171 14 f) 171 0 2)) else some (nN (tx + 1), mu (mu (mu t 171 14 f) 172 1 (nN (tx + 1))) 171 7 0) := by
  have h0 : f_X12_throwsIf 0 1 (mu t 171 14 f) = some (0, mu t 171 14 f) := e_X12_throwsIf (σ := mu t 171 14 f) false 1
  have h2 : f_X12_throwsIf 1 2 (mu t 171 14 f) = some (1, mu (mu t 171 14 f) 171 0 2) := e_X12_throwsIf (σ := mu t 171 14 f) true 2
  have h3 : f_X12_throwsIf 0 2 (mu t 171 14 f) = some (0, mu t 171 14 f) := e_X12_throwsIf (σ := mu t 171 14 f) false 2
  have w1 : mu t 171 14 f 172 1 = nN tx := by rw [mu_row (by omega)]; exact h1
  have w2 : mu (mu (mu t 171 14 f) 172 1 (nN (tx + 1))) 171 7 0 172 1 = nN (tx + 1) := by rw [mu_row (by omega), mu_own, if_pos rfl]
  simp (disch := omega) only [J_X12_house_46, ltM_s, nN_0le, if_true, J_X12_house_59, h0, bnd_s, w1, l12, nN_eq]
  by_cases c : tx = 12
  · rw [if_pos c, if_pos c]
    simp only [J_X12_house_83, h2, bnd_s, one_ne0, if_false, e_back90 _ hn]
  · rw [if_neg c, if_neg c]
    simp only [J_X12_house_83, h3, bnd_s, if_true, w1, nN_s, ltM_s, w2]
theorem es_n {o o' : Nat} (h : es o = true) (h' : es o' = false) : o ≠ o' := fun e => by rw [e, h'] at h; cases h
theorem es_12 {o : Nat} (h : es o = true) : o < 12 ∨ 20 < o := by
  have := of_decide_eq_true h
  omega
theorem s_2 {j n : Nat} {σ : MS} {x1 x2 x3 x4 x5 : Int32} (hn : 6000 ≤ n) (hI : Inv j σ) : ∃ τ, step_2 n x1 x2 x3 x4 x5 σ = some τ ∧ Inv (j + 1) τ := by
  have hI' := hI
  obtain ⟨i1, i2, i3, ⟨pa, pc, k1, k2, k3, k4, k5, k6⟩, ⟨L, m1, m2, m3, m4⟩, i6⟩ := hI
  obtain ⟨N, hv3, gh, gw⟩ := Inv_v hI'
  have g : GV (rv (σ 172)) N := gw
  have hT : ∀ i, i < L → ix (σ 2 i) < 256 ∧ σ 2 i = nN (ix (σ 2 i)) ∧ σ 177 i = sb (ix (σ 2 i)) := by
    intro i hi
    obtain ⟨b, b1, b2, b3⟩ := m4 i hi
    rw [b2, ix_nN (by omega)]
    exact ⟨b1, rfl, b3⟩
  obtain ⟨ok, V', a', h1, h2, h3, h4⟩ := h_tells (T := fun i => ix (σ 2 i)) (L := L) hn m1 g
  obtain ⟨τ1, b1, b2⟩ := e_become σ (h0 := 12) (h1 := 3) (by omega)
  have tc : TC (fun i => ix (σ 2 i)) L τ1 := ⟨m1, by rw [b2.2.2 1 (by omega)]; exact m2, fun i hi => by rw [b2.2.2 2 (by omega)]; exact ⟨(hT i hi).1, (hT i hi).2.1⟩⟩
  have hv12' : hv τ1 12 = rv (σ 172) := by
    rw [← hv3]
    funext k i
    unfold hv
    by_cases c : i < rng k
    · rw [if_pos c, if_pos c, b2.1 k i ?_ c]
      apply Classical.byContradiction
      intro hk
      rw [rng_hi (by omega)] at c
      omega
    · rw [if_neg c, if_neg c]
  obtain ⟨t, c1, c2, c3, c4⟩ := h3 τ1 tc hv12'
  -- the reference from any memory that has world and tape
  have mod : ∀ m : MS, m 171 9 = nN L → m 177 = σ 177 → m 172 = σ 172 → ∃ x t, f_X12_readAll n 1 m = some (x, t) ∧ (ok = true → (∃ y, x = nN y ∧ y < 100) ∧ rv (t 172) = V') ∧ (ok = false → x = -1 ∧ t 171 12 = nN a') ∧ frR m t ∧ (∀ k, (k = 1 ∨ k = 2 ∨ k = 7 ∨ k = 8 ∨ 234 ≤ k) → t 172 k = m 172 k) := by
    intro m e1 e2 e3
    exact h4 m e1 (fun i hi => by rw [e2]; exact ⟨(hT i hi).1, (hT i hi).2.2⟩) (by rw [e3])
  unfold step_2
  cases ok
  · -- refused
    have c3' := c3 rfl
    have ecls : f_L_house n σ = some (1, mu (mu t 0 18 (nN a')) 1 1 0) := by
      simp only [f_L_house, f_X11_house, b1, bnd_s, c1, bI_f, f_X11_textWasRead, J_X11_textWasRead_16, if_true, c3', ltM_s, thn_r]
    generalize hu : mu (mu t 0 18 (nN a')) 1 1 0 = u at *
    have uo : ∀ o, o ≠ 0 → o ≠ 1 → (o < 12 ∨ 20 < o) → u o = σ o := fun o n1 n2 n3 => by rw [← hu, mu_row n2, mu_row n1, c4.1 o n2 (by omega), b2.2.2 o (by omega)]
    obtain ⟨x, t2, r1, -, r3, r4, r5⟩ := mod (bef u) (by rw [bef_o (by omega), uo 171 (by omega) (by omega) (by omega)]; exact m3) (by rw [bef_o (by omega), uo 177 (by omega) (by omega) (by omega)]) (by rw [bef_o (by omega), uo 172 (by omega) (by omega) (by omega)])
    obtain ⟨rx, ra⟩ := r3 rfl
    subst rx
    have emod : f_X12_house n u = some (0, bck (mu (mu t2 171 14 (nN a')) 171 0 1)) := e_house hn r1 (by rw [if_neg (show ¬ (0 : Int32) ≤ -1 by decide), ra]; exact e_J46n hn _)
    generalize hυ : bck (mu (mu t2 171 14 (nN a')) 171 0 1) = υ at *
    have vo : ∀ o, o ≠ 0 → o ≠ 1 → (o < 12 ∨ 20 < o) → o ≠ 171 → o ≠ 172 → o ≠ 174 → υ o = σ o := fun o n1 n2 n3 n4 n5 n6 => by rw [← hυ, bck_o n5, mu_row n4, mu_row n4, r4.1 o n4 n5, bef_o n6, uo o n1 n2 n3]
    have v0 : υ 0 = u 0 := by rw [← hυ, bck_o (by omega), mu_row (by omega), mu_row (by omega), r4.1 0 (by omega) (by omega), bef_o (by omega)]
    have v1 : υ 1 = u 1 := by rw [← hυ, bck_o (by omega), mu_row (by omega), mu_row (by omega), r4.1 1 (by omega) (by omega), bef_o (by omega)]
    have v171 : ∀ k, k ≠ 14 → k ≠ 0 → υ 171 k = t2 171 k := fun k n1 n2 => by rw [← hυ, bck_o (by omega), mu_own, if_neg n2, mu_own, if_neg n1]
    have u171 : bef u 171 = σ 171 := by rw [bef_o (by omega), uo 171 (by omega) (by omega) (by omega)]
    rw [ecls, bnd_s, emod, bnd_s]
    refine ⟨υ, cmp_ok ?_ (fun h => by rw [one_ne0] at h; exact h.elim), Inv_fail hI' ?_ ?_ ?_ ?_ ?_ ?_ ?_ ?_⟩
    · show υ 171 0 = 1
      rw [← hυ, bck_o (by omega), mu_own, if_pos rfl]
    · intro o ho n0 n2 n172 n177
      exact vo o n0 (es_n ho (by decide)) (es_12 ho) (es_n ho (by decide)) n172 (es_n ho (by decide))
    · intro k hk
      rw [← hυ, bck_k hk, mu_row (by omega), mu_row (by omega), r4.1 174 (by omega) (by omega), bef_174]
      show (if k < 1323 then u 172 k else u 174 k) = _
      rw [if_pos hk, uo 172 (by omega) (by omega) (by omega)]
    · intro k hk
      rw [v0, ← hu, mu_row (by omega), mu_own, if_neg hk, c4.1 0 (by omega) (by omega), b2.2.2 0 (by omega)]
    · rw [v1, ← hu, mu_own, if_pos rfl]
    · rw [v171 9 (by omega) (by omega)]; exact r4.2.2.1
    · rw [v171 6 (by omega) (by omega), r4.2.2.2 6 (by omega) (by omega) (by omega) (by omega) (by omega) (by omega) (by omega), u171]
    · rw [v171 7 (by omega) (by omega), r4.2.2.2 7 (by omega) (by omega) (by omega) (by omega) (by omega) (by omega) (by omega), u171]
    · have e1 : υ 171 14 = nN a' := by rw [← hυ, bck_o (by omega), mu_own, if_neg (by omega), mu_own, if_pos rfl]
      rw [v0, e1, ← hu, mu_row (by omega), mu_own, if_pos rfl]
  · -- taken
    obtain ⟨N', g'⟩ := h2 rfl
    have c2' := c2 rfl
    obtain ⟨-, ⟨tx, htx, htx12⟩, -⟩ := id g
    have hV1 : V' 0 1 = nN tx := by
      obtain ⟨x, t2, r1, r2, -, -, r5⟩ := mod σ m3 rfl rfl
      rw [← (r2 rfl).2, ← htx]
      show t2 172 1 = σ 172 1
      exact r5 1 (by omega)
    have s31 : σ 3 1 = nN tx := by
      rw [← hv_0 σ 3 1 (by omega), hv3]; exact htx
    generalize hu : mu (mu t 0 18 (-1)) 1 1 0 = u
    have uo : ∀ o, o ≠ 0 → o ≠ 1 → (o < 12 ∨ 20 < o) → u o = σ o := fun o n1 n2 n3 => by rw [← hu, mu_row n2, mu_row n1, c4.1 o n2 (by omega), b2.2.2 o (by omega)]
    have u31 : u 3 1 = nN tx := by rw [uo 3 (by omega) (by omega) (by omega)]; exact s31
    have etw : f_X11_textWasRead 1 t = some (0, u) := by
      simp only [f_X11_textWasRead, J_X11_textWasRead_16, one_ne0, if_false, ltM_s, hu]
    by_cases c12 : tx = 12
    · have ecls : f_L_house n σ = some (2, u) := by
        have e41 : ((4 : Nat) = 1) = False := by decide
        simp (disch := omega) only [f_L_house, f_X11_house, b1, bnd_s, c1, bI_t, etw, one_ne0, if_false, u31, l12, nN_lt, c12, Nat.lt_irrefl, thn_r, e41, if_true]
      obtain ⟨x, t2, r1, r2, -, r4, r5⟩ := mod (bef u) (by rw [bef_o (by omega), uo 171 (by omega) (by omega) (by omega)]; exact m3) (by rw [bef_o (by omega), uo 177 (by omega) (by omega) (by omega)]) (by rw [bef_o (by omega), uo 172 (by omega) (by omega) (by omega)])
      obtain ⟨⟨y, hy, hy1⟩, rV⟩ := r2 rfl
      subst hy
      have w1 : t2 172 1 = nN tx := by
        rw [r5 1 (by omega), bef_o (by omega), uo 172 (by omega) (by omega) (by omega)]; exact htx
      have emod : f_X12_house n u = some (0, bck (mu (mu t2 171 14 (-1)) 171 0 2)) := e_house hn r1 (by rw [it_0le (by omega), e_J46y hn hy1 htx12 w1, if_pos c12])
      generalize hυ : bck (mu (mu t2 171 14 (-1)) 171 0 2) = υ at *
      have vo : ∀ o, o ≠ 0 → o ≠ 1 → (o < 12 ∨ 20 < o) → o ≠ 171 → o ≠ 172 → o ≠ 174 → υ o = σ o := fun o n1 n2 n3 n4 n5 n6 => by rw [← hυ, bck_o n5, mu_row n4, mu_row n4, r4.1 o n4 n5, bef_o n6, uo o n1 n2 n3]
      have v0 : υ 0 = u 0 := by rw [← hυ, bck_o (by omega), mu_row (by omega), mu_row (by omega), r4.1 0 (by omega) (by omega), bef_o (by omega)]
      have v1 : υ 1 = u 1 := by rw [← hυ, bck_o (by omega), mu_row (by omega), mu_row (by omega), r4.1 1 (by omega) (by omega), bef_o (by omega)]
      have v171 : ∀ k, k ≠ 14 → k ≠ 0 → υ 171 k = t2 171 k := fun k n1 n2 => by rw [← hυ, bck_o (by omega), mu_own, if_neg n2, mu_own, if_neg n1]
      have u171 : bef u 171 = σ 171 := by rw [bef_o (by omega), uo 171 (by omega) (by omega) (by omega)]
      rw [ecls, bnd_s, emod, bnd_s]
      refine ⟨υ, cmp_ok ?_ (fun h => absurd (show (2 : Int32) = 0 from h) (by decide)), Inv_fail hI' ?_ ?_ ?_ ?_ ?_ ?_ ?_ ?_⟩
      · show υ 171 0 = 2
        rw [← hυ, bck_o (by omega), mu_own, if_pos rfl]
      · intro o ho n0 n2 n172 n177
        exact vo o n0 (es_n ho (by decide)) (es_12 ho) (es_n ho (by decide)) n172 (es_n ho (by decide))
      · intro k hk
        rw [← hυ, bck_k hk, mu_row (by omega), mu_row (by omega), r4.1 174 (by omega) (by omega), bef_174]
        show (if k < 1323 then u 172 k else u 174 k) = _
        rw [if_pos hk, uo 172 (by omega) (by omega) (by omega)]
      · intro k hk
        rw [v0, ← hu, mu_row (by omega), mu_own, if_neg hk, c4.1 0 (by omega) (by omega), b2.2.2 0 (by omega)]
      · rw [v1, ← hu, mu_own, if_pos rfl]
      · rw [v171 9 (by omega) (by omega)]; exact r4.2.2.1
      · rw [v171 6 (by omega) (by omega), r4.2.2.2 6 (by omega) (by omega) (by omega) (by omega) (by omega) (by omega) (by omega), u171]
      · rw [v171 7 (by omega) (by omega), r4.2.2.2 7 (by omega) (by omega) (by omega) (by omega) (by omega) (by omega) (by omega), u171]
      · have e1 : υ 171 14 = -1 := by rw [← hυ, bck_o (by omega), mu_own, if_neg (by omega), mu_own, if_pos rfl]
        rw [v0, e1, ← hu, mu_row (by omega), mu_own, if_pos rfl]
    · obtain ⟨τ3, d1, d2⟩ := e_become u (h0 := 3) (h1 := 12) (by omega)
      have hu12 : hv u 12 = V' := by
        rw [← c2', ← hu]
        exact hv_rows (fun k hk => by rw [mu_row (by omega), mu_row (by omega)])
      have t31 : τ3 3 1 = nN tx := by
        have := d2.1 0 1 (by omega) (by rw [rng0]; omega)
        rw [show τ3 3 1 = u 12 1 from this, ← hv_0 u 12 1 (by omega), hu12]
        exact hV1
      generalize hw : mu (mu (mu τ3 3 1 (nN (tx + 1))) 0 16 0) 183 0 (nN (tx + 1)) = w
      have ecls : f_L_house n σ = some (0, w) := by
        have e31 : mu (mu τ3 3 1 (nN (tx + 1))) 0 16 0 3 1 = nN (tx + 1) := by rw [mu_row (by omega), mu_own, if_pos rfl]
        have clt : tx < 12 := by omega
        simp (disch := omega) only [f_L_house, f_X11_house, b1, bnd_s, c1, bI_t, etw, one_ne0, if_false, u31, l12, nN_lt, clt, if_true, d1, t31, nN_s, ltM_s, thn_l, e31, hw]
      have wo : ∀ o, o ≠ 0 → o ≠ 1 → o ≠ 183 → (o < 3 ∨ 20 < o) → w o = σ o := fun o n1 n2 n3 n4 => by rw [← hw, mu_row n3, mu_row n1, mu_row (by omega), d2.2.2 o (by omega), uo o n1 n2 (by omega)]
      obtain ⟨x, t2, r1, r2, -, r4, r5⟩ := mod (bef w) (by rw [bef_o (by omega), wo 171 (by omega) (by omega) (by omega) (by omega)]; exact m3) (by rw [bef_o (by omega), wo 177 (by omega) (by omega) (by omega) (by omega)]) (by rw [bef_o (by omega), wo 172 (by omega) (by omega) (by omega) (by omega)])
      obtain ⟨⟨y, hy, hy1⟩, rV⟩ := r2 rfl
      subst hy
      have b172 : bef w 172 = σ 172 := by rw [bef_o (by omega), wo 172 (by omega) (by omega) (by omega) (by omega)]
      have w1 : t2 172 1 = nN tx := by
        rw [r5 1 (by omega), b172]; exact htx
      generalize hυ : mu (mu (mu t2 171 14 (-1)) 172 1 (nN (tx + 1))) 171 7 0 = υ
      have emod : f_X12_house n w = some (nN (tx + 1), υ) := e_house hn r1 (by rw [it_0le (by omega), e_J46y hn hy1 htx12 w1, if_neg c12, hυ])
      have vo : ∀ o, o ≠ 171 → o ≠ 172 → o ≠ 174 → υ o = w o := fun o n1 n2 n3 => by rw [← hυ, mu_row n1, mu_row n2, mu_row n1, r4.1 o n1 n2, bef_o n3]
      have v171 : ∀ k, k ≠ 14 → k ≠ 7 → υ 171 k = t2 171 k := fun k n1 n2 => by rw [← hυ, mu_own, if_neg n2, mu_row (by omega), mu_own, if_neg n1]
      have v172 : υ 172 = rset (t2 172) 1 (nN (tx + 1)) := by rw [← hυ, mu_row (by omega), mu_rset, mu_row (by omega)]
      have v172k : ∀ k, k ≠ 1 → υ 172 k = t2 172 k := fun k hk => by rw [v172]; unfold rset; rw [if_neg hk]
      have u171 : bef w 171 = σ 171 := by rw [bef_o (by omega), wo 171 (by omega) (by omega) (by omega) (by omega)]
      have w01 : trw 0 1 = 1 := rfl
      have rvυ : rv (υ 172) = vset V' 0 1 (nN (tx + 1)) := by
        rw [v172, show rset (t2 172) 1 (nN (tx + 1)) = rset (t2 172) (trw 0 1) (nN (tx + 1)) from rfl, rv_set (by rw [rng0]; omega), rV]
      have hv3w : hv w 3 = vset V' 0 1 (nN (tx + 1)) := by
        have e1 : hv w 3 = hv (mu τ3 3 1 (nN (tx + 1))) 3 := hv_rows (fun k hk => by rw [← hw, mu_row (by omega), mu_row (by omega)])
        rw [e1, hv_mu0 (by omega)]
        congr 1
        rw [← hu12]
        funext k i
        unfold hv
        by_cases c : i < rng k
        · rw [if_pos c, if_pos c, d2.1 k i ?_ c]
          apply Classical.byContradiction
          intro hk
          rw [rng_hi (by omega)] at c
          omega
        · rw [if_neg c, if_neg c]
      rw [ecls, bnd_s, emod, bnd_s]
      refine ⟨υ, cmp_ok ?_ (fun _ => ?_), Inv_text hI' ?_ ?_ ?_ ?_ ?_ ?_ ?_ ?_ ?_ ?_ ?_ ?_ ?_⟩
      · show υ 171 0 = 0
        rw [v171 0 (by omega) (by omega)]; exact r4.2.1
      · show υ 183 0 = nN (tx + 1)
        rw [vo 183 (by omega) (by omega) (by omega), ← hw, mu_own, if_pos rfl]
      · refine HR_upd i1 ?_ ⟨N', ?_⟩ ?_ ?_ ?_ ?_
        · have e1 : hv υ 3 = hv w 3 := hv_rows (fun k hk => vo (3 + k) (by omega) (by omega) (by omega))
          rw [rvυ, ← hv3w, ← e1]
          rfl
        · rw [rvυ]
          have g2 := g'
          obtain ⟨f0, f1, f2, f3, f4, f5, -⟩ := g'
          exact GV_0 g2 (fun k i hk => vs_ne (fun h => hk h.1)) (vs_ne (by omega)) ⟨tx + 1, vs_eq, by omega⟩ (by rw [vs_ne (by omega)]; exact f2) (by rw [vs_ne (by omega)]; exact f3) (by rw [vs_ne (by omega)]; exact f4) (by rw [vs_ne (by omega)]; exact f5)
        · rw [v172k 7 (by omega), r5 7 (by omega), b172]
        · rw [v172k 8 (by omega), r5 8 (by omega), b172]
        · intro i hi
          show υ (3 + 8) i = σ (3 + 8) i
          rw [vo (3 + 8) (by omega) (by omega) (by omega), ← hw, mu_row (by omega), mu_row (by omega), mu_row (by omega), d2.2.1 i hi, ← hu, mu_row (by omega), mu_row (by omega), c4.1 (12 + 8) (by omega) (by omega), b2.2.1 i hi]
        · intro k h1' h2'
          rw [v172k k (by omega), r5 k (by omega), b172]
      · refine LWR_same i2 (fun k hk => ?_) (fun k hk hk2 => ?_)
        · show υ (30 + k) = σ (30 + k)
          rw [vo (30 + k) (by omega) (by omega) (by omega), wo (30 + k) (by omega) (by omega) (by omega) (by omega)]
        · rw [v172k k (by omega), r5 k (by omega), b172]
      · intro o o1 o2
        rw [vo o (by omega) (by omega) (by omega), wo o (by omega) (by omega) (by omega) (by omega)]
      · intro o o1 o2
        rw [vo o (by omega) (by omega) (by omega), wo o (by omega) (by omega) (by omega) (by omega)]
      · rw [vo 173 (by omega) (by omega) (by omega), wo 173 (by omega) (by omega) (by omega) (by omega)]
      · rw [vo 0 (by omega) (by omega) (by omega), ← hw, mu_row (by omega), mu_own, if_neg (by omega), mu_row (by omega), d2.2.2 0 (by omega), ← hu, mu_row (by omega), mu_own, if_neg (by omega), c4.1 0 (by omega) (by omega), b2.2.2 0 (by omega)]
      · rw [vo 0 (by omega) (by omega) (by omega), ← hw, mu_row (by omega), mu_own, if_pos rfl]
      · rw [vo 0 (by omega) (by omega) (by omega), ← hw, mu_row (by omega), mu_own, if_neg (by omega), mu_row (by omega), d2.2.2 0 (by omega), ← hu, mu_row (by omega), mu_own, if_neg (by omega), c4.1 0 (by omega) (by omega), b2.2.2 0 (by omega)]
      · rw [vo 1 (by omega) (by omega) (by omega), ← hw, mu_row (by omega), mu_row (by omega), mu_row (by omega), d2.2.2 1 (by omega), ← hu, mu_own, if_pos rfl]
      · rw [v171 9 (by omega) (by omega)]; exact r4.2.2.1
      · rw [v171 6 (by omega) (by omega), r4.2.2.2 6 (by omega) (by omega) (by omega) (by omega) (by omega) (by omega) (by omega), u171]
      · rw [← hυ, mu_own, if_pos rfl]
      · have e1 : υ 171 14 = -1 := by rw [← hυ, mu_own, if_neg (by omega), mu_row (by omega), mu_own, if_pos rfl]
        rw [vo 0 (by omega) (by omega) (by omega), e1, ← hw, mu_row (by omega), mu_own, if_neg (by omega), mu_row (by omega), d2.2.2 0 (by omega), ← hu, mu_row (by omega), mu_own, if_pos rfl]
