/-! layer 2: one house becomes another; rows are copied -/
theorem mcp_own {σ : MS} {o0 o1 n j : Nat} (h : j < n) : mcp σ o0 o1 n o1 j = σ o0 j := by
  simp [mcp, va_up, h]
theorem mcp_row {σ : MS} {o0 o1 n a : Nat} (h : a ≠ o1) : mcp σ o0 o1 n a = σ a := by
  simp [mcp, va_up, h]
def Bec (σ τ : MS) (h0 h1 : Nat) : Prop := (∀ k i, k < 8 → i < rng k → τ (h0 + k) i = σ (h1 + k) i) ∧ (∀ i, i < 60 → τ (h0 + 8) i = σ (h1 + 8) i) ∧ (∀ o, (o < h0 ∨ h0 + 8 < o) → τ o = σ o)
theorem e_become (σ : MS) {h0 h1 : Nat} (hd : h0 + 8 < h1 ∨ h1 + 8 < h0) : ∃ τ, f_X4_become h0 h1 σ = some (0, τ) ∧ Bec σ τ h0 h1 := by
  unfold f_X4_become
  simp only [ltM_s]
  refine ⟨_, rfl, ?_, ?_, ?_⟩
  · intro k i hk hi
    have hk' : k = 0 ∨ k = 1 ∨ k = 2 ∨ k = 3 ∨ k = 4 ∨ k = 5 ∨ k = 6 ∨ k = 7 := by omega
    rcases hk' with h | h | h | h | h | h | h | h <;> subst h
    · have hi' : i < 8 := hi
      simp (disch := omega) only [Nat.add_zero, mcp_row, mu_own, mu_row]
      have hi8 : i = 0 ∨ i = 1 ∨ i = 2 ∨ i = 3 ∨ i = 4 ∨ i = 5 ∨ i = 6 ∨ i = 7 := by omega
      rcases hi8 with h | h | h | h | h | h | h | h <;> subst h <;> rfl
    · have hi' : i < 8 := hi
      simp (disch := omega) only [mcp_own, mcp_row, mu_row]
    · have hi' : i < 8 := hi
      simp (disch := omega) only [mcp_own, mcp_row, mu_row]
    · have hi' : i < 8 := hi
      simp (disch := omega) only [mcp_own, mcp_row, mu_row]
    · have hi' : i < 8 := hi
      simp (disch := omega) only [mcp_own, mcp_row, mu_row]
    · have hi' : i < 64 := hi
      simp (disch := omega) only [mcp_own, mcp_row, mu_row]
    · have hi' : i < 64 := hi
      simp (disch := omega) only [mcp_own, mcp_row, mu_row]
    · have hi' : i < 64 := hi
      simp (disch := omega) only [mcp_own, mcp_row, mu_row]
  · intro i hi
    simp (disch := omega) only [mcp_own, mcp_row, mu_row]
  · intro o ho
    simp (disch := omega) only [mcp_row, mu_row]
theorem HR_same2 {H H' : Nat → Nat → Int32} {w w' : Nat → Int32} {B : Nat} (h : HR H w B) (hH : ∀ k i, k < 8 → i < rng k → H' k i = H k i) (hR : ∀ i, i < 60 → H' 8 i = H 8 i) (hw : ∀ k, k < 474 → w' k = w k) : HR H' w' B := by
  obtain ⟨h1, N, f, h2, h3, h4, h5, h6⟩ := h
  have e1 : hvr H' = hvr H := by
    funext k i
    unfold hvr
    by_cases c : i < rng k
    · rw [if_pos c, if_pos c, hH k i _ c]
      apply Classical.byContradiction
      intro hc
      rw [rng_hi (by omega)] at c
      omega
    · rw [if_neg c, if_neg c]
  have e2 : rv w' = rv w := rv_congr (fun j hj => hw j (by omega))
  refine ⟨by rw [e1, e2, h1], N, f, by rw [e2]; exact h2, by rw [hw 7 (by omega)]; exact h3, h4, by rw [hw 8 (by omega)]; exact h5, ?_⟩
  intro ago ha hb
  obtain ⟨d, a, b, r, c1, c2, c3, c4, c5, c6, c7, c8, c9⟩ := h6 ago ha hb
  exact ⟨d, a, b, r, c1, c2, c3, c4, by rw [hR _ (Nat.mod_lt _ (by omega))]; exact c5, by rw [hw _ (by omega)]; exact c6, by rw [hw _ (by omega)]; exact c7, by rw [hw _ (by omega)]; exact c8, by rw [hw _ (by omega)]; exact c9⟩
theorem HR_bec {σ τ : MS} {h0 h1 B : Nat} {w : Nat → Int32} (h : HR (rows σ h1) w B) (b : Bec σ τ h0 h1) : HR (rows τ h0) w B := HR_same2 h b.1 b.2.1 (fun _ _ => rfl)
def LBec (σ τ : MS) (h0 h1 : Nat) : Prop := τ h0 0 = σ h1 0 ∧ (∀ l, l < 12 → τ (h0 + 1) l = σ (h1 + 1) l ∧ τ (h0 + 2) l = σ (h1 + 2) l ∧ τ (h0 + 3) l = σ (h1 + 3) l) ∧ (∀ i, i < 400 → τ (h0 + 4) i = σ (h1 + 4) i) ∧ (∀ o, (o < h0 ∨ h0 + 4 < o) → τ o = σ o)
theorem e_lbecome (σ : MS) {h0 h1 : Nat} (hd : h0 + 6 < h1 ∨ h1 + 6 < h0) : ∃ τ, f_X6_become h0 h1 σ = some (0, τ) ∧ LBec σ τ h0 h1 := by
  unfold f_X6_become
  simp only [ltM_s]
  refine ⟨_, rfl, ?_, ?_, ?_, ?_⟩
  · simp (disch := omega) only [mcp_row, mu_own, mu_row]
    rfl
  · intro l hl
    refine ⟨?_, ?_, ?_⟩ <;> simp (disch := omega) only [mcp_own, mcp_row, mu_row]
  · intro i hi
    simp (disch := omega) only [mcp_own, mcp_row, mu_row]
  · intro o ho
    simp (disch := omega) only [mcp_row, mu_row]
theorem LWR_same2 {G G' : Nat → Nat → Int32} {w w' : Nat → Int32} (h : LWR G w) (h0 : G' 0 0 = G 0 0) (hG : ∀ l, l < 12 → G' 1 l = G 1 l ∧ G' 2 l = G 2 l ∧ G' 3 l = G 3 l) (hS : ∀ i, i < 400 → G' 4 i = G 4 i) (hw : ∀ k, k < 1323 → (k = 2 ∨ 474 ≤ k) → w' k = w k) : LWR G' w' := by
  rcases h with ⟨h1, h2⟩ | ⟨L, st, op, ar, h1, h2, h3, h4, h5, h6, h7⟩
  · exact Or.inl ⟨by rw [h0]; exact h1, by rw [hw 2 (by omega) (Or.inl rfl)]; exact h2⟩
  · refine Or.inr ⟨L, st, op, ar, h1, by rw [h0]; exact h2, by rw [hw 2 (by omega) (Or.inl rfl)]; exact h3, by rw [hw 474 (by omega) (by omega)]; exact h4, h5, ?_, ?_⟩
    · intro l hl
      obtain ⟨g1, g2, g3⟩ := hG l (by omega)
      obtain ⟨a1, a2, a3, a4, a5, ⟨k, b1, b2, b3⟩, ⟨m, c1, c2, c3⟩, a6⟩ := h6 l hl
      exact ⟨a1, a2, by rw [g3]; exact a3, by rw [hw _ (by omega) (by omega)]; exact a4, by rw [hw _ (by omega) (by omega)]; exact a5, ⟨k, b1, by rw [g1]; exact b2, by rw [hw _ (by omega) (by omega)]; exact b3⟩, ⟨m, c1, by rw [g2]; exact c2, by rw [hw _ (by omega) (by omega)]; exact c3⟩, a6⟩
    · intro i hi
      have hst : st L ≤ 400 := by
        cases L with
        | zero => omega
        | succ l => exact (h6 l (by omega)).2.1
      obtain ⟨a1, a2, a3, a4, a5⟩ := h7 i hi
      exact ⟨a1, a2, by rw [hS i (by omega)]; exact a3, by rw [hw _ (by omega) (by omega)]; exact a4, by rw [hw _ (by omega) (by omega)]; exact a5⟩
theorem LWR_bec {σ τ : MS} {h0 h1 : Nat} {w : Nat → Int32} (h : LWR (rows σ h1) w) (b : LBec σ τ h0 h1) : LWR (rows τ h0) w := LWR_same2 h b.1 b.2.1 b.2.2.1 (fun _ _ _ => rfl)
/-! the reference copies -/
def rsw (σ : MS) (o : Nat) (r : Nat → Int32) : MS := fun a => if a = o then r else σ a
theorem rsw_own (σ : MS) (o : Nat) (r : Nat → Int32) : rsw σ o r o = r := if_pos rfl
theorem rsw_row {σ : MS} {o a : Nat} {r : Nat → Int32} (h : a ≠ o) : rsw σ o r a = σ a := if_neg h
theorem cp_fold {σ : MS} {o0 o1 d e : Nat} (h : o0 ≠ o1) : ∀ N, fR N (fun i s => mu s o1 (d + i) (s o0 (e + i))) σ = rsw σ o1 (fun k => if d ≤ k ∧ k < d + N then σ o0 (e + (k - d)) else σ o1 k) := by
  intro N
  induction N with
  | zero =>
    funext a k
    rw [fR_0]
    unfold rsw
    by_cases c : a = o1
    · rw [if_pos c, if_neg (by omega), c]
    · rw [if_neg c]
  | succ N ih =>
    rw [fR_s, ih]
    funext a k
    rw [mu_at]
    by_cases c : a = o1
    · subst c
      rw [rsw_own, rsw_own, rsw_row h]
      by_cases ck : k = d + N
      · rw [if_pos ⟨rfl, ck⟩, if_pos (by omega), ck]
        congr 1
        omega
      · rw [if_neg (by omega)]
        by_cases c2 : d ≤ k ∧ k < d + N
        · rw [if_pos c2, if_pos (by omega)]
        · rw [if_neg c2, if_neg (by omega)]
    · rw [if_neg (by omega), rsw_row c, rsw_row c]
theorem sh_fold {σ : MS} {o D : Nat} (hD : 0 < D) : ∀ N, fR N (fun i s => mu s o i (s o (i + D))) σ = rsw σ o (fun k => if k < N then σ o (k + D) else σ o k) := by
  intro N
  induction N with
  | zero =>
    funext a k
    rw [fR_0]
    unfold rsw
    by_cases c : a = o
    · rw [if_pos c, if_neg (by omega), c]
    · rw [if_neg c]
  | succ N ih =>
    rw [fR_s, ih]
    funext a k
    rw [mu_at]
    by_cases c : a = o
    · subst c
      rw [rsw_own, rsw_own]
      by_cases ck : k = N
      · rw [if_pos ⟨rfl, ck⟩, ck]
        rw [if_neg (show ¬ N + D < N by omega), if_pos (show N < N + 1 by omega)]
      · rw [if_neg (by omega)]
        by_cases c2 : k < N
        · rw [if_pos c2, if_pos (by omega)]
        · rw [if_neg c2, if_neg (by omega)]
    · rw [if_neg (by omega), rsw_row c, rsw_row c]
theorem e_keepsAll {n : Nat} (σ : MS) (hn : 6000 ≤ n) : f_X12_keepsAll n σ = some (0, rsw σ 175 (fun k => if k < 474 then σ 172 k else σ 175 k)) := by
  have e : rsw σ 175 (fun k => if k < 474 then σ 172 k else σ 175 k) = fR 474 (fun i s => mu s 175 (0 + i) (s 172 (0 + i))) σ := by
    rw [cp_fold (by omega)]
    congr 1
    funext k
    by_cases c : k < 474
    · rw [if_pos c, if_pos (by omega)]
      congr 1
      omega
    · rw [if_neg c, if_neg (by omega)]
  rw [e]
  unfold f_X12_keepsAll
  refine itr_0 (fun (s : MS) i => (i, s)) 474 (fun i s => mu s 175 (0 + i) (s 172 (0 + i))) (fun s => ((0 : Int32), s)) (by omega) σ ?_ ?_
  · intro i s hi
    simp (disch := omega) only [L_X12_keepsAll_2, l474, le_f, le_t, lt_f, lt_t, if_false, if_true, bnd_s, ite_bI, ok_bI, ok_0, ok_1, ltM_s, nN_s, Option.map_some, inb_nN, ix_nN, it_t, it_f, true_or, or_true, Nat.zero_add]
  · intro s
    simp (disch := omega) only [L_X12_keepsAll_2, l474, le_f, le_t, lt_f, lt_t, if_false, if_true, bnd_s, ite_bI, ok_bI, ok_0, ok_1, ltM_s, nN_s, Option.map_some, inb_nN, ix_nN, it_t, it_f, true_or, or_true]
theorem e_bringsBack {n : Nat} (σ : MS) (hn : 6000 ≤ n) : f_X12_bringsBack n σ = some (0, rsw σ 172 (fun k => if k < 474 then σ 175 k else σ 172 k)) := by
  have e : rsw σ 172 (fun k => if k < 474 then σ 175 k else σ 172 k) = fR 474 (fun i s => mu s 172 (0 + i) (s 175 (0 + i))) σ := by
    rw [cp_fold (by omega)]
    congr 1
    funext k
    by_cases c : k < 474
    · rw [if_pos c, if_pos (by omega)]
      congr 1
      omega
    · rw [if_neg c, if_neg (by omega)]
  rw [e]
  unfold f_X12_bringsBack
  refine itr_0 (fun (s : MS) i => (i, s)) 474 (fun i s => mu s 172 (0 + i) (s 175 (0 + i))) (fun s => ((0 : Int32), s)) (by omega) σ ?_ ?_
  · intro i s hi
    simp (disch := omega) only [L_X12_bringsBack_2, l474, le_f, le_t, lt_f, lt_t, if_false, if_true, bnd_s, ite_bI, ok_bI, ok_0, ok_1, ltM_s, nN_s, Option.map_some, inb_nN, ix_nN, it_t, it_f, true_or, or_true, Nat.zero_add]
  · intro s
    simp (disch := omega) only [L_X12_bringsBack_2, l474, le_f, le_t, lt_f, lt_t, if_false, if_true, bnd_s, ite_bI, ok_bI, ok_0, ok_1, ltM_s, nN_s, Option.map_some, inb_nN, ix_nN, it_t, it_f, true_or, or_true]
theorem e_image {n : Nat} (σ : MS) (hn : 6000 ≤ n) : f_X12_image n σ = some (0, mu (rsw (mu σ 171 0 0) 173 (fun k => if k < 1323 then σ 172 k else σ 173 k)) 171 6 1) := by
  have e : rsw (mu σ 171 0 0) 173 (fun k => if k < 1323 then σ 172 k else σ 173 k) = fR 1323 (fun i s => mu s 173 (0 + i) (s 172 (0 + i))) (mu σ 171 0 0) := by
    rw [cp_fold (by omega)]
    congr 1
    funext k
    rw [thr0, mu_row (show 173 ≠ 171 by omega)]
    by_cases c : k < 1323
    · rw [if_pos c, if_pos (by omega)]
      congr 1
      omega
    · rw [if_neg c, if_neg (by omega)]
  rw [e]
  simp only [f_X12_image, ltM_s]
  refine itr_0 (fun (s : MS) i => (i, s)) 1323 (fun i s => mu s 173 (0 + i) (s 172 (0 + i))) (fun s => ((0 : Int32), mu s 171 6 1)) (by omega) _ ?_ ?_
  · intro i s hi
    simp (disch := omega) only [L_X12_image_7, l1323, le_f, le_t, lt_f, lt_t, if_false, if_true, bnd_s, ite_bI, ok_bI, ok_0, ok_1, ltM_s, nN_s, Option.map_some, inb_nN, ix_nN, it_t, it_f, true_or, or_true, Nat.zero_add]
  · intro s
    simp (disch := omega) only [L_X12_image_7, l1323, le_f, le_t, lt_f, lt_t, if_false, if_true, bnd_s, ite_bI, ok_bI, ok_0, ok_1, ltM_s, nN_s, Option.map_some, inb_nN, ix_nN, it_t, it_f, true_or, or_true]
theorem e_back {n : Nat} (σ : MS) (hn : 6000 ≤ n) : f_X12_back n σ = some (if σ 171 6 = 0 then (0, mu σ 171 0 0) else (1, mu (rsw (mu σ 171 0 0) 172 (fun k => if k < 1323 then σ 173 k else σ 172 k)) 171 7 0)) := by
  have e : rsw (mu σ 171 0 0) 172 (fun k => if k < 1323 then σ 173 k else σ 172 k) = fR 1323 (fun i s => mu s 172 (0 + i) (s 173 (0 + i))) (mu σ 171 0 0) := by
    rw [cp_fold (by omega)]
    congr 1
    funext k
    rw [thr0, mu_row (show 173 ≠ 171 by omega)]
    by_cases c : k < 1323
    · rw [if_pos c, if_pos (by omega)]
      congr 1
      omega
    · rw [if_neg c, if_neg (by omega)]
  have h6 : mu σ 171 0 0 171 6 = σ 171 6 := by rw [mu_at, if_neg (by omega)]
  rw [e]
  simp only [f_X12_back, ltM_s, h6]
  by_cases c : σ 171 6 = 0
  · simp only [c, if_true]
  · simp only [c, if_false]
    refine itr_0 (fun (s : MS) i => (i, s)) 1323 (fun i s => mu s 172 (0 + i) (s 173 (0 + i))) (fun s => ((1 : Int32), mu s 171 7 0)) (by omega) _ ?_ ?_
    · intro i s hi
      simp (disch := omega) only [L_X12_back_16, l1323, le_f, le_t, lt_f, lt_t, if_false, if_true, bnd_s, ite_bI, ok_bI, ok_0, ok_1, ltM_s, nN_s, Option.map_some, inb_nN, ix_nN, it_t, it_f, true_or, or_true, Nat.zero_add]
    · intro s
      simp (disch := omega) only [L_X12_back_16, l1323, le_f, le_t, lt_f, lt_t, if_false, if_true, bnd_s, ite_bI, ok_bI, ok_0, ok_1, ltM_s, nN_s, Option.map_some, inb_nN, ix_nN, it_t, it_f, true_or, or_true]
