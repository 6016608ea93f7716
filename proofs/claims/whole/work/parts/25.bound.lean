/-! layer 2: bound to whom, and to whom most -/
theorem e_X4_boundTo {σ : MS} {n h N p : Nat} (hn : 6000 ≤ n) (g : GH σ h N) (hp : p < 8) : f_X4_boundTo n h (nN p) σ = some (nN (bndV (hv σ h) N p)) := by
  have hN := g.ppl
  have h8 := g.le8
  have e : bndV (hv σ h) N p = mset N (fun q => holdsV (hv σ h) p q) := by
    apply mset_congr
    intro q hq
    by_cases c : q = p
    · subst c
      rw [holds_diag g hp]
      simp
    · simp [c]
  rw [e]
  unfold f_X4_boundTo mset
  refine itr_0 (fun (a : Nat) i => (nN a, i)) N (fun q a => if holdsV (hv σ h) p q = true then a ||| 2 ^ q else a) (fun a => nN a) (by omega) 0 ?_ ?_
  · intro i a hi
    simp (disch := omega) only [L_X4_boundTo_4, J_X4_boundTo_27, hN, le_f, le_t, lt_f, lt_t, if_false, if_true, bnd_s, ite_bI, ok_bI, ok_0, ok_1, ltM_s, nN_s, Option.map_some, inb_nN, ix_nN, it_t, it_f, true_or, or_true, e_X4_holds, shl1, nN_or]
    cases holdsV (hv σ h) p i <;> rfl
  · intro a
    simp (disch := omega) only [L_X4_boundTo_4, J_X4_boundTo_27, hN, le_f, le_t, lt_f, lt_t, if_false, if_true, bnd_s, ite_bI, ok_bI, ok_0, ok_1, ltM_s, nN_s, Option.map_some, inb_nN, ix_nN, it_t, it_f, true_or, or_true]
theorem e_X12_boundTo {σ : MS} {n N p : Nat} (hn : 6000 ≤ n) (g : GW σ N) (hp : p < 8) : f_X12_boundTo n (nN p) σ = some (nN (bndV (rv (σ 172)) N p)) := by
  have hN := e_X12_people g
  have h8 := g.le8
  unfold f_X12_boundTo bndV mset
  refine itr_0 (fun (a : Nat) i => (nN a, i)) N (fun q a => if (decide (q ≠ p) && holdsV (rv (σ 172)) p q) = true then a ||| 2 ^ q else a) (fun a => nN a) (by omega) 0 ?_ ?_
  · intro i a hi
    by_cases c : i = p
    · subst c
      have : (0 : Int32) = nN 0 := rfl
      simp (disch := omega) only [L_X12_boundTo_4, J_X12_boundTo_34, J_X12_boundTo_33, hN, le_f, le_t, lt_f, lt_t, if_false, if_true, bnd_s, ite_bI, ok_bI, ok_0, ok_1, ltM_s, nN_s, Option.map_some, inb_nN, ix_nN, it_t, it_f, true_or, or_true, ne_eq, not_true, decide_false, Bool.false_and, Bool.false_eq_true, this, nN_or, Nat.or_zero]
    · have c' : (nN i = nN p) = False := by rw [nN_eq (by omega) (by omega)]; simp [c]
      have : (0 : Int32) = nN 0 := rfl
      simp (disch := omega) only [L_X12_boundTo_4, J_X12_boundTo_34, J_X12_boundTo_33, hN, le_f, le_t, lt_f, lt_t, if_false, if_true, bnd_s, ite_bI, ok_bI, ok_0, ok_1, ltM_s, nN_s, Option.map_some, inb_nN, ix_nN, it_t, it_f, true_or, or_true, c', e_X12_holds, shl1, nN_or, ne_eq, c, not_false_eq_true, decide_true, Bool.true_and]
      cases holdsV (rv (σ 172)) p i
      · simp only [Bool.false_eq_true, if_false, this, nN_or, Nat.or_zero]
      · simp only [if_true]
  · intro a
    simp (disch := omega) only [L_X12_boundTo_4, J_X12_boundTo_34, J_X12_boundTo_33, hN, le_f, le_t, lt_f, lt_t, if_false, if_true, bnd_s, ite_bI, ok_bI, ok_0, ok_1, ltM_s, nN_s, Option.map_some, inb_nN, ix_nN, it_t, it_f, true_or, or_true]
theorem held_nn {V : HV} {N p q : Nat} (g : GV V N) (hp : p < 8) (hq : q < 8) : (0 : Int32) ≤ heldV V p q := by
  obtain ⟨-, -, -, -, -, -, -, -, -, -, -, ⟨h6, -, -⟩, -⟩ := g
  obtain ⟨t, ht, ht9⟩ := h6 p q hp hq
  unfold heldV
  split
  · rw [ht, nN_0le (by omega)]
    trivial
  · decide
theorem most_nn (V : HV) (N p : Nat) : (0 : Int32) ≤ (mostV V N p).1 := by
  unfold mostV
  refine fR_inv (fun _ (a : Int32 × Int32) => (0 : Int32) ≤ a.1) (0, -1) (by decide) ?_
  intro i b _ hb
  split
  · rename_i h
    exact Int32.le_of_lt (Int32.lt_of_le_of_lt hb h.2)
  · exact hb
theorem e_X4_closest {σ : MS} {n h N p : Nat} (hn : 6000 ≤ n) (g : GH σ h N) (hp : p < 8) : f_X4_closest n h (nN p) σ = some (mostV (hv σ h) N p).2 := by
  have hN := g.ppl
  have h8 := g.le8
  have hd : heldV (hv σ h) p p = 0 := by
    unfold heldV
    rw [holds_diag g hp]
    rfl
  unfold f_X4_closest mostV
  refine itr_0P (fun (a : Int32 × Int32) i => (a.1, a.2, i)) N (fun q a => if q ≠ p ∧ a.1 < heldV (hv σ h) p q then (heldV (hv σ h) p q, nN q) else a) (fun a => a.2) (fun _ a => (0 : Int32) ≤ a.1) (by omega) (0, -1) (by decide) ?_ ?_
  · intro i a hi hP
    obtain ⟨a1, a2⟩ := a
    constructor
    · simp (disch := omega) only [L_X4_closest_7, J_X4_closest_37, hN, le_f, le_t, lt_f, lt_t, if_false, if_true, bnd_s, ite_bI, ok_bI, ok_0, ok_1, ltM_s, nN_s, Option.map_some, inb_nN, ix_nN, it_t, it_f, true_or, or_true, e_X4_held]
      by_cases c : a1 < heldV (hv σ h) p i
      · have c' : ¬ heldV (hv σ h) p i ≤ a1 := by rw [Int32.not_le]; exact c
        have c2 : i ≠ p := by
          intro he
          subst he
          rw [hd] at c
          exact absurd hP (by rw [Int32.not_le]; exact c)
        simp only [c', if_false, c, c2, ne_eq, not_false_eq_true, and_self, if_true]
      · have c' : heldV (hv σ h) p i ≤ a1 := by rw [← Int32.not_lt]; exact c
        simp only [c', if_true, c, and_false, if_false]
    · show (0 : Int32) ≤ (if i ≠ p ∧ a1 < heldV (hv σ h) p i then (heldV (hv σ h) p i, nN i) else (a1, a2)).1
      split
      · exact held_nn g hp (by omega)
      · exact hP
  · intro a _
    simp (disch := omega) only [L_X4_closest_7, J_X4_closest_37, hN, le_f, le_t, lt_f, lt_t, if_false, if_true, bnd_s, ite_bI, ok_bI, ok_0, ok_1, ltM_s, nN_s, Option.map_some, inb_nN, ix_nN, it_t, it_f, true_or, or_true]
theorem e_X12_mostOf {σ : MS} {n N p : Nat} (hn : 6000 ≤ n) (g : GW σ N) (hp : p < 8) : f_X12_mostOf n (nN p) σ = some (mostV (rv (σ 172)) N p).2 := by
  have hN := e_X12_people g
  have h8 := g.le8
  unfold f_X12_mostOf mostV
  refine itr_0P (fun (a : Int32 × Int32) i => (a.2, a.1, i)) N (fun q a => if q ≠ p ∧ a.1 < heldV (rv (σ 172)) p q then (heldV (rv (σ 172)) p q, nN q) else a) (fun a => a.2) (fun _ a => (0 : Int32) ≤ a.1) (by omega) (0, -1) (by decide) ?_ ?_
  · intro i a hi hP
    obtain ⟨a1, a2⟩ := a
    constructor
    · by_cases c2 : i = p
      · subst c2
        have m0 : mxI a1 0 = a1 := mx_l hP
        have c3 : (0 : Int32) ≤ a1 := hP
        simp (disch := omega) only [L_X12_mostOf_7, J_X12_mostOf_47, J_X12_mostOf_33, hN, le_f, le_t, lt_f, lt_t, if_false, if_true, bnd_s, ite_bI, ok_bI, ok_0, ok_1, ltM_s, nN_s, Option.map_some, inb_nN, ix_nN, it_t, it_f, true_or, or_true, c3, m0, ne_eq, not_true, false_and]
      · have c' : (nN i = nN p) = False := by rw [nN_eq (by omega) (by omega)]; simp [c2]
        simp (disch := omega) only [L_X12_mostOf_7, J_X12_mostOf_47, J_X12_mostOf_33, hN, le_f, le_t, lt_f, lt_t, if_false, if_true, bnd_s, ite_bI, ok_bI, ok_0, ok_1, ltM_s, nN_s, Option.map_some, inb_nN, ix_nN, it_t, it_f, true_or, or_true, c', e_X12_bondOf]
        by_cases c : a1 < heldV (rv (σ 172)) p i
        · have c' : ¬ heldV (rv (σ 172)) p i ≤ a1 := by rw [Int32.not_le]; exact c
          simp only [c', if_false, c, c2, ne_eq, not_false_eq_true, and_self, if_true, mx_r c]
        · have c' : heldV (rv (σ 172)) p i ≤ a1 := by rw [← Int32.not_lt]; exact c
          simp only [c', if_true, c, and_false, if_false, mx_l c']
    · show (0 : Int32) ≤ (if i ≠ p ∧ a1 < heldV (rv (σ 172)) p i then (heldV (rv (σ 172)) p i, nN i) else (a1, a2)).1
      split
      · exact held_nn g hp (by omega)
      · exact hP
  · intro a _
    simp (disch := omega) only [L_X12_mostOf_7, J_X12_mostOf_47, J_X12_mostOf_33, hN, le_f, le_t, lt_f, lt_t, if_false, if_true, bnd_s, ite_bI, ok_bI, ok_0, ok_1, ltM_s, nN_s, Option.map_some, inb_nN, ix_nN, it_t, it_f, true_or, or_true]
/-- the one to whom it is bound most -/
theorem most_is (V : HV) (N p : Nat) : ((mostV V N p).1 = 0 ∧ (mostV V N p).2 = -1) ∨ ∃ q, q < N ∧ q ≠ p ∧ (mostV V N p).2 = nN q ∧ (mostV V N p).1 = heldV V p q ∧ (0 : Int32) < heldV V p q := by
  have H : ∀ M, M ≤ N → (((mostV V M p).1 = 0 ∧ (mostV V M p).2 = -1) ∨ ∃ q, q < M ∧ q ≠ p ∧ (mostV V M p).2 = nN q ∧ (mostV V M p).1 = heldV V p q ∧ (0 : Int32) < heldV V p q) := by
    intro M
    induction M with
    | zero => intro _; exact Or.inl ⟨rfl, rfl⟩
    | succ k ih =>
      intro hk
      have e : mostV V (k + 1) p = if k ≠ p ∧ (mostV V k p).1 < heldV V p k then (heldV V p k, nN k) else mostV V k p := rfl
      rw [e]
      split
      · rename_i h
        exact Or.inr ⟨k, by omega, h.1, rfl, rfl, Int32.lt_of_le_of_lt (most_nn V k p) h.2⟩
      · rcases ih (by omega) with h | ⟨q, h1, h2⟩
        · exact Or.inl h
        · exact Or.inr ⟨q, by omega, h2⟩
  exact H N (Nat.le_refl _)
theorem e_X4_strongest {σ : MS} {n h N p : Nat} (hn : 6000 ≤ n) (g : GH σ h N) (hp : p < 8) : f_X4_strongest n h (nN p) σ = some (mostV (hv σ h) N p).1 := by
  have h8 := g.le8
  simp only [f_X4_strongest, J_X4_strongest_21, e_X4_closest hn g hp, bnd_s]
  rcases most_is (hv σ h) N p with ⟨h1, h2⟩ | ⟨q, hq, -, h2, h3, -⟩
  · rw [h1, h2]
    rfl
  · rw [h2, h3, it_m1 (by omega), e_X4_held hp (by omega)]
    rfl
theorem e_X12_oddsOf {σ : MS} {n N p : Nat} (hn : 6000 ≤ n) (g : GW σ N) (hp : p < 8) : f_X12_oddsOf n (nN p) σ = some (mostV (rv (σ 172)) N p).1 := by
  have h8 := g.le8
  simp only [f_X12_oddsOf, J_X12_oddsOf_20, e_X12_mostOf hn g hp, bnd_s]
  rcases most_is (rv (σ 172)) N p with ⟨h1, h2⟩ | ⟨q, hq, -, h2, h3, -⟩
  · rw [h1, h2]
    rfl
  · have : ¬ nN q < 0 := by rw [nN_lt0 (by omega)]; exact id
    simp only [h2, h3, e_X12_bondOf hp (show q < 8 by omega), bnd_s]
    first
      | (rw [if_neg this])
      | (rw [if_pos (by rw [nN_0le (by omega)]; trivial)])
      | simp [this]
