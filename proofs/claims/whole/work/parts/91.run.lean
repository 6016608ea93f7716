/-! layer 2: every round keeps what always holds; the law comes to its end -/
theorem s_op {j n : Nat} {σ : MS} {op x1 x2 x3 x4 x5 : Int32} (hn : 6000 ≤ n) (hj : j ≤ 600) (hI : Inv j σ) : ∃ τ, stepOp n op x1 x2 x3 x4 x5 σ = some τ ∧ Inv (j + 1) τ := by
  unfold stepOp
  by_cases c0 : op = (0 : Int32)
  · rw [if_pos c0]; exact s_0 hn hI
  rw [if_neg c0]
  by_cases c1 : op = (1 : Int32)
  · rw [if_pos c1]; exact s_1 hn hI
  rw [if_neg c1]
  by_cases c2 : op = (2 : Int32)
  · rw [if_pos c2]; exact s_2 hn hI
  rw [if_neg c2]
  by_cases c3 : op = (3 : Int32)
  · rw [if_pos c3]; exact s_3 hn hI
  rw [if_neg c3]
  by_cases c4 : op = (4 : Int32)
  · rw [if_pos c4]; exact s_4 hn hI
  rw [if_neg c4]
  by_cases c5 : op = (5 : Int32)
  · rw [if_pos c5]; exact s_5 hn hI
  rw [if_neg c5]
  by_cases c6 : op = (6 : Int32)
  · rw [if_pos c6]; exact s_6 hn hI
  rw [if_neg c6]
  by_cases c7 : op = (7 : Int32)
  · rw [if_pos c7]; exact s_7 hn hI
  rw [if_neg c7]
  by_cases c8 : op = (8 : Int32)
  · rw [if_pos c8]; exact s_8 hn hI
  rw [if_neg c8]
  by_cases c9 : op = (9 : Int32)
  · rw [if_pos c9]; exact s_9 hn hI
  rw [if_neg c9]
  by_cases c10 : op = (10 : Int32)
  · rw [if_pos c10]; exact s_10 hn hI
  rw [if_neg c10]
  by_cases c11 : op = (11 : Int32)
  · rw [if_pos c11]; exact s_11 hn hI
  rw [if_neg c11]
  by_cases c12 : op = (12 : Int32)
  · rw [if_pos c12]; exact s_12 hn hI
  rw [if_neg c12]
  by_cases c13 : op = (13 : Int32)
  · rw [if_pos c13]; exact s_13 hn hI
  rw [if_neg c13]
  by_cases c14 : op = (14 : Int32)
  · rw [if_pos c14]; exact s_14 hn hI
  rw [if_neg c14]
  by_cases c15 : op = (15 : Int32)
  · rw [if_pos c15]; exact s_15 hn hj hI
  rw [if_neg c15]
  by_cases c16 : op = (16 : Int32)
  · rw [if_pos c16]; exact s_16 hn hI
  rw [if_neg c16]
  by_cases c17 : op = (17 : Int32)
  · rw [if_pos c17]; exact s_17 hn hI
  rw [if_neg c17]
  by_cases c18 : op = (18 : Int32)
  · rw [if_pos c18]; exact s_18 hn hI
  rw [if_neg c18]
  by_cases c19 : op = (19 : Int32)
  · rw [if_pos c19]; exact s_19 hn hI
  rw [if_neg c19]
  by_cases c20 : op = (20 : Int32)
  · rw [if_pos c20]; exact s_20 hn hI
  rw [if_neg c20]
  by_cases c21 : op = (21 : Int32)
  · rw [if_pos c21]; exact s_21 hn hI
  rw [if_neg c21]
  by_cases c22 : op = (22 : Int32)
  · rw [if_pos c22]; exact s_22 hn hI
  rw [if_neg c22]
  by_cases c23 : op = (23 : Int32)
  · rw [if_pos c23]; exact s_23 hn hI
  rw [if_neg c23]
  by_cases c24 : op = (24 : Int32)
  · rw [if_pos c24]; exact s_24 hn hI
  rw [if_neg c24]
  by_cases c25 : op = (25 : Int32)
  · rw [if_pos c25]; exact s_25 hn hI
  rw [if_neg c25]
  by_cases c26 : op = (26 : Int32)
  · rw [if_pos c26]; exact s_26 hn hI
  rw [if_neg c26]
  by_cases c27 : op = (27 : Int32)
  · rw [if_pos c27]; exact s_27 hn hI
  rw [if_neg c27]
  by_cases c28 : op = (28 : Int32)
  · rw [if_pos c28]; exact s_28 hn hI
  rw [if_neg c28]
  by_cases c29 : op = (29 : Int32)
  · rw [if_pos c29]; exact s_29 hn hI
  rw [if_neg c29]
  by_cases c30 : op = (30 : Int32)
  · rw [if_pos c30]; exact s_30 hn hI
  rw [if_neg c30]
  by_cases c31 : op = (31 : Int32)
  · rw [if_pos c31]; exact s_31 hn hI
  rw [if_neg c31]
  by_cases c32 : op = (32 : Int32)
  · rw [if_pos c32]; exact s_32 hn hI
  rw [if_neg c32]
  by_cases c33 : op = (33 : Int32)
  · rw [if_pos c33]; exact s_33 hn hI
  rw [if_neg c33]
  by_cases c34 : op = (34 : Int32)
  · rw [if_pos c34]; exact s_34 hn hI
  rw [if_neg c34]
  by_cases c35 : op = (35 : Int32)
  · rw [if_pos c35]; exact s_35 hn hI
  rw [if_neg c35]
  by_cases c36 : op = (36 : Int32)
  · rw [if_pos c36]; exact s_36 hn hI
  rw [if_neg c36]
  by_cases c37 : op = (37 : Int32)
  · rw [if_pos c37]; exact s_37 hn hI
  rw [if_neg c37]
  by_cases c38 : op = (38 : Int32)
  · rw [if_pos c38]; exact s_38 hn hj hI
  rw [if_neg c38]
  by_cases c39 : op = (39 : Int32)
  · rw [if_pos c39]; exact s_39 hn hj hI
  rw [if_neg c39]
  by_cases c40 : op = (40 : Int32)
  · rw [if_pos c40]; exact s_40 hn hj hI
  rw [if_neg c40]
  by_cases c41 : op = (41 : Int32)
  · rw [if_pos c41]; exact s_41 hn hj hI
  rw [if_neg c41]
  by_cases c42 : op = (42 : Int32)
  · rw [if_pos c42]; exact s_42 hn hj hI
  rw [if_neg c42]
  by_cases c43 : op = (43 : Int32)
  · rw [if_pos c43]; exact s_43 hn hj hI
  rw [if_neg c43]
  by_cases c44 : op = (44 : Int32)
  · rw [if_pos c44]; exact s_44 hn hI
  rw [if_neg c44]
  by_cases c45 : op = (45 : Int32)
  · rw [if_pos c45]; exact s_45 hn hI
  rw [if_neg c45]
  by_cases c46 : op = (46 : Int32)
  · rw [if_pos c46]; exact s_46 hn hI
  rw [if_neg c46]
  by_cases c47 : op = (47 : Int32)
  · rw [if_pos c47]; exact s_47 hn hI
  rw [if_neg c47]
  by_cases c48 : op = (48 : Int32)
  · rw [if_pos c48]; exact s_48 hn hj hI
  rw [if_neg c48]
  exact ⟨σ, rfl, Inv_mono hI (by omega)⟩
theorem s_run {n : Nat} {xs : Nat → Int32} (hn : 6000 ≤ n) : ∀ (m j : Nat) (σ : MS), j + m ≤ 600 → Inv j σ → ∃ τ, lawRun n xs m j σ = some τ := by
  intro m
  induction m with
  | zero => intro j σ _ _; exact ⟨σ, rfl⟩
  | succ m ih =>
    intro j σ hj hI
    obtain ⟨τ, h1, h2⟩ := s_op (op := xs (6 * j) &&& 63) (x1 := xs (6 * j + 1)) (x2 := xs (6 * j + 2)) (x3 := xs (6 * j + 3)) (x4 := xs (6 * j + 4)) (x5 := xs (6 * j + 5)) hn (by omega) hI
    obtain ⟨τ', h3⟩ := ih (j + 1) τ (by omega) h2
    refine ⟨τ', ?_⟩
    show (lawStep n xs j σ).bind (fun s => lawRun n xs m (j + 1) s) = some τ'
    unfold lawStep
    rw [h1, bnd_s]
    exact h3
