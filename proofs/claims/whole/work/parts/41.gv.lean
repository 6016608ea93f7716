/-! layer 2: what stays of a house when something is written -/
theorem GV_0 {V V' : HV} {N : Nat} (g : GV V N) (hs : ∀ k i, k ≠ 0 → V' k i = V k i) (h0 : V' 0 0 = V 0 0) (h1 : ∃ t, V' 0 1 = nN t ∧ t ≤ 12) (h2 : ∃ t, V' 0 2 = nN t ∧ t < 64) (h3 : ∃ t, V' 0 3 = nN t ∧ 1 ≤ t ∧ t ≤ 9) (h4 : ∃ t, V' 0 4 = nN t ∧ 1 ≤ t ∧ t ≤ 400) (h5 : ∃ t, V' 0 5 = nN t ∧ t ≤ 9999) : GV V' N := by
  have e1 : V' 1 = V 1 := funext (fun i => hs 1 i (by omega))
  have e2 : V' 2 = V 2 := funext (fun i => hs 2 i (by omega))
  have e3 : V' 3 = V 3 := funext (fun i => hs 3 i (by omega))
  have e4 : V' 4 = V 4 := funext (fun i => hs 4 i (by omega))
  have e5 : V' 5 = V 5 := funext (fun i => hs 5 i (by omega))
  have e6 : V' 6 = V 6 := funext (fun i => hs 6 i (by omega))
  have e7 : V' 7 = V 7 := funext (fun i => hs 7 i (by omega))
  obtain ⟨⟨a0, a0'⟩, a1, a2, a3, a4, a5, a6, a7, a8, a9, a10, a11, a12⟩ := g
  refine ⟨⟨h0.trans a0, a0'⟩, h1, h2, h3, h4, h5, ?_, ?_, ?_, ?_, ?_, ?_, ?_⟩
  · rw [e1]; exact a6
  · rw [e2]; exact a7
  · rw [e3]; exact a8
  · rw [e4]; exact a9
  · rw [e5]; exact a10
  · rw [e6]; exact a11
  · rw [e7]; exact a12
theorem GV_1 {V V' : HV} {N : Nat} (g : GV V N) (hs : ∀ k i, k ≠ 1 → V' k i = V k i) (h : ∀ p, p < 8 → ∃ t, V' 1 p = nN t ∧ t < 6) : GV V' N := by
  have e0 : V' 0 = V 0 := funext (fun i => hs 0 i (by omega))
  have e2 : V' 2 = V 2 := funext (fun i => hs 2 i (by omega))
  have e3 : V' 3 = V 3 := funext (fun i => hs 3 i (by omega))
  have e4 : V' 4 = V 4 := funext (fun i => hs 4 i (by omega))
  have e5 : V' 5 = V 5 := funext (fun i => hs 5 i (by omega))
  have e6 : V' 6 = V 6 := funext (fun i => hs 6 i (by omega))
  have e7 : V' 7 = V 7 := funext (fun i => hs 7 i (by omega))
  unfold GV
  rw [e0, e2, e3, e4, e5, e6, e7]
  obtain ⟨a0, a1, a2, a3, a4, a5, a6, a7⟩ := g
  exact ⟨a0, a1, a2, a3, a4, a5, h, a7⟩
theorem GV_2 {V V' : HV} {N : Nat} (g : GV V N) (hs : ∀ k i, k ≠ 2 → V' k i = V k i) (h : (∀ p, p < N → V' 2 p = -1 ∨ ∃ q, V' 2 p = nN q ∧ q < N ∧ q ≠ p) ∧ (∀ p q, p < N → q < N → V' 2 p = nN q → V' 2 q = nN p)) : GV V' N := by
  have e0 : V' 0 = V 0 := funext (fun i => hs 0 i (by omega))
  have e1 : V' 1 = V 1 := funext (fun i => hs 1 i (by omega))
  have e3 : V' 3 = V 3 := funext (fun i => hs 3 i (by omega))
  have e4 : V' 4 = V 4 := funext (fun i => hs 4 i (by omega))
  have e5 : V' 5 = V 5 := funext (fun i => hs 5 i (by omega))
  have e6 : V' 6 = V 6 := funext (fun i => hs 6 i (by omega))
  have e7 : V' 7 = V 7 := funext (fun i => hs 7 i (by omega))
  unfold GV
  rw [e0, e1, e3, e4, e5, e6, e7]
  obtain ⟨a0, a1, a2, a3, a4, a5, a6, a7, a8⟩ := g
  exact ⟨a0, a1, a2, a3, a4, a5, a6, h, a8⟩
theorem GV_3 {V V' : HV} {N : Nat} (g : GV V N) (hs : ∀ k i, k ≠ 3 → V' k i = V k i) (h : (∀ p, p < 8 → ∃ t, V' 3 p = nN t ∧ t ≤ 99) ∧ (∀ p, p < 8 → N ≤ p → V' 3 p = 0)) : GV V' N := by
  have e0 : V' 0 = V 0 := funext (fun i => hs 0 i (by omega))
  have e1 : V' 1 = V 1 := funext (fun i => hs 1 i (by omega))
  have e2 : V' 2 = V 2 := funext (fun i => hs 2 i (by omega))
  have e4 : V' 4 = V 4 := funext (fun i => hs 4 i (by omega))
  have e5 : V' 5 = V 5 := funext (fun i => hs 5 i (by omega))
  have e6 : V' 6 = V 6 := funext (fun i => hs 6 i (by omega))
  have e7 : V' 7 = V 7 := funext (fun i => hs 7 i (by omega))
  unfold GV
  rw [e0, e1, e2, e4, e5, e6, e7]
  obtain ⟨a0, a1, a2, a3, a4, a5, a6, a7, a8, a9⟩ := g
  exact ⟨a0, a1, a2, a3, a4, a5, a6, a7, h, a9⟩
theorem GV_4 {V V' : HV} {N : Nat} (g : GV V N) (hs : ∀ k i, k ≠ 4 → V' k i = V k i) (h : (∀ p, p < 8 → ∃ t, V' 4 p = nN t ∧ t < 256) ∧ (∀ p, p < 8 → N ≤ p → V' 4 p = 0)) : GV V' N := by
  have e0 : V' 0 = V 0 := funext (fun i => hs 0 i (by omega))
  have e1 : V' 1 = V 1 := funext (fun i => hs 1 i (by omega))
  have e2 : V' 2 = V 2 := funext (fun i => hs 2 i (by omega))
  have e3 : V' 3 = V 3 := funext (fun i => hs 3 i (by omega))
  have e5 : V' 5 = V 5 := funext (fun i => hs 5 i (by omega))
  have e6 : V' 6 = V 6 := funext (fun i => hs 6 i (by omega))
  have e7 : V' 7 = V 7 := funext (fun i => hs 7 i (by omega))
  unfold GV
  rw [e0, e1, e2, e3, e5, e6, e7]
  obtain ⟨a0, a1, a2, a3, a4, a5, a6, a7, a8, a9, a10⟩ := g
  exact ⟨a0, a1, a2, a3, a4, a5, a6, a7, a8, h, a10⟩
theorem GV_5 {V V' : HV} {N : Nat} (g : GV V N) (hs : ∀ k i, k ≠ 5 → V' k i = V k i) (h : ∀ i, i < 64 → ∃ t, V' 5 i = nN t ∧ t ≤ 9) : GV V' N := by
  have e0 : V' 0 = V 0 := funext (fun i => hs 0 i (by omega))
  have e1 : V' 1 = V 1 := funext (fun i => hs 1 i (by omega))
  have e2 : V' 2 = V 2 := funext (fun i => hs 2 i (by omega))
  have e3 : V' 3 = V 3 := funext (fun i => hs 3 i (by omega))
  have e4 : V' 4 = V 4 := funext (fun i => hs 4 i (by omega))
  have e6 : V' 6 = V 6 := funext (fun i => hs 6 i (by omega))
  have e7 : V' 7 = V 7 := funext (fun i => hs 7 i (by omega))
  unfold GV
  rw [e0, e1, e2, e3, e4, e6, e7]
  obtain ⟨a0, a1, a2, a3, a4, a5, a6, a7, a8, a9, a10, a11⟩ := g
  exact ⟨a0, a1, a2, a3, a4, a5, a6, a7, a8, a9, h, a11⟩
def tieV (V : HV) (p q : Nat) (s t : Int32) : HV := vset (vset (vset (vset V 6 (8 * p + q) s) 6 (8 * q + p) s) 7 (8 * p + q) t) 7 (8 * q + p) t
theorem tie_6 {V : HV} {p q p' q' : Nat} {s t : Int32} (hp : p < 8) (hq : q < 8) (hp' : p' < 8) (hq' : q' < 8) : tieV V p q s t 6 (8 * p' + q') = if (p' = p ∧ q' = q) ∨ (p' = q ∧ q' = p) then s else V 6 (8 * p' + q') := by
  unfold tieV vset
  rw [if_neg (by omega), if_neg (by omega)]
  by_cases c1 : p' = q ∧ q' = p
  · rw [if_pos (by omega), if_pos (Or.inr c1)]
  · rw [if_neg (by omega)]
    by_cases c2 : p' = p ∧ q' = q
    · rw [if_pos (by omega), if_pos (Or.inl c2)]
    · rw [if_neg (by omega), if_neg (by omega)]
theorem tie_7 {V : HV} {p q p' q' : Nat} {s t : Int32} (hp : p < 8) (hq : q < 8) (hp' : p' < 8) (hq' : q' < 8) : tieV V p q s t 7 (8 * p' + q') = if (p' = p ∧ q' = q) ∨ (p' = q ∧ q' = p) then t else V 7 (8 * p' + q') := by
  unfold tieV vset
  by_cases c1 : p' = q ∧ q' = p
  · rw [if_pos (by omega), if_pos (Or.inr c1)]
  · rw [if_neg (by omega)]
    by_cases c2 : p' = p ∧ q' = q
    · rw [if_pos (by omega), if_pos (Or.inl c2)]
    · rw [if_neg (by omega), if_neg (by omega), if_neg (by omega), if_neg (by omega)]
theorem tie_o {V : HV} {p q k i : Nat} {s t : Int32} (h6 : k ≠ 6) (h7 : k ≠ 7) : tieV V p q s t k i = V k i := by
  unfold tieV vset
  rw [if_neg (by omega), if_neg (by omega), if_neg (by omega), if_neg (by omega)]
theorem GV_tie {V : HV} {N p q : Nat} {s t : Int32} (g : GV V N) (hp : p < 8) (hq : q < 8) (hpq : p ≠ q) (hs : ∃ k, s = nN k ∧ k ≤ 9) (ht : ∃ k, t = nN k ∧ k ≤ 9999) : GV (tieV V p q s t) N := by
  have e0 : tieV V p q s t 0 = V 0 := funext (fun i => tie_o (by omega) (by omega))
  have e1 : tieV V p q s t 1 = V 1 := funext (fun i => tie_o (by omega) (by omega))
  have e2 : tieV V p q s t 2 = V 2 := funext (fun i => tie_o (by omega) (by omega))
  have e3 : tieV V p q s t 3 = V 3 := funext (fun i => tie_o (by omega) (by omega))
  have e4 : tieV V p q s t 4 = V 4 := funext (fun i => tie_o (by omega) (by omega))
  have e5 : tieV V p q s t 5 = V 5 := funext (fun i => tie_o (by omega) (by omega))
  unfold GV
  rw [e0, e1, e2, e3, e4, e5]
  obtain ⟨a0, a1, a2, a3, a4, a5, a6, a7, a8, a9, a10, ⟨b1, b2, b3⟩, ⟨c1, c2⟩⟩ := g
  refine ⟨a0, a1, a2, a3, a4, a5, a6, a7, a8, a9, a10, ⟨?_, ?_, ?_⟩, ⟨?_, ?_⟩⟩
  · intro p' q' hp' hq'
    rw [tie_6 hp hq hp' hq']
    split
    · exact hs
    · exact b1 p' q' hp' hq'
  · intro p' q' hp' hq'
    rw [tie_6 hp hq hp' hq', tie_6 hp hq hq' hp']
    by_cases c : (p' = p ∧ q' = q) ∨ (p' = q ∧ q' = p)
    · rw [if_pos c, if_pos (by omega)]
    · rw [if_neg c, if_neg (by omega), b2 p' q' hp' hq']
  · intro p' hp'
    rw [tie_6 hp hq hp' hp', if_neg (by omega), b3 p' hp']
  · intro p' q' hp' hq'
    rw [tie_7 hp hq hp' hq']
    split
    · exact ht
    · exact c1 p' q' hp' hq'
  · intro p' q' hp' hq'
    rw [tie_7 hp hq hp' hq', tie_7 hp hq hq' hp']
    by_cases c : (p' = p ∧ q' = q) ∨ (p' = q ∧ q' = p)
    · rw [if_pos c, if_pos (by omega)]
    · rw [if_neg c, if_neg (by omega), c2 p' q' hp' hq']
theorem e_X4_tie {σ : MS} {h p q : Nat} {s t : Int32} (hp : p < 8) (hq : q < 8) : ∃ τ, f_X4_tie h (nN p) (nN q) s t σ = some (0, τ) ∧ hv τ h = tieV (hv σ h) p q s t ∧ (∀ o, o ≠ h + 6 → o ≠ h + 7 → τ o = σ o) := by
  simp (disch := omega) only [f_X4_tie, i8, inb_nN, ix_nN, it_t, if_true, ltM_s]
  refine ⟨_, rfl, ?_, ?_⟩
  · rw [hv_mu (by rw [rng7]; omega), hv_mu (by rw [rng7]; omega), hv_mu (by rw [rng6]; omega), hv_mu (by rw [rng6]; omega)]
    rfl
  · intro o h6 h7
    simp (disch := omega) only [mu_row]
theorem e_X12_binds {σ : MS} {p q : Nat} {s t : Int32} (hp : p < 8) (hq : q < 8) : ∃ τ, f_X12_binds (nN p) (nN q) s t σ = some (0, τ) ∧ rv (τ 172) = tieV (rv (σ 172)) p q s t ∧ (∀ o, o ≠ 172 → τ o = σ o) ∧ (∀ k, k < 106 ∨ 234 ≤ k → τ 172 k = σ 172 k) := by
  simp (disch := omega) only [f_X12_binds, f_X12_both, bnd_s, i8', a106, a170, inb_nN, ix_nN, it_t, if_true, ltM_s]
  refine ⟨_, rfl, ?_, ?_, ?_⟩
  · rw [mu_rset, mu_rset, mu_rset, mu_rset]
    have r6 : ∀ i, i < 64 → trw 6 i = 106 + i := fun i _ => rfl
    have r7 : ∀ i, i < 64 → trw 7 i = 170 + i := fun i _ => rfl
    rw [← r7 _ (show 8 * q + p < 64 by omega), ← r7 _ (show 8 * p + q < 64 by omega), ← r6 _ (show 8 * q + p < 64 by omega), ← r6 _ (show 8 * p + q < 64 by omega)]
    rw [rv_set (by rw [rng7]; omega), rv_set (by rw [rng7]; omega), rv_set (by rw [rng6]; omega), rv_set (by rw [rng6]; omega)]
    rfl
  · intro o ho
    simp (disch := omega) only [mu_row]
  · intro k hk
    rw [mu_at, if_neg (by omega), mu_at, if_neg (by omega), mu_at, if_neg (by omega), mu_at, if_neg (by omega)]
def wedsV (V : HV) (p q : Nat) : HV := vset (vset V 2 p (nN q)) 2 q (nN p)
theorem weds_2 {V : HV} {p q x : Nat} : wedsV V p q 2 x = if x = q then nN p else if x = p then nN q else V 2 x := by
  unfold wedsV vset
  by_cases c : x = q
  · rw [if_pos ⟨rfl, c⟩, if_pos c]
  · rw [if_neg (by omega), if_neg c]
    by_cases d : x = p
    · rw [if_pos ⟨rfl, d⟩, if_pos d]
    · rw [if_neg (by omega), if_neg d]
theorem GV_weds {V : HV} {N p q : Nat} (g : GV V N) (hp : p < N) (hq : q < N) (hpq : p ≠ q) (h1 : V 2 p = -1) (h2 : V 2 q = -1) : GV (wedsV V p q) N := by
  have h8 := g.le8
  have g' := g
  obtain ⟨-, -, -, -, -, -, -, ⟨m1, m2⟩, -⟩ := g
  refine GV_2 g' (fun k i hk => by unfold wedsV vset; rw [if_neg (by omega), if_neg (by omega)]) ⟨?_, ?_⟩
  · intro x hx
    rw [weds_2]
    by_cases c : x = q
    · rw [if_pos c]
      exact Or.inr ⟨p, rfl, hp, by omega⟩
    · rw [if_neg c]
      by_cases d : x = p
      · rw [if_pos d]
        exact Or.inr ⟨q, rfl, hq, by omega⟩
      · rw [if_neg d]
        exact m1 x hx
  · intro x y hx hy hxy
    have nm : ∀ z, z < N → V 2 z = nN p → False := by
      intro z hz h
      have := m2 z p hz hp h
      rw [h1] at this
      exact absurd this.symm (by rw [nN_m1 (by omega)]; exact id)
    have nm2 : ∀ z, z < N → V 2 z = nN q → False := by
      intro z hz h
      have := m2 z q hz hq h
      rw [h2] at this
      exact absurd this.symm (by rw [nN_m1 (by omega)]; exact id)
    rw [weds_2] at hxy ⊢
    by_cases c : x = q
    · rw [if_pos c, nN_eq (by omega) (by omega)] at hxy
      rw [if_neg (by omega), if_pos hxy.symm, c]
    · rw [if_neg c] at hxy
      by_cases d : x = p
      · rw [if_pos d, nN_eq (by omega) (by omega)] at hxy
        rw [if_pos hxy.symm, d]
      · rw [if_neg d] at hxy
        have n1 : y ≠ p := fun h => nm x hx (by rw [← h]; exact hxy)
        have n2 : y ≠ q := fun h => nm2 x hx (by rw [← h]; exact hxy)
        rw [if_neg n2, if_neg n1]
        exact m2 x y hx hy hxy
theorem e_X4_marry {σ : MS} {h p q : Nat} (hp : p < 8) (hq : q < 8) : ∃ τ, f_X4_marry h (nN p) (nN q) σ = some (0, τ) ∧ hv τ h = wedsV (hv σ h) p q ∧ (∀ o, o ≠ h + 2 → τ o = σ o) := by
  simp (disch := omega) only [f_X4_marry, inb_nN, ix_nN, it_t, if_true, ltM_s]
  refine ⟨_, rfl, ?_, ?_⟩
  · rw [hv_mu hq, hv_mu hp]
    rfl
  · intro o ho
    simp (disch := omega) only [mu_row]
theorem e_X12_weds {σ : MS} {p q : Nat} (hp : p < 8) (hq : q < 8) : ∃ τ, f_X12_weds (nN p) (nN q) σ = some (0, τ) ∧ rv (τ 172) = wedsV (rv (σ 172)) p q ∧ (∀ o, o ≠ 172 → τ o = σ o) ∧ (∀ k, k < 10 ∨ 42 ≤ k → τ 172 k = σ 172 k) := by
  simp (disch := omega) only [f_X12_weds, f_X12_at, bnd_s, a10_1, inb_nN, ix_nN, it_t, if_true, ltM_s]
  refine ⟨_, rfl, ?_, ?_, ?_⟩
  · rw [mu_rset, mu_rset]
    have r2 : ∀ i, trw 2 i = 11 + 4 * i := fun i => rfl
    rw [← r2 q, ← r2 p, rv_set hq, rv_set hp]
    rfl
  · intro o ho
    simp (disch := omega) only [mu_row]
  · intro k hk
    rw [mu_at, if_neg (by omega), mu_at, if_neg (by omega)]
