/-! layer 2: the picture of a house: V k i: k = 0 scalars (people 0, texts 1, flour 2, binds 3, lasts 4, today 5, chance 6, footprints 7), 1 room, 2 mate, 3 suspicion, 4 met, 5 likes, 6 strength, 7 until -/
def rng (k : Nat) : Nat := if k ≤ 4 then 8 else if k ≤ 7 then 64 else 0
abbrev HV : Type := Nat → Nat → Int32
def hv (σ : MS) (h k i : Nat) : Int32 := if i < rng k then σ (h + k) i else 0
def trw (k i : Nat) : Nat := if k = 0 then [0, 1, 4, 5, 6, 3, 9, 7].getD i 0 else if k = 1 then 10 + 4 * i else if k = 2 then 11 + 4 * i else if k = 3 then 12 + 4 * i else if k = 4 then 13 + 4 * i else if k = 5 then 42 + i else if k = 6 then 106 + i else 170 + i
def rv (r : Nat → Int32) (k i : Nat) : Int32 := if i < rng k then r (trw k i) else 0
def vset (V : HV) (k i : Nat) (v : Int32) (k' i' : Nat) : Int32 := if k' = k ∧ i' = i then v else V k' i'
theorem rng0 : rng 0 = 8 := rfl
theorem rng1 : rng 1 = 8 := rfl
theorem rng2 : rng 2 = 8 := rfl
theorem rng3 : rng 3 = 8 := rfl
theorem rng4 : rng 4 = 8 := rfl
theorem rng5 : rng 5 = 64 := rfl
theorem rng6 : rng 6 = 64 := rfl
theorem rng7 : rng 7 = 64 := rfl
theorem hv_at {σ : MS} {h k i : Nat} (hi : i < rng k) : hv σ h k i = σ (h + k) i := if_pos hi
theorem rv_at {r : Nat → Int32} {k i : Nat} (hi : i < rng k) : rv r k i = r (trw k i) := if_pos hi
theorem hv_out {σ : MS} {h k i : Nat} (hi : ¬ i < rng k) : hv σ h k i = 0 := if_neg hi
theorem rv_out {r : Nat → Int32} {k i : Nat} (hi : ¬ i < rng k) : rv r k i = 0 := if_neg hi
theorem rng_hi {k : Nat} (h : 8 ≤ k) : rng k = 0 := by
  unfold rng
  rw [if_neg (by omega), if_neg (by omega)]
theorem hv_mu {σ : MS} {h k i : Nat} {v : Int32} (hi : i < rng k) : hv (mu σ (h + k) i v) h = vset (hv σ h) k i v := by
  funext k' i'
  unfold vset hv
  by_cases hr : i' < rng k'
  · rw [if_pos hr, if_pos hr, mu_at]
    by_cases he : k' = k ∧ i' = i
    · rw [if_pos he, if_pos ⟨by omega, he.2⟩]
    · rw [if_neg he, if_neg (by omega)]
  · rw [if_neg hr, if_neg hr, if_neg]
    intro he
    rw [he.1, he.2] at hr
    exact hr hi
theorem hv_mu0 {σ : MS} {h i : Nat} {v : Int32} (hi : i < 8) : hv (mu σ h i v) h = vset (hv σ h) 0 i v := hv_mu (k := 0) hi
theorem hv_rows {σ τ : MS} {h : Nat} (H : ∀ k, k < 8 → τ (h + k) = σ (h + k)) : hv τ h = hv σ h := by
  funext k i
  unfold hv
  by_cases hr : i < rng k
  · rw [if_pos hr, if_pos hr, H k]
    by_cases h8 : k < 8
    · exact h8
    · rw [rng_hi (by omega)] at hr
      omega
  · rw [if_neg hr, if_neg hr]
theorem mu_row {σ : MS} {o k a : Nat} {v : Int32} (h : a ≠ o) : mu σ o k v a = σ a := by
  funext j
  rw [mu_at, if_neg (by omega)]
theorem mu_own {σ : MS} {o k j : Nat} {v : Int32} : mu σ o k v o j = if j = k then v else σ o j := by
  rw [mu_at]
  by_cases h : j = k <;> simp [h]
theorem trw_inj {k i k' i' : Nat} (hi : i < rng k) (hi' : i' < rng k') (h : trw k i = trw k' i') : k = k' ∧ i = i' := by
  have hk : k < 8 := by
    by_cases h8 : k < 8
    · exact h8
    · rw [rng_hi (by omega)] at hi
      omega
  have hk' : k' < 8 := by
    by_cases h8 : k' < 8
    · exact h8
    · rw [rng_hi (by omega)] at hi'
      omega
  have H0 : ∀ i, i < 8 → [0, 1, 4, 5, 6, 3, 9, 7].getD i 0 < 10 := by decide +kernel
  have H1 : ∀ i, i < 8 → ∀ j, j < 8 → [0, 1, 4, 5, 6, 3, 9, 7].getD i 0 = [0, 1, 4, 5, 6, 3, 9, 7].getD j 0 → i = j := by decide +kernel
  by_cases h0 : k = 0
  · subst h0
    by_cases h0' : k' = 0
    · subst h0'
      exact ⟨rfl, H1 i hi i' hi' h⟩
    · have := H0 i hi
      have e : trw 0 i = [0, 1, 4, 5, 6, 3, 9, 7].getD i 0 := rfl
      rw [e] at h
      unfold trw at h
      rw [if_neg h0'] at h
      repeat' split at h
      all_goals omega
  · by_cases h0' : k' = 0
    · subst h0'
      have := H0 i' hi'
      have e : trw 0 i' = [0, 1, 4, 5, 6, 3, 9, 7].getD i' 0 := rfl
      rw [e] at h
      unfold trw at h
      rw [if_neg h0] at h
      repeat' split at h
      all_goals omega
    · unfold trw at h
      unfold rng at hi hi'
      rw [if_neg h0, if_neg h0'] at h
      repeat' split at h
      all_goals first
        | omega
        | (simp only [Nat.reduceLeDiff, if_true, if_false, *] at hi hi'; omega)
theorem trw_lt {k i : Nat} (hi : i < rng k) : trw k i < 234 := by
  have hk : k < 8 := by
    by_cases h8 : k < 8
    · exact h8
    · rw [rng_hi (by omega)] at hi
      omega
  have H0 : ∀ i, i < 8 → [0, 1, 4, 5, 6, 3, 9, 7].getD i 0 < 10 := by decide +kernel
  by_cases h0 : k = 0
  · subst h0
    have := H0 i hi
    have e : trw 0 i = [0, 1, 4, 5, 6, 3, 9, 7].getD i 0 := rfl
    omega
  · have hk7 : k = 1 ∨ k = 2 ∨ k = 3 ∨ k = 4 ∨ k = 5 ∨ k = 6 ∨ k = 7 := by omega
    rcases hk7 with h | h | h | h | h | h | h <;> subst h
    · have h' : i < 8 := hi
      show 10 + 4 * i < 234
      omega
    · have h' : i < 8 := hi
      show 11 + 4 * i < 234
      omega
    · have h' : i < 8 := hi
      show 12 + 4 * i < 234
      omega
    · have h' : i < 8 := hi
      show 13 + 4 * i < 234
      omega
    · have h' : i < 64 := hi
      show 42 + i < 234
      omega
    · have h' : i < 64 := hi
      show 106 + i < 234
      omega
    · have h' : i < 64 := hi
      show 170 + i < 234
      omega
theorem trw_ne2 {k i : Nat} (hi : i < rng k) : trw k i ≠ 2 ∧ trw k i ≠ 8 := by
  have H0 : ∀ i, i < 8 → [0, 1, 4, 5, 6, 3, 9, 7].getD i 0 ≠ 2 ∧ [0, 1, 4, 5, 6, 3, 9, 7].getD i 0 ≠ 8 := by decide +kernel
  by_cases h0 : k = 0
  · subst h0
    exact H0 i hi
  · unfold trw
    rw [if_neg h0]
    repeat' split
    all_goals omega
/-- rows as functions -/
def rset (r : Nat → Int32) (j : Nat) (v : Int32) (i : Nat) : Int32 := if i = j then v else r i
theorem mu_rset {σ : MS} {o k : Nat} {v : Int32} : mu σ o k v o = rset (σ o) k v := by
  funext j
  rw [mu_own]
  rfl
theorem rv_set {r : Nat → Int32} {k i : Nat} {v : Int32} (hi : i < rng k) : rv (rset r (trw k i) v) = vset (rv r) k i v := by
  funext k' i'
  unfold vset rv rset
  by_cases hr : i' < rng k'
  · rw [if_pos hr, if_pos hr]
    by_cases he : k' = k ∧ i' = i
    · rw [if_pos he, if_pos (by rw [he.1, he.2])]
    · rw [if_neg he, if_neg]
      intro h
      exact he (trw_inj hr hi h)
  · rw [if_neg hr, if_neg hr, if_neg]
    intro he
    rw [he.1, he.2] at hr
    exact hr hi
theorem rv_other {r : Nat → Int32} {j : Nat} {v : Int32} (hj : j = 2 ∨ j = 8 ∨ 234 ≤ j) : rv (rset r j v) = rv r := by
  funext k i
  unfold rv rset
  by_cases hr : i < rng k
  · rw [if_pos hr, if_pos hr, if_neg]
    have h1 := trw_lt hr
    have h2 := trw_ne2 hr
    omega
  · rw [if_neg hr, if_neg hr]
theorem rv_congr {r r' : Nat → Int32} (h : ∀ j, j < 234 → r j = r' j) : rv r = rv r' := by
  funext k i
  unfold rv
  by_cases hr : i < rng k
  · rw [if_pos hr, if_pos hr, h _ (trw_lt hr)]
  · rw [if_neg hr, if_neg hr]
/-! what a house says -/
def likeV (V : HV) (p q : Nat) : Int32 := V 5 (8 * p + q)
def onV (V : HV) (p q : Nat) (d : Int32) : Bool := decide (0 < V 6 (8 * p + q)) && decide (d < V 7 (8 * p + q))
def holdsV (V : HV) (p q : Nat) : Bool := onV V p q (V 0 5)
def heldV (V : HV) (p q : Nat) : Int32 := if holdsV V p q then V 6 (8 * p + q) else 0
def tillV (V : HV) (p q : Nat) : Int32 := if holdsV V p q then V 7 (8 * p + q) else -1
def wedV (V : HV) (p q : Nat) : Bool := decide (V 2 p = nN q)
def secV (V : HV) (p q : Nat) : Bool := holdsV V p q && !wedV V p q
def bndV (V : HV) (N p : Nat) : Nat := mset N (fun q => decide (q ≠ p) && holdsV V p q)
def mostV (V : HV) (N p : Nat) : Int32 × Int32 := fR N (fun q a => if q ≠ p ∧ a.1 < heldV V p q then (heldV V p q, nN q) else a) (0, -1)
/-- what is always so of a house of N people -/
def GV (V : HV) (N : Nat) : Prop :=
  (V 0 0 = nN N ∧ N ≤ 8) ∧
  (∃ t, V 0 1 = nN t ∧ t ≤ 12) ∧
  (∃ t, V 0 2 = nN t ∧ t < 64) ∧
  (∃ t, V 0 3 = nN t ∧ 1 ≤ t ∧ t ≤ 9) ∧
  (∃ t, V 0 4 = nN t ∧ 1 ≤ t ∧ t ≤ 400) ∧
  (∃ t, V 0 5 = nN t ∧ t ≤ 9999) ∧
  (∀ p, p < 8 → ∃ t, V 1 p = nN t ∧ t < 6) ∧
  ((∀ p, p < N → V 2 p = -1 ∨ ∃ q, V 2 p = nN q ∧ q < N ∧ q ≠ p) ∧ (∀ p q, p < N → q < N → V 2 p = nN q → V 2 q = nN p)) ∧
  ((∀ p, p < 8 → ∃ t, V 3 p = nN t ∧ t ≤ 99) ∧ (∀ p, p < 8 → N ≤ p → V 3 p = 0)) ∧
  ((∀ p, p < 8 → ∃ t, V 4 p = nN t ∧ t < 256) ∧ (∀ p, p < 8 → N ≤ p → V 4 p = 0)) ∧
  (∀ i, i < 64 → ∃ t, V 5 i = nN t ∧ t ≤ 9) ∧
  ((∀ p q, p < 8 → q < 8 → ∃ t, V 6 (8 * p + q) = nN t ∧ t ≤ 9) ∧ (∀ p q, p < 8 → q < 8 → V 6 (8 * p + q) = V 6 (8 * q + p)) ∧ (∀ p, p < 8 → V 6 (8 * p + p) = 0)) ∧
  ((∀ p q, p < 8 → q < 8 → ∃ t, V 7 (8 * p + q) = nN t ∧ t ≤ 9999) ∧ (∀ p q, p < 8 → q < 8 → V 7 (8 * p + q) = V 7 (8 * q + p)))
/-- a house in memory -/
def GH (σ : MS) (h N : Nat) : Prop := GV (hv σ h) N
/-- the reference's world -/
def GW (σ : MS) (N : Nat) : Prop := GV (rv (σ 172)) N
theorem GV.people {V : HV} {N : Nat} (h : GV V N) : V 0 0 = nN N := h.1.1
theorem GV.le8 {V : HV} {N : Nat} (h : GV V N) : N ≤ 8 := h.1.2
theorem hv_0 (σ : MS) (h i : Nat) (hi : i < 8) : hv σ h 0 i = σ h i := hv_at (k := 0) hi
theorem GH.ppl {σ : MS} {h N : Nat} (g : GH σ h N) : σ h 0 = nN N := by
  rw [← hv_0 σ h 0 (by omega)]
  exact g.people
theorem GW.ppl {σ : MS} {N : Nat} (g : GW σ N) : σ 172 0 = nN N := by
  have := g.people
  exact this
theorem holds_sym {V : HV} {N p q : Nat} (g : GV V N) (hp : p < 8) (hq : q < 8) : holdsV V p q = holdsV V q p := by
  obtain ⟨-, -, -, -, -, -, -, -, -, -, -, ⟨-, h6, -⟩, ⟨-, h7⟩⟩ := g
  unfold holdsV onV
  rw [h6 p q hp hq, h7 p q hp hq]
theorem on_sym {V : HV} {N p q : Nat} {d : Int32} (g : GV V N) (hp : p < 8) (hq : q < 8) : onV V p q d = onV V q p d := by
  obtain ⟨-, -, -, -, -, -, -, -, -, -, -, ⟨-, h6, -⟩, ⟨-, h7⟩⟩ := g
  unfold onV
  rw [h6 p q hp hq, h7 p q hp hq]
theorem holds_diag {V : HV} {N p : Nat} (g : GV V N) (hp : p < 8) : holdsV V p p = false := by
  obtain ⟨-, -, -, -, -, -, -, -, -, -, -, ⟨-, -, h6⟩, -⟩ := g
  unfold holdsV onV
  rw [h6 p hp]
  simp
theorem wed_sym {V : HV} {N p q : Nat} (g : GV V N) (hp : p < N) (hq : q < N) : wedV V p q = wedV V q p := by
  obtain ⟨-, -, -, -, -, -, -, ⟨-, h2⟩, -⟩ := g
  unfold wedV
  exact decide_eq_decide.mpr ⟨h2 p q hp hq, h2 q p hq hp⟩
theorem sec_sym {V : HV} {N p q : Nat} (g : GV V N) (hp : p < N) (hq : q < N) : secV V p q = secV V q p := by
  have := g.le8
  unfold secV
  rw [holds_sym g (by omega) (by omega), wed_sym g hp hq]
