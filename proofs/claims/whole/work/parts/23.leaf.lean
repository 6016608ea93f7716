/-! layer 2: the small methods of the house, and of the reference -/
theorem it_t {α : Type} (x y : α) : (if true = true then x else y) = x := Eq.trans rfl rfl
theorem it_f {α : Type} (x y : α) : (if false = true then x else y) = y := Eq.trans rfl rfl
theorem ite_bI {α : Type} (b : Bool) (x y : α) : (if bI b = 0 then x else y) = if b = true then y else x := by cases b <;> rfl
theorem ok_bI {α : Type} (b : Bool) (x y : α) : (if bI b = 0 ∨ bI b = 1 then x else y) = x := if_pos (bI_ok b)
theorem ok_0 {α : Type} (x y : α) : (if (0 : Int32) = 0 ∨ (0 : Int32) = 1 then x else y) = x := if_pos (Or.inl rfl)
theorem ok_1 {α : Type} (x y : α) : (if (1 : Int32) = 0 ∨ (1 : Int32) = 1 then x else y) = x := if_pos (Or.inr rfl)
theorem bnd_s {α β : Type} (a : α) (f : α → Option β) : (some a).bind f = f a := Eq.trans rfl rfl
theorem ltM_s {β : Type} (s : MS) (E : MS → Option β) : ltM s E = E s := Eq.trans rfl rfl
theorem i8 (p q : Nat) : nN p * 8 + nN q = nN (8 * p + q) := by rw [l8, nN_mul, nN_add, Nat.mul_comm]
theorem i8' (p q : Nat) : 8 * nN p + nN q = nN (8 * p + q) := by rw [l8, nN_mul, nN_add]
theorem a42 (k : Nat) : 42 + nN k = nN (42 + k) := by rw [l42, nN_add]
theorem a106 (k : Nat) : 106 + nN k = nN (106 + k) := by rw [l106, nN_add]
theorem a170 (k : Nat) : 170 + nN k = nN (170 + k) := by rw [l170, nN_add]
theorem a10_0 (p : Nat) : 10 + 4 * nN p + 0 = nN (10 + 4 * p) := by rw [l10, l4, l0, nN_mul, nN_add, nN_add]; rfl
theorem a10_1 (p : Nat) : 10 + 4 * nN p + 1 = nN (11 + 4 * p) := by rw [l10, l4, l1, nN_mul, nN_add, nN_add]; congr 1; omega
theorem a10_2 (p : Nat) : 10 + 4 * nN p + 2 = nN (12 + 4 * p) := by rw [l10, l4, l2, nN_mul, nN_add, nN_add]; congr 1; omega
theorem a10_3 (p : Nat) : 10 + 4 * nN p + 3 = nN (13 + 4 * p) := by rw [l10, l4, l3, nN_mul, nN_add, nN_add]; congr 1; omega
theorem nN_s (i : Nat) : nN i + 1 = nN (i + 1) := nN_add i 1
/-- what the reference's world holds -/
theorem w_pair {σ : MS} {p q : Nat} (hp : p < 8) (hq : q < 8) : rv (σ 172) 5 (8 * p + q) = σ 172 (42 + (8 * p + q)) ∧ rv (σ 172) 6 (8 * p + q) = σ 172 (106 + (8 * p + q)) ∧ rv (σ 172) 7 (8 * p + q) = σ 172 (170 + (8 * p + q)) :=
  ⟨rv_at (k := 5) (by rw [rng5]; omega), rv_at (k := 6) (by rw [rng6]; omega), rv_at (k := 7) (by rw [rng7]; omega)⟩
theorem w_one {r : Nat → Int32} {p : Nat} (hp : p < 8) : rv r 1 p = r (10 + 4 * p) ∧ rv r 2 p = r (11 + 4 * p) ∧ rv r 3 p = r (12 + 4 * p) ∧ rv r 4 p = r (13 + 4 * p) :=
  ⟨rv_at (k := 1) hp, rv_at (k := 2) hp, rv_at (k := 3) hp, rv_at (k := 4) hp⟩
theorem w_0 (r : Nat → Int32) : rv r 0 0 = r 0 ∧ rv r 0 1 = r 1 ∧ rv r 0 2 = r 4 ∧ rv r 0 3 = r 5 ∧ rv r 0 4 = r 6 ∧ rv r 0 5 = r 3 ∧ rv r 0 6 = r 9 ∧ rv r 0 7 = r 7 := ⟨rfl, rfl, rfl, rfl, rfl, rfl, rfl, rfl⟩
theorem h_pair {σ : MS} {h p q : Nat} (hp : p < 8) (hq : q < 8) : hv σ h 5 (8 * p + q) = σ (h + 5) (8 * p + q) ∧ hv σ h 6 (8 * p + q) = σ (h + 6) (8 * p + q) ∧ hv σ h 7 (8 * p + q) = σ (h + 7) (8 * p + q) :=
  ⟨hv_at (k := 5) (by rw [rng5]; omega), hv_at (k := 6) (by rw [rng6]; omega), hv_at (k := 7) (by rw [rng7]; omega)⟩
theorem h_one {σ : MS} {h p : Nat} (hp : p < 8) : hv σ h 1 p = σ (h + 1) p ∧ hv σ h 2 p = σ (h + 2) p ∧ hv σ h 3 p = σ (h + 3) p ∧ hv σ h 4 p = σ (h + 4) p :=
  ⟨hv_at (k := 1) hp, hv_at (k := 2) hp, hv_at (k := 3) hp, hv_at (k := 4) hp⟩
theorem e_X4_holdsOn {σ : MS} {h p q : Nat} {d : Int32} (hp : p < 8) (hq : q < 8) : f_X4_holdsOn h (nN p) (nN q) d σ = some (bI (onV (hv σ h) p q d)) := by
  obtain ⟨-, h6, h7⟩ := h_pair (σ := σ) (h := h) hp hq
  unfold onV
  rw [h6, h7]
  simp (disch := omega) only [f_X4_holdsOn, J_X4_holdsOn_34, J_X4_holdsOn_33, i8, inb_nN, ix_nN, it_t, ok_0, ok_1, if_true, if_false, true_or, or_true, Bool.false_eq_true]
  by_cases a : σ (h + 6) (8 * p + q) ≤ 0
  · have a' : ¬ 0 < σ (h + 6) (8 * p + q) := by rw [Int32.not_lt]; exact a
    simp [a, a', bI]
  · have a' : 0 < σ (h + 6) (8 * p + q) := by rw [← Int32.not_le]; exact a
    by_cases c : σ (h + 7) (8 * p + q) ≤ d
    · have c' : ¬ d < σ (h + 7) (8 * p + q) := by rw [Int32.not_lt]; exact c
      simp [a, a', c, c', bI]
    · have c' : d < σ (h + 7) (8 * p + q) := by rw [← Int32.not_le]; exact c
      simp [a, a', c, c', bI]
theorem e_X4_holds {σ : MS} {h p q : Nat} (hp : p < 8) (hq : q < 8) : f_X4_holds h (nN p) (nN q) σ = some (bI (holdsV (hv σ h) p q)) := by
  have e : hv σ h 0 5 = σ h 5 := rfl
  simp only [f_X4_holds, e_X4_holdsOn hp hq, bnd_s, ok_bI, if_true, if_false, true_or, or_true, Bool.false_eq_true]
  rw [holdsV, e]
theorem e_X4_held {σ : MS} {h p q : Nat} (hp : p < 8) (hq : q < 8) : f_X4_held h (nN p) (nN q) σ = some (heldV (hv σ h) p q) := by
  obtain ⟨-, h6, h7⟩ := h_pair (σ := σ) (h := h) hp hq
  simp (disch := omega) only [f_X4_held, J_X4_held_24, e_X4_holds hp hq, bnd_s, ite_bI, i8, inb_nN, ix_nN, it_t, heldV, h6, if_true, if_false, true_or, or_true, Bool.false_eq_true]
  cases holdsV (hv σ h) p q <;> rfl
theorem e_X4_heldTill {σ : MS} {h p q : Nat} (hp : p < 8) (hq : q < 8) : f_X4_heldTill h (nN p) (nN q) σ = some (tillV (hv σ h) p q) := by
  obtain ⟨-, h6, h7⟩ := h_pair (σ := σ) (h := h) hp hq
  simp (disch := omega) only [f_X4_heldTill, J_X4_heldTill_24, e_X4_holds hp hq, bnd_s, ite_bI, i8, inb_nN, ix_nN, it_t, tillV, h7, if_true, if_false, true_or, or_true, Bool.false_eq_true]
  cases holdsV (hv σ h) p q <;> rfl
theorem e_X4_likingOf {σ : MS} {h p q : Nat} (hp : p < 8) (hq : q < 8) : f_X4_likingOf h (nN p) (nN q) σ = some (likeV (hv σ h) p q) := by
  obtain ⟨h5, -, -⟩ := h_pair (σ := σ) (h := h) hp hq
  simp (disch := omega) only [f_X4_likingOf, i8, inb_nN, ix_nN, it_t, likeV, h5, if_true, if_false, true_or, or_true, Bool.false_eq_true]
theorem e_X4_isSecret {σ : MS} {h p q : Nat} (hp : p < 8) (hq : q < 8) : f_X4_isSecret h (nN p) (nN q) σ = some (bI (secV (hv σ h) p q)) := by
  obtain ⟨-, h2, -, -⟩ := h_one (σ := σ) (h := h) hp
  simp (disch := omega) only [f_X4_isSecret, J_X4_isSecret_24, J_X4_isSecret_23, e_X4_holds hp hq, bnd_s, ite_bI, inb_nN, ix_nN, it_t, ok_0, ok_1, secV, wedV, h2, if_true, if_false, true_or, or_true, Bool.false_eq_true]
  by_cases c : σ (h + 2) p = nN q
  · simp [c, bI]
  · simp only [c, if_false]
    cases holdsV (hv σ h) p q <;> rfl
theorem e_X4_everybody {σ : MS} {h N : Nat} (g : GH σ h N) : f_X4_everybody h σ = some (nN (2 ^ N - 1)) := by
  simp only [f_X4_everybody, g.ppl, all_nN g.le8]
def isP (N : Nat) (x : Int32) : Bool := decide (0 ≤ x.toInt ∧ x.toInt < (N : Int))
theorem isP_t {N : Nat} {x : Int32} (h : isP N x = true) : ∃ p, p < N ∧ x = nN p := by
  have h' := of_decide_eq_true h
  obtain ⟨k, hk, -, h2, -⟩ := nN_of (x := x) (a := 0) (b := x.toInt) (by omega) h'.1 (by omega)
  refine ⟨k, ?_, hk⟩
  rw [hk] at h' h2
  have := h'.2
  omega
theorem isP_nN {N p : Nat} (h : p < N) (hN : N ≤ 8) : isP N (nN p) = true := by
  unfold isP
  rw [nN_toInt (by omega)]
  exact decide_eq_true (by omega)
theorem e_X4_has {σ : MS} {h N : Nat} (g : GH σ h N) (x : Int32) : f_X4_has h x σ = some (bI (isP N x)) := by
  have h8 := g.le8
  simp only [f_X4_has, J_X4_has_17, J_X4_has_16, g.ppl, ok_0, ok_1, if_true, if_false, true_or, or_true, Bool.false_eq_true]
  unfold isP
  have z : (0 : Int32).toInt = 0 := rfl
  simp (disch := omega) only [Int32.lt_iff_toInt_lt, Int32.le_iff_toInt_le, nN_toInt, z]
  by_cases a : x.toInt < 0
  · have c : ¬ (0 ≤ x.toInt ∧ x.toInt < (N : Int)) := by omega
    simp [a, c, bI]
  · by_cases d : (N : Int) ≤ x.toInt
    · have c : ¬ (0 ≤ x.toInt ∧ x.toInt < (N : Int)) := by omega
      simp [a, c, d, bI]
    · have c : (0 ≤ x.toInt ∧ x.toInt < (N : Int)) := by omega
      simp [a, c, d, bI]
/-! the reference -/
theorem e_X12_people {σ : MS} {N : Nat} (g : GW σ N) : f_X12_people σ = some (nN N) := by
  simp only [f_X12_people, g.ppl]
theorem e_X12_in {σ : MS} (x a b : Int32) : f_X12_in x a b σ = some (bI (decide (a ≤ x ∧ x ≤ b))) := by
  simp only [f_X12_in, J_X12_in_15, J_X12_in_14, ok_0, ok_1, if_true, if_false, true_or, or_true, Bool.false_eq_true]
  by_cases c : x < a
  · have : ¬ (a ≤ x ∧ x ≤ b) := by
      rw [Int32.le_iff_toInt_le, Int32.le_iff_toInt_le]
      rw [Int32.lt_iff_toInt_lt] at c
      omega
    simp [c, this, bI]
  · by_cases d : b < x
    · have : ¬ (a ≤ x ∧ x ≤ b) := by
        rw [Int32.le_iff_toInt_le, Int32.le_iff_toInt_le]
        rw [Int32.lt_iff_toInt_lt] at d
        omega
      simp [c, d, this, bI]
    · have : (a ≤ x ∧ x ≤ b) := by
        rw [Int32.le_iff_toInt_le, Int32.le_iff_toInt_le]
        rw [Int32.lt_iff_toInt_lt] at c d
        omega
      simp [c, d, this, bI]
theorem e_X12_noPerson {σ : MS} {N : Nat} (g : GW σ N) (x : Int32) : f_X12_noPerson x σ = some (bI (!isP N x)) := by
  have h8 := g.le8
  have e : decide ((0 : Int32) ≤ x ∧ x ≤ nN N - 1) = isP N x := by
    unfold isP
    apply decide_eq_decide.mpr
    have hs : (nN N - 1).toInt = (N : Int) - 1 := by
      have H : ∀ k, k < 9 → (nN k - 1).toInt = (k : Int) - 1 := by decide +kernel
      exact H N (by omega)
    have z : (0 : Int32).toInt = 0 := rfl
    rw [Int32.le_iff_toInt_le, Int32.le_iff_toInt_le, hs, z]
    omega
  simp only [f_X12_noPerson, J_X12_noPerson_19, e_X12_people g, e_X12_in, bnd_s, ite_bI, ok_0, ok_1, e, if_true, if_false, true_or, or_true, Bool.false_eq_true]
  cases isP N x <;> rfl
def isR (x : Int32) : Bool := decide ((0 : Int32) ≤ x ∧ x ≤ 5)
theorem isR_t {x : Int32} (h : isR x = true) : ∃ r, r < 6 ∧ x = nN r := by
  have h' := of_decide_eq_true h
  rw [Int32.le_iff_toInt_le, Int32.le_iff_toInt_le] at h'
  have z : (0 : Int32).toInt = 0 := rfl
  have f : (5 : Int32).toInt = 5 := rfl
  rw [z, f] at h'
  obtain ⟨k, hk, -, h2, -⟩ := nN_of (x := x) (a := 0) (b := 5) (by omega) h'.1 (by omega)
  exact ⟨k, by omega, hk⟩
theorem e_X12_noRoom {σ : MS} (x : Int32) : f_X12_noRoom x σ = some (bI (!isR x)) := by
  simp only [f_X12_noRoom, J_X12_noRoom_14, e_X12_in, bnd_s, ite_bI, ok_0, ok_1, isR, if_true, if_false, true_or, or_true, Bool.false_eq_true]
  cases decide ((0 : Int32) ≤ x ∧ x ≤ 5) <;> rfl
theorem e_X12_noBoth {σ : MS} {N : Nat} (g : GW σ N) (x y : Int32) : f_X12_noBoth x y σ = some (bI (!(isP N x && isP N y))) := by
  simp only [f_X12_noBoth, J_X12_noBoth_21, J_X12_noBoth_16, e_X12_noPerson g, bnd_s, ite_bI, ok_0, ok_1, if_true, if_false, true_or, or_true, Bool.false_eq_true]
  cases isP N x <;> cases isP N y <;> rfl
theorem e_X12_everybody {σ : MS} {N : Nat} (g : GW σ N) : f_X12_everybody σ = some (nN (2 ^ N - 1)) := by
  simp only [f_X12_everybody, e_X12_people g, bnd_s, all_nN g.le8, if_true, if_false, true_or, or_true, Bool.false_eq_true]
theorem e_X12_throwsIf {σ : MS} (b : Bool) (c : Int32) : f_X12_throwsIf (bI b) c σ = some (bI b, if b = true then mu σ 171 0 c else σ) := by
  simp only [f_X12_throwsIf, J_X12_throwsIf_9, ltM_s, ok_bI, ite_bI]
  cases b <;> rfl
theorem e_X12_of0 {σ : MS} {p : Nat} (hp : p < 8) : f_X12_of (nN p) 0 σ = some (rv (σ 172) 1 p) := by
  rw [(w_one hp).1]
  simp (disch := omega) only [f_X12_of, f_X12_at, bnd_s, a10_0, inb_nN, ix_nN, it_t, if_true, if_false, true_or, or_true, Bool.false_eq_true]
theorem e_X12_of1 {σ : MS} {p : Nat} (hp : p < 8) : f_X12_of (nN p) 1 σ = some (rv (σ 172) 2 p) := by
  rw [(w_one hp).2.1]
  simp (disch := omega) only [f_X12_of, f_X12_at, bnd_s, a10_1, inb_nN, ix_nN, it_t, if_true, if_false, true_or, or_true, Bool.false_eq_true]
theorem e_X12_of2 {σ : MS} {p : Nat} (hp : p < 8) : f_X12_of (nN p) 2 σ = some (rv (σ 172) 3 p) := by
  rw [(w_one hp).2.2.1]
  simp (disch := omega) only [f_X12_of, f_X12_at, bnd_s, a10_2, inb_nN, ix_nN, it_t, if_true, if_false, true_or, or_true, Bool.false_eq_true]
theorem e_X12_of3 {σ : MS} {p : Nat} (hp : p < 8) : f_X12_of (nN p) 3 σ = some (rv (σ 172) 4 p) := by
  rw [(w_one hp).2.2.2]
  simp (disch := omega) only [f_X12_of, f_X12_at, bnd_s, a10_3, inb_nN, ix_nN, it_t, if_true, if_false, true_or, or_true, Bool.false_eq_true]
theorem e_X12_likes {σ : MS} {p q : Nat} (hp : p < 8) (hq : q < 8) : f_X12_likes (nN p) (nN q) σ = some (likeV (rv (σ 172)) p q) := by
  obtain ⟨h5, h6, h7⟩ := w_pair (σ := σ) hp hq
  simp (disch := omega) only [f_X12_likes, f_X12_both, bnd_s, i8', a42, inb_nN, ix_nN, it_t, likeV, h5, if_true, if_false, true_or, or_true, Bool.false_eq_true]
theorem e_X12_holds {σ : MS} {p q : Nat} (hp : p < 8) (hq : q < 8) : f_X12_holds (nN p) (nN q) σ = some (bI (holdsV (rv (σ 172)) p q)) := by
  obtain ⟨h5, h6, h7⟩ := w_pair (σ := σ) hp hq
  have e : rv (σ 172) 0 5 = σ 172 3 := rfl
  unfold holdsV onV
  rw [h6, h7, e]
  simp (disch := omega) only [f_X12_holds, J_X12_holds_44, J_X12_holds_43, f_X12_both, bnd_s, i8', a106, a170, inb_nN, ix_nN, it_t, ok_0, ok_1, if_true, if_false, true_or, or_true, Bool.false_eq_true]
  by_cases a : σ 172 (106 + (8 * p + q)) ≤ 0
  · have a' : ¬ 0 < σ 172 (106 + (8 * p + q)) := by rw [Int32.not_lt]; exact a
    simp [a, a', bI]
  · have a' : 0 < σ 172 (106 + (8 * p + q)) := by rw [← Int32.not_le]; exact a
    by_cases c : σ 172 (170 + (8 * p + q)) ≤ σ 172 3
    · have c' : ¬ σ 172 3 < σ 172 (170 + (8 * p + q)) := by rw [Int32.not_lt]; exact c
      simp [a, a', c, c', bI]
    · have c' : σ 172 3 < σ 172 (170 + (8 * p + q)) := by rw [← Int32.not_le]; exact c
      simp [a, a', c, c', bI]
theorem e_X12_bondOf {σ : MS} {p q : Nat} (hp : p < 8) (hq : q < 8) : f_X12_bondOf (nN p) (nN q) σ = some (heldV (rv (σ 172)) p q) := by
  obtain ⟨h5, h6, h7⟩ := w_pair (σ := σ) hp hq
  simp (disch := omega) only [f_X12_bondOf, J_X12_bondOf_26, f_X12_both, e_X12_holds hp hq, bnd_s, ite_bI, i8', a106, inb_nN, ix_nN, it_t, heldV, h6, if_true, if_false, true_or, or_true, Bool.false_eq_true]
  cases holdsV (rv (σ 172)) p q <;> rfl
theorem e_X12_areWed {σ : MS} {p q : Nat} (hp : p < 8) : f_X12_areWed (nN p) (nN q) σ = some (bI (wedV (rv (σ 172)) p q)) := by
  simp only [f_X12_areWed, J_X12_areWed_15, e_X12_of1 hp, bnd_s, ok_0, ok_1, wedV, if_true, if_false, true_or, or_true, Bool.false_eq_true]
  by_cases c : rv (σ 172) 2 p = nN q
  · simp [c, bI]
  · simp [c, bI]
theorem e_X12_isSecret {σ : MS} {p q : Nat} (hp : p < 8) (hq : q < 8) : f_X12_isSecret (nN p) (nN q) σ = some (bI (secV (rv (σ 172)) p q)) := by
  simp only [f_X12_isSecret, J_X12_isSecret_23, J_X12_isSecret_22, e_X12_holds hp hq, e_X12_areWed hp, bnd_s, ite_bI, ok_0, ok_1, secV, if_true, if_false, true_or, or_true, Bool.false_eq_true]
  cases holdsV (rv (σ 172)) p q <;> cases wedV (rv (σ 172)) p q <;> rfl
theorem e_X12_has {σ : MS} {s k : Nat} (hs : s < 256) (hk : k < 8) : f_X12_has (nN s) (nN k) σ = some (bI (s.testBit k)) := by
  have H : ∀ s, s < 256 → ∀ k, k < 8 → f_X12_has (nN s) (nN k) (fun _ _ => 0) = some (bI (s.testBit k)) := by decide +kernel
  exact H s hs k hk
def flourV (V : HV) (r : Nat) : Bool := (V 0 2).toNatClampNeg.testBit r
theorem e_X12_hasFlour {σ : MS} {N r : Nat} (g : GW σ N) (hr : r < 8) : f_X12_hasFlour (nN r) σ = some (bI (flourV (rv (σ 172)) r)) := by
  obtain ⟨-, -, ⟨t, ht, h64⟩, -⟩ := g
  have e : rv (σ 172) 0 2 = σ 172 4 := rfl
  rw [e] at ht
  simp only [f_X12_hasFlour, ht, e_X12_has (σ := σ) (show t < 256 by omega) hr, bnd_s, ok_bI, flourV, e, if_true, if_false, true_or, or_true, Bool.false_eq_true]
  rw [show (nN t).toNatClampNeg = t from ix_nN (by omega)]
