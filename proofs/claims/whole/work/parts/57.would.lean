/-! layer 2: each pair by itself -/
def AgP (V V0 : HV) (p q : Nat) : Prop := (∀ k i, k ≠ 6 → k ≠ 7 → V k i = V0 k i) ∧ V 6 (8 * p + q) = V0 6 (8 * p + q) ∧ V 7 (8 * p + q) = V0 7 (8 * p + q)
theorem ag_holds {V V0 : HV} {p q : Nat} (h : AgP V V0 p q) : holdsV V p q = holdsV V0 p q ∧ heldV V p q = heldV V0 p q ∧ tillV V p q = tillV V0 p q := by
  obtain ⟨h1, h2, h3⟩ := h
  have e : holdsV V p q = holdsV V0 p q := by
    unfold holdsV onV
    rw [h2, h3, h1 0 5 (by omega) (by omega)]
  refine ⟨e, ?_, ?_⟩
  · unfold heldV
    rw [e, h2]
  · unfold tillV
    rw [e, h3]
theorem ag_F {V V0 : HV} {p q : Nat} {sip many : Int32} (h : AgP V V0 p q) : FV V p q sip many = FV V0 p q sip many := by
  obtain ⟨e1, -, -⟩ := ag_holds h
  obtain ⟨h1, h2, h3⟩ := h
  funext k
  unfold FV likeV wedV
  rw [e1, h1 5 _ (by omega) (by omega), h1 5 _ (by omega) (by omega), h1 0 5 (by omega) (by omega), h1 2 p (by omega) (by omega)]
theorem ag_frc {S : (Nat → Int32) → Int32 → Int32} {V V0 : HV} {p q k : Nat} {many : Int32} (h : AgP V V0 p q) : frc S V p q k many = frc S V0 p q k many ∧ rch S V p q k many = rch S V0 p q k many := by
  have hF := fun sip => ag_F (sip := sip) (many := many) h
  constructor
  · unfold frc bnS
    rw [hF, h.1 0 3 (by omega) (by omega)]
  · unfold rch lsS
    rw [hF, h.1 0 4 (by omega) (by omega), h.1 0 5 (by omega) (by omega)]
theorem ag_chB {S : (Nat → Int32) → Int32 → Int32} {V V0 : HV} {p q k : Nat} {many : Int32} (h : AgP V V0 p q) : chB S V p q k many = chB S V0 p q k many := by
  obtain ⟨e1, e2⟩ := ag_frc (S := S) (k := k) (many := many) h
  obtain ⟨-, e3, e4⟩ := ag_holds h
  unfold chB
  rw [e1, e2, e3, e4]
/-- a pair after the cup -/
def uP (S : (Nat → Int32) → Int32 → Int32) (V0 : HV) (set k : Nat) (many : Int32) (x p q : Nat) : Int32 := if inS set p q = true then chV S V0 p q k many x (8 * p + q) else V0 x (8 * p + q)
def IV (S : (Nat → Int32) → Int32 → Int32) (V0 : HV) (N set k : Nat) (many : Int32) (t : Nat) (V : HV) : Prop := (∀ k i, k ≠ 6 → k ≠ 7 → V k i = V0 k i) ∧ ∀ p q, p < q → q < N → (t ≤ 8 * p + q → V 6 (8 * p + q) = V0 6 (8 * p + q) ∧ V 7 (8 * p + q) = V0 7 (8 * p + q)) ∧ (8 * p + q < t → V 6 (8 * p + q) = uP S V0 set k many 6 p q ∧ V 7 (8 * p + q) = uP S V0 set k many 7 p q)
theorem IV_skip {S : (Nat → Int32) → Int32 → Int32} {V0 V : HV} {N set k t u : Nat} {many : Int32} (htu : t ≤ u) (hno : ∀ p q, p < q → q < N → t ≤ 8 * p + q → u ≤ 8 * p + q) (h : IV S V0 N set k many t V) : IV S V0 N set k many u V := by
  refine ⟨h.1, fun p q hp hq => ⟨fun hu => (h.2 p q hp hq).1 (by omega), fun hu => ?_⟩⟩
  by_cases c : 8 * p + q < t
  · exact (h.2 p q hp hq).2 c
  · have := hno p q hp hq (by omega)
    omega
theorem ch_o {S : (Nat → Int32) → Int32 → Int32} {V : HV} {p q k x i : Nat} {many : Int32} (h6 : x ≠ 6) (h7 : x ≠ 7) : chV S V p q k many x i = V x i := by
  unfold chV
  split
  · rfl
  · exact tie_o h6 h7
theorem ch_at {S : (Nat → Int32) → Int32 → Int32} {V V0 : HV} {p q k : Nat} {many : Int32} (h : AgP V V0 p q) (hp : p < 8) (hq : q < 8) : chV S V p q k many 6 (8 * p + q) = chV S V0 p q k many 6 (8 * p + q) ∧ chV S V p q k many 7 (8 * p + q) = chV S V0 p q k many 7 (8 * p + q) := by
  obtain ⟨e1, e2⟩ := ag_frc (S := S) (k := k) (many := many) h
  obtain ⟨-, e3, e4⟩ := ag_holds h
  unfold chV
  rw [e1, e2, e3, e4]
  by_cases c : frc S V0 p q k many = 0
  · rw [if_pos c, if_pos c]
    exact h.2
  · rw [if_neg c, if_neg c, tie_6 hp hq hp hq, tie_6 hp hq hp hq, tie_7 hp hq hp hq, tie_7 hp hq hp hq, if_pos (Or.inl ⟨rfl, rfl⟩), if_pos (Or.inl ⟨rfl, rfl⟩), if_pos (Or.inl ⟨rfl, rfl⟩), if_pos (Or.inl ⟨rfl, rfl⟩)]
    exact ⟨rfl, rfl⟩
theorem ch_off {S : (Nat → Int32) → Int32 → Int32} {V : HV} {p q p' q' k : Nat} {many : Int32} (hp : p < 8) (hq : q < 8) (hp' : p' < 8) (hq' : q' < 8) (hpq : p < q) (hpq' : p' < q') (hne : 8 * p' + q' ≠ 8 * p + q) : chV S V p q k many 6 (8 * p' + q') = V 6 (8 * p' + q') ∧ chV S V p q k many 7 (8 * p' + q') = V 7 (8 * p' + q') := by
  unfold chV
  split
  · exact ⟨rfl, rfl⟩
  · rw [tie_6 hp hq hp' hq', tie_7 hp hq hp' hq', if_neg (by omega), if_neg (by omega)]
    exact ⟨rfl, rfl⟩
theorem sh_step {S : (Nat → Int32) → Int32 → Int32} {V0 : HV} {N set k p q : Nat} {many : Int32} {a c : Nat × HV} (hN : N ≤ 8) (hpq : p < q) (hq : q < N) (h : a.1 = c.1 ∧ c.2 = V0 ∧ IV S V0 N set k many (8 * p + q) a.2) : (shG S set k many true p q a).1 = (shG S set k many false p q c).1 ∧ (shG S set k many false p q c).2 = V0 ∧ IV S V0 N set k many (8 * p + q + 1) (shG S set k many true p q a).2 := by
  obtain ⟨h1, h2, h3⟩ := h
  have ag : AgP a.2 V0 p q := ⟨h3.1, (h3.2 p q hpq hq).1 (Nat.le_refl _)⟩
  unfold shG
  cases hin : inS set p q
  · simp only [Bool.false_eq_true, if_false]
    refine ⟨h1, h2, h3.1, fun p' q' hp' hq' => ⟨fun hu => (h3.2 p' q' hp' hq').1 (by omega), fun hu => ?_⟩⟩
    by_cases cc : 8 * p' + q' < 8 * p + q
    · exact (h3.2 p' q' hp' hq').2 cc
    · have e : p' = p ∧ q' = q := by omega
      rw [e.1, e.2]
      unfold uP
      rw [hin]
      simp only [Bool.false_eq_true, if_false]
      exact (h3.2 p q hpq hq).1 (Nat.le_refl _)
  · simp only [if_true, Bool.false_eq_true, if_false]
    refine ⟨by rw [h1, h2, ag_chB ag], h2, fun x i h6 h7 => by rw [ch_o h6 h7]; exact h3.1 x i h6 h7, fun p' q' hp' hq' => ⟨fun hu => ?_, fun hu => ?_⟩⟩
    · obtain ⟨o1, o2⟩ := ch_off (S := S) (V := a.2) (k := k) (many := many) (show p < 8 by omega) (show q < 8 by omega) (show p' < 8 by omega) (show q' < 8 by omega) hpq hp' (by omega)
      rw [o1, o2]
      exact (h3.2 p' q' hp' hq').1 (by omega)
    · by_cases cc : 8 * p' + q' < 8 * p + q
      · obtain ⟨o1, o2⟩ := ch_off (S := S) (V := a.2) (k := k) (many := many) (show p < 8 by omega) (show q < 8 by omega) (show p' < 8 by omega) (show q' < 8 by omega) hpq hp' (by omega)
        rw [o1, o2]
        exact (h3.2 p' q' hp' hq').2 cc
      · have e : p' = p ∧ q' = q := by omega
        rw [e.1, e.2]
        obtain ⟨o1, o2⟩ := ch_at (S := S) (k := k) (many := many) ag (show p < 8 by omega) (show q < 8 by omega)
        rw [o1, o2]
        unfold uP
        rw [hin]
        exact ⟨rfl, rfl⟩
theorem sh_all {S : (Nat → Int32) → Int32 → Int32} {V0 : HV} {N set k : Nat} {many : Int32} (hN : N ≤ 8) : (pU N (shG S set k many true) (0, V0)).1 = (pU N (shG S set k many false) (0, V0)).1 ∧ (pU N (shG S set k many false) (0, V0)).2 = V0 ∧ IV S V0 N set k many (8 * N) (pU N (shG S set k many true) (0, V0)).2 := by
  have H : ∀ i, i ≤ N → (fR i (shRow S set k many true N) (0, V0)).1 = (fR i (shRow S set k many false N) (0, V0)).1 ∧ (fR i (shRow S set k many false N) (0, V0)).2 = V0 ∧ IV S V0 N set k many (8 * i) (fR i (shRow S set k many true N) (0, V0)).2 := by
    intro i
    induction i with
    | zero => intro _; exact ⟨rfl, rfl, fun _ _ _ _ => rfl, fun p q hp hq => ⟨fun _ => ⟨rfl, rfl⟩, fun hu => by omega⟩⟩
    | succ p ih =>
      intro hp
      obtain ⟨i1, i2, i3⟩ := ih (by omega)
      rw [fR_s, fR_s]
      generalize fR p (shRow S set k many true N) (0, V0) = A at i1 i3
      generalize fR p (shRow S set k many false N) (0, V0) = C at i1 i2
      have K : ∀ x, x ≤ N - (p + 1) → (fR x (fun i a => shG S set k many true p (p + 1 + i) a) A).1 = (fR x (fun i a => shG S set k many false p (p + 1 + i) a) C).1 ∧ (fR x (fun i a => shG S set k many false p (p + 1 + i) a) C).2 = V0 ∧ IV S V0 N set k many (8 * p + (p + 1 + x)) (fR x (fun i a => shG S set k many true p (p + 1 + i) a) A).2 := by
        intro x
        induction x with
        | zero => intro _; exact ⟨i1, i2, IV_skip (by omega) (fun p' q' h1 h2 h3 => by omega) i3⟩
        | succ x ih2 =>
          intro hx
          have := ih2 (by omega)
          rw [fR_s, fR_s]
          exact sh_step hN (by omega) (by omega) this
      obtain ⟨k1, k2, k3⟩ := K (N - (p + 1)) (Nat.le_refl _)
      exact ⟨k1, k2, IV_skip (by omega) (fun p' q' h1 h2 h3 => by omega) k3⟩
  exact H N (Nat.le_refl _)
