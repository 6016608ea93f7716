/-! layer 2: the most liking in pairs -/
def rm (S p : Nat) : Nat := S &&& (255 ^^^ 2 ^ p)
def hiS (S p : Nat) : Nat := S &&& (256 - 2 ^ p)
theorem q28 {q : Nat} (h : q < 8) : 2 ^ q < 256 := by
  have H : ∀ q, q < 8 → 2 ^ q < 256 := by decide +kernel
  exact H q h
theorem rm_le (S p : Nat) : rm S p ≤ S := Nat.and_le_left
theorem rm_bit {S p : Nat} (hS : S < 256) (hp : p < 8) (q : Nat) : (rm S p).testBit q = (S.testBit q && decide (q ≠ p)) := by
  unfold rm
  rw [Nat.testBit_and]
  by_cases c : q < 8
  · have H : ∀ p, p < 8 → ∀ q, q < 8 → (255 ^^^ 2 ^ p).testBit q = decide (q ≠ p) := by decide +kernel
    rw [H p hp q c]
  · rw [bit_hi hS (by omega), Bool.false_and, Bool.false_and]
theorem rm_lt {S p : Nat} (hS : S < 256) (hp : p < 8) (h : S.testBit p = true) : rm S p < S := by
  have h1 := rm_le S p
  have h2 : rm S p ≠ S := by
    intro e
    have := rm_bit hS hp p
    rw [e, h] at this
    simp at this
  omega
theorem rm_no {S p : Nat} (hS : S < 256) (hp : p < 8) (h : S.testBit p = false) : rm S p = S := by
  apply bit_ext
  intro q
  rw [rm_bit hS hp]
  by_cases c : q = p
  · rw [c, h]; rfl
  · rw [decide_eq_true c, Bool.and_true]
theorem rm_comm (S p q : Nat) : rm (rm S p) q = rm (rm S q) p := by
  unfold rm
  rw [Nat.and_assoc, Nat.and_assoc, Nat.and_comm (255 ^^^ 2 ^ p)]
theorem hi_le (S p : Nat) : hiS S p ≤ S := Nat.and_le_left
theorem hi_rm {S p : Nat} (hp : p < 8) : hiS S (p + 1) = rm (hiS S p) p := by
  have H : ∀ p, p < 8 → 256 - 2 ^ (p + 1) = (256 - 2 ^ p) &&& (255 ^^^ 2 ^ p) := by decide +kernel
  unfold rm hiS
  rw [H p hp, Nat.and_assoc]
theorem hi_com (S p q : Nat) : hiS (rm S q) p = rm (hiS S p) q := by
  unfold rm hiS
  rw [Nat.and_assoc, Nat.and_assoc, Nat.and_comm (255 ^^^ 2 ^ q)]
theorem hi_0 {S : Nat} (hS : S < 256) : hiS S 0 = S := by
  have H : ∀ S, S < 256 → hiS S 0 = S := by decide +kernel
  exact H S hS
theorem hi_N {S N : Nat} (hN : N ≤ 8) (hS : S < 2 ^ N) : hiS S N = 0 := by
  have H : ∀ N, N < 9 → ∀ S, S < 256 → S < 2 ^ N → hiS S N = 0 := by decide +kernel
  have := p28 hN
  exact H N (by omega) S (by omega) hS
theorem hi_bit {S p : Nat} (hS : S < 256) (hp : p < 8) (q : Nat) : (hiS S p).testBit q = (S.testBit q && decide (p ≤ q)) := by
  unfold hiS
  rw [Nat.testBit_and]
  by_cases c : q < 8
  · have H : ∀ p, p < 8 → ∀ q, q < 8 → (256 - 2 ^ p).testBit q = decide (p ≤ q) := by decide +kernel
    rw [H p hp q c]
  · rw [bit_hi hS (by omega), Bool.false_and, Bool.false_and]
def okF (W : Nat → Nat → Nat) (N : Nat) (φ : Nat → Nat) (S : Nat) : Prop :=
  (∀ a b, b < a → a < N → S.testBit a = true → S.testBit b = true → W a b + φ (rm (rm S a) b) ≤ φ S) ∧
  (φ S = 0 ∨ ∃ a b, b < a ∧ a < N ∧ S.testBit a = true ∧ S.testBit b = true ∧ φ S = W a b + φ (rm (rm S a) b)) ∧ φ S ≤ 18 * S
def isF (W : Nat → Nat → Nat) (N : Nat) (φ : Nat → Nat) : Prop := ∀ S, S < 2 ^ N → okF W N φ S
section
variable {W : Nat → Nat → Nat} {N : Nat} {φ : Nat → Nat}
theorem F_sym (hw : ∀ a b, W a b = W b a) (hF : isF W N φ) {S a b : Nat} (hS : S < 2 ^ N) (ha : a < N) (hb : b < N) (hab : a ≠ b) (h1 : S.testBit a = true) (h2 : S.testBit b = true) : W a b + φ (rm (rm S a) b) ≤ φ S := by
  by_cases c : b < a
  · exact (hF S hS).1 a b c ha h1 h2
  · have := (hF S hS).1 b a (by omega) hb h2 h1
    rw [hw a b, rm_comm]
    exact this
theorem F_mono (hN : N ≤ 8) (hF : isF W N φ) : ∀ k S S', S ≤ k → S < 2 ^ N → S' < 2 ^ N → (∀ q, S.testBit q = true → S'.testBit q = true) → φ S ≤ φ S' := by
  have h28 := p28 hN
  intro k
  induction k with
  | zero =>
    intro S S' h0 hS hS' hb
    have := (hF S hS).2.2
    omega
  | succ k ih =>
    intro S S' h0 hS hS' hb
    rcases (hF S hS).2.1 with h | ⟨a, b, hab, ha, b1, b2, h⟩
    · omega
    · have r1 := rm_lt (show S < 256 by omega) (show a < 8 by omega) b1
      have r2 := rm_le (rm S a) b
      have r3 := rm_le S' a
      have r4 := rm_le (rm S' a) b
      have h5 := ih (rm (rm S a) b) (rm (rm S' a) b) (by omega) (by omega) (by omega) (fun q hq => by
        rw [rm_bit (by omega) (by omega), rm_bit (by omega) (by omega)] at hq ⊢
        simp only [Bool.and_eq_true] at hq ⊢
        exact ⟨⟨hb q hq.1.1, hq.1.2⟩, hq.2⟩)
      have h6 := (hF S' hS').1 a b hab ha (hb a b1) (hb b b2)
      omega
theorem F_exch (hN : N ≤ 8) (hw : ∀ a b, W a b = W b a) (hF : isF W N φ) : ∀ k U p, U ≤ k → U < 2 ^ N → p < N → U.testBit p = true → φ U ≤ φ (rm U p) ∨ ∃ q, q < N ∧ q ≠ p ∧ U.testBit q = true ∧ φ U ≤ W p q + φ (rm (rm U p) q) := by
  have h28 := p28 hN
  intro k
  induction k with
  | zero =>
    intro U p h0 hU hp hb
    left
    have := (hF U hU).2.2
    omega
  | succ k ih =>
    intro U p h0 hU hp hb
    rcases (hF U hU).2.1 with h | ⟨a, b, hab, ha, b1, b2, h⟩
    · left; omega
    · have hU2 : U < 256 := by omega
      have a8 : a < 8 := by omega
      have b8 : b < 8 := by omega
      have p8 : p < 8 := by omega
      by_cases ca : a = p
      · right
        subst ca
        exact ⟨b, by omega, by omega, b2, by omega⟩
      · by_cases cb : b = p
        · right
          subst cb
          refine ⟨a, ha, ca, b1, ?_⟩
          rw [hw b a, rm_comm]
          omega
        · have r1 := rm_lt hU2 a8 b1
          have r2 := rm_le (rm U a) b
          have bitp : (rm (rm U a) b).testBit p = true := by
            rw [rm_bit (by omega) b8, rm_bit hU2 a8, hb, decide_eq_true (show p ≠ a from fun e => ca e.symm), decide_eq_true (show p ≠ b from fun e => cb e.symm)]
            rfl
          rcases ih (rm (rm U a) b) p (by omega) (by omega) hp bitp with h5 | ⟨q, q1, q2, q3, q4⟩
          · left
            have r3 := rm_le U p
            have h6 := (hF (rm U p) (by omega)).1 a b hab ha (by rw [rm_bit hU2 p8, b1, decide_eq_true ca]; rfl) (by rw [rm_bit hU2 p8, b2, decide_eq_true cb]; rfl)
            have e : rm (rm (rm U p) a) b = rm (rm (rm U a) b) p := by rw [rm_comm U p a, rm_comm (rm U a) p b]
            rw [e] at h6
            omega
          · right
            rw [rm_bit (by omega) b8, rm_bit hU2 a8] at q3
            simp only [Bool.and_eq_true, decide_eq_true_eq] at q3
            refine ⟨q, q1, q2, q3.1.1, ?_⟩
            have r3 := rm_le U p
            have r4 := rm_le (rm U p) q
            have h6 := (hF (rm (rm U p) q) (by omega)).1 a b hab ha (by
              rw [rm_bit (by omega) (by omega), rm_bit hU2 p8, b1, decide_eq_true ca, decide_eq_true (show a ≠ q from fun e => q3.1.2 e.symm)]; rfl) (by
              rw [rm_bit (by omega) (by omega), rm_bit hU2 p8, b2, decide_eq_true cb, decide_eq_true (show b ≠ q from fun e => q3.2 e.symm)]; rfl)
            have e : rm (rm (rm (rm U p) q) a) b = rm (rm (rm (rm U a) b) p) q := by
              rw [rm_comm (rm U p) q a, rm_comm U p a, rm_comm (rm (rm U a) p) q b, rm_comm (rm U a) p b]
            rw [e] at h6
            omega
end
def lkN (V : HV) (p q : Nat) : Nat := ix (likeV V p q)
def wN (V : HV) (p q : Nat) : Nat := lkN V p q + lkN V q p
theorem lk_is {V : HV} {N p q : Nat} (g : GV V N) (hp : p < 8) (hq : q < 8) : likeV V p q = nN (lkN V p q) ∧ lkN V p q ≤ 9 := by
  obtain ⟨-, -, -, -, -, -, -, -, -, -, h5, -⟩ := g
  obtain ⟨t, h1, h2⟩ := h5 (8 * p + q) (by omega)
  have e : likeV V p q = nN t := h1
  unfold lkN
  rw [e, ix_nN (by omega)]
  exact ⟨rfl, h2⟩
/-- the program's: by the lowest person -/
theorem c_gg {σ : MS} {n N : Nat} {φ : Nat → Nat} (hn : 6000 ≤ n) (g : GH σ 3 N) (hF : isF (wN (hv σ 3)) N φ) : ∀ k p d S, p + k = N → k < d → S < 2 ^ N → G_gg n d (nN p) (nN S) σ = some (nN (φ (hiS S p))) := by
  have h8 := g.le8
  have h28 := p28 h8
  have hppl := g.ppl
  have hw : ∀ a b, wN (hv σ 3) a b = wN (hv σ 3) b a := fun a b => Nat.add_comm _ _
  intro k
  induction k with
  | zero =>
    intro p d S hp hd hS
    obtain ⟨d', rfl⟩ : ∃ d', d = d' + 1 := ⟨d - 1, by omega⟩
    have e : p = N := by omega
    subst e
    rw [hi_N h8 hS]
    have h0 := (hF 0 (by omega)).2.2
    have e0 : φ 0 = 0 := by omega
    rw [e0]
    show F_X8_greatestFrom (G_gg n d') n (nN p) (nN S) σ = _
    simp (disch := omega) only [F_X8_greatestFrom, hppl, lt_f, if_false]
    rfl
  | succ k ih =>
    intro p d S hp hd hS
    obtain ⟨d', rfl⟩ : ∃ d', d = d' + 1 := ⟨d - 1, by omega⟩
    have hS2 : S < 256 := by omega
    have p8 : p < 8 := by omega
    have i1 := ih (p + 1) d' S (by omega) (by omega) hS
    have hb := and_bit (s := S) (p := p) (by omega) (by omega)
    show F_X8_greatestFrom (G_gg n d') n (nN p) (nN S) σ = _
    cases c : S.testBit p
    · have e : hiS S (p + 1) = hiS S p := by
        rw [hi_rm p8]
        exact rm_no (Nat.lt_of_le_of_lt (hi_le S p) hS2) p8 (by rw [hi_bit hS2 p8, c]; rfl)
      simp (disch := omega) only [F_X8_greatestFrom, hppl, lt_t, if_true, nN_s, i1, bnd_s, hb, c, e]
    · generalize hU : hiS S p = U
      have hU2 : U ≤ S := by rw [← hU]; exact hi_le S p
      have Ub : ∀ q, U.testBit q = (S.testBit q && decide (p ≤ q)) := fun q => by rw [← hU]; exact hi_bit hS2 p8 q
      have Up : U.testBit p = true := by rw [Ub, c, decide_eq_true (Nat.le_refl p)]; rfl
      have e1 : hiS S (p + 1) = rm U p := by rw [← hU]; exact hi_rm p8
      rw [e1] at i1
      have hcap : ∀ T, T ≤ S → φ T < 2147483648 := fun T hT => by
        have := (hF T (by omega)).2.2
        omega
      have key : ∃ r, itr (L_X8_greatestFrom_37 (G_gg n d') n (nN p) (nN S) σ) n (nN (φ (rm U p)), nN (p + 1)) = some r ∧ r = nN (φ U) := by
        refine itr_inv (fun i st => ∃ c, st = (nN c, nN (p + 1 + i)) ∧ c ≤ φ U ∧ φ (rm U p) ≤ c ∧ ∀ q, p < q → q < p + 1 + i → U.testBit q = true → wN (hv σ 3) p q + φ (rm (rm U p) q) ≤ c) _ k ?_ ?_ n 0 _ (by omega) (by omega) ⟨φ (rm U p), rfl, ?_, Nat.le_refl _, fun q _ _ => by omega⟩
        · rintro i st hi ⟨cc, rfl, k1, k2, k3⟩
          left
          have q8 : p + 1 + i < 8 := by omega
          have hcc : cc < 2147483648 := Nat.lt_of_le_of_lt k1 (hcap U hU2)
          have hbq := and_bit (s := S) (p := p + 1 + i) (by omega) (by omega)
          cases cq : S.testBit (p + 1 + i)
          · refine ⟨_, ?_, cc, rfl, k1, k2, fun q q1 q2 q3 => ?_⟩
            · simp (disch := omega) only [L_X8_greatestFrom_37, J_X8_greatestFrom_104, hppl, le_f, if_false, hbq, cq, if_true, nN_s, show p + 1 + i + 1 = p + 1 + (i + 1) by omega]
            · by_cases d : q = p + 1 + i
              · rw [d, Ub, cq] at q3
                cases q3
              · exact k3 q q1 (by omega) q3
          · have i2 := ih (p + 1) d' (rm S (p + 1 + i)) (by omega) (by omega) (Nat.lt_of_le_of_lt (rm_le _ _) hS)
            have e2 : hiS (rm S (p + 1 + i)) (p + 1) = rm (rm U p) (p + 1 + i) := by
              rw [hi_com, hi_rm p8, hU]
            rw [e2] at i2
            obtain ⟨l1, l2⟩ := lk_is g p8 q8
            obtain ⟨l3, l4⟩ := lk_is g q8 p8
            have r1 := e_X4_likingOf (σ := σ) (h := 3) p8 q8
            have r2 := e_X4_likingOf (σ := σ) (h := 3) q8 p8
            rw [l1] at r1
            rw [l3] at r2
            have ed : nN S &&& (shlI 1 (nN (p + 1 + i)) ^^^ -1) = nN (rm S (p + 1 + i)) := by
              have := q28 q8
              rw [shl1 (by omega), nN_diff hS2 (by omega)]
              rfl
            have Uq : U.testBit (p + 1 + i) = true := by rw [Ub, cq, decide_eq_true (by omega)]; rfl
            have hs := F_sym hw hF (show U < 2 ^ N by omega) (show p < N by omega) (show p + 1 + i < N by omega) (by omega) Up Uq
            have hs' : lkN (hv σ 3) p (p + 1 + i) + lkN (hv σ 3) (p + 1 + i) p + φ (rm (rm U p) (p + 1 + i)) ≤ φ U := hs
            have hcU := hcap U hU2
            refine ⟨_, ?_, max cc (lkN (hv σ 3) p (p + 1 + i) + lkN (hv σ 3) (p + 1 + i) p + φ (rm (rm U p) (p + 1 + i))), rfl, by omega, by omega, fun q q1 q2 q3 => ?_⟩
            · simp (disch := omega) only [L_X8_greatestFrom_37, J_X8_greatestFrom_104, hppl, le_f, if_false, hbq, cq, Bool.true_eq_false, r1, r2, bnd_s, nN_s, ed, i2, nN_add, mxI_nN, show p + 1 + i + 1 = p + 1 + (i + 1) by omega]
            · by_cases d : q = p + 1 + i
              · rw [d]
                show lkN (hv σ 3) p (p + 1 + i) + lkN (hv σ 3) (p + 1 + i) p + φ (rm (rm U p) (p + 1 + i)) ≤ _
                omega
              · have := k3 q q1 (by omega) q3
                omega
        · rintro st ⟨cc, rfl, k1, k2, k3⟩
          refine ⟨nN cc, ?_, ?_⟩
          · simp (disch := omega) only [L_X8_greatestFrom_37, hppl, le_t, if_true, Option.map_some]
          · congr 1
            rcases F_exch h8 hw hF U U p (Nat.le_refl _) (by omega) (by omega) Up with h | ⟨q, q1, q2, q3, q4⟩
            · omega
            · have : p ≤ q := by
                rw [Ub] at q3
                simp only [Bool.and_eq_true, decide_eq_true_eq] at q3
                exact q3.2
              have := k3 q (by omega) (by omega) q3
              omega
        · exact F_mono h8 hF (rm U p) (rm U p) U (Nat.le_refl _) (Nat.lt_of_le_of_lt (rm_le _ _) (by omega)) (by omega) (fun q hq => by
            rw [rm_bit (by omega) p8] at hq
            simp only [Bool.and_eq_true] at hq
            exact hq.1)
      obtain ⟨r, k1, rfl⟩ := key
      simp (disch := omega) only [F_X8_greatestFrom, hppl, lt_t, if_true, nN_s, i1, bnd_s, hb, c, Bool.true_eq_false, if_false, k1]
/-- the reference's: by all sets -/
def MIf (τ : MS) (φ : Nat → Nat) (i c : Nat) (s : MS) : Prop := (∀ o, o ≠ 182 → s o = τ o) ∧ (∀ S, S < i → s 182 S = nN (φ S)) ∧ s 182 i = nN c
def CIf (W : Nat → Nat → Nat) (φ : Nat → Nat) (N i c a b : Nat) : Prop :=
  (∀ a' b', b' < a' → (a' < a ∨ (a' = a ∧ b' < b)) → i.testBit a' = true → i.testBit b' = true → W a' b' + φ (rm (rm i a') b') ≤ c) ∧
  (c = 0 ∨ ∃ a b, b < a ∧ a < N ∧ i.testBit a = true ∧ i.testBit b = true ∧ c = W a b + φ (rm (rm i a) b)) ∧ c ≤ 18 * i
theorem m_f34 {τ σx s : MS} {n N i a c : Nat} {φ : Nat → Nat} (hn : 6000 ≤ n) (g : GW τ N) (hi : i < 2 ^ N) (ha : a < N) (hφ : ∀ S, S < i → φ S ≤ 18 * S) (hM : MIf τ φ i c s) (hC : CIf (wN (rv (τ 172))) φ N i c a 0) : ∃ c' s', itr (L_X12_fondest_34 n (nN i) (nN a) σx) n (0, s) = some (.inl (nN (a + 1), s')) ∧ MIf τ φ i c' s' ∧ CIf (wN (rv (τ 172))) φ N i c' (a + 1) 0 := by
  have h8 := g.le8
  have h28 := p28 h8
  have key : ∃ r, itr (L_X12_fondest_34 n (nN i) (nN a) σx) n (0, s) = some r ∧ ∃ c' s', r = .inl (nN (a + 1), s') ∧ MIf τ φ i c' s' ∧ CIf (wN (rv (τ 172))) φ N i c' (a + 1) 0 := by
    refine itr_inv (fun b st => ∃ c' s', st = (nN b, s') ∧ MIf τ φ i c' s' ∧ CIf (wN (rv (τ 172))) φ N i c' a b) _ a ?_ ?_ n 0 _ (by omega) (by omega) ⟨c, s, rfl, hM, hC⟩
    · rintro b st hb ⟨c', s', rfl, ⟨m1, m2, m3⟩, ⟨c1, c2, c3⟩⟩
      left
      have H1 := e_X12_has (σ := s') (s := i) (k := a) (by omega) (by omega)
      have H2 := e_X12_has (σ := s') (s := i) (k := b) (by omega) (by omega)
      by_cases d : i.testBit a = true ∧ i.testBit b = true
      · obtain ⟨d1, d2⟩ := d
        rw [d1] at H1
        rw [d2] at H2
        have r1 := rm_lt (show i < 256 by omega) (show a < 8 by omega) d1
        have r2 := rm_le (rm i a) b
        have e172 : s' 172 = τ 172 := m1 172 (by omega)
        have r3 := e_X12_likes (σ := s') (p := a) (q := b) (by omega) (by omega)
        have r4 := e_X12_likes (σ := s') (p := b) (q := a) (by omega) (by omega)
        rw [e172] at r3 r4
        obtain ⟨l1, l2⟩ := lk_is g (show a < 8 by omega) (show b < 8 by omega)
        obtain ⟨l3, l4⟩ := lk_is g (show b < 8 by omega) (show a < 8 by omega)
        rw [l1] at r3
        rw [l3] at r4
        have ed : (nN i &&& (shlI 1 (nN a) ^^^ -1)) &&& (shlI 1 (nN b) ^^^ -1) = nN (rm (rm i a) b) := by
          have := q28 (show a < 8 by omega)
          have := q28 (show b < 8 by omega)
          rw [shl1 (by omega), shl1 (by omega), nN_diff (by omega) (by omega)]
          show nN (rm i a) &&& _ = _
          rw [nN_diff (by omega) (by omega)]
          rfl
        have hv := m2 (rm (rm i a) b) (by omega)
        have hb18 := hφ (rm (rm i a) b) (by omega)
        refine ⟨_, ?_, max c' (lkN (rv (τ 172)) a b + lkN (rv (τ 172)) b a + φ (rm (rm i a) b)), mu s' 182 i (nN (max c' (lkN (rv (τ 172)) a b + lkN (rv (τ 172)) b a + φ (rm (rm i a) b)))), rfl, ⟨fun o ho => by rw [mu_row ho]; exact m1 o ho, fun S hS => by rw [mu_at, if_neg (by omega)]; exact m2 S hS, by rw [mu_own, if_pos rfl]⟩, ?_, ?_, ?_⟩
        · simp (disch := omega) only [L_X12_fondest_34, J_X12_fondest_102, le_f, if_false, H1, H2, bI_t, one_ne0, bnd_s, inb_nN, ix_nN, it_t, if_true, r3, r4, ed, m3, hv, nN_add, mxI_nN, ltM_s, nN_s]
        · intro a' b' h1 h2 h3 h4
          by_cases d : a' = a ∧ b' = b
          · rw [d.1, d.2]
            show lkN (rv (τ 172)) a b + lkN (rv (τ 172)) b a + φ (rm (rm i a) b) ≤ _
            omega
          · have := c1 a' b' h1 (by omega) h3 h4
            omega
        · by_cases d : c' ≤ lkN (rv (τ 172)) a b + lkN (rv (τ 172)) b a + φ (rm (rm i a) b)
          · right
            refine ⟨a, b, hb, ha, d1, d2, ?_⟩
            show _ = lkN (rv (τ 172)) a b + lkN (rv (τ 172)) b a + φ (rm (rm i a) b)
            omega
          · rw [Nat.max_eq_left (by omega)]
            exact c2
        · omega
      · refine ⟨(nN (b + 1), s'), ?_, c', s', rfl, ⟨m1, m2, m3⟩, ?_, c2, c3⟩
        · cases d1 : i.testBit a
          · rw [d1] at H1
            simp (disch := omega) only [L_X12_fondest_34, J_X12_fondest_102, le_f, if_false, H1, bI_f, bnd_s, if_true, nN_s]
          · have d2 : i.testBit b = false := by
              cases h : i.testBit b
              · rfl
              · exact absurd ⟨d1, h⟩ d
            rw [d1] at H1
            rw [d2] at H2
            simp (disch := omega) only [L_X12_fondest_34, J_X12_fondest_102, le_f, if_false, H1, H2, bI_t, bI_f, one_ne0, bnd_s, if_true, nN_s]
        · intro a' b' h1 h2 h3 h4
          by_cases e : a' = a ∧ b' = b
          · rw [e.1] at h3
            rw [e.2] at h4
            exact absurd ⟨h3, h4⟩ d
          · exact c1 a' b' h1 (by omega) h3 h4
    · rintro st ⟨c', s', rfl, hM', ⟨c1, c2, c3⟩⟩
      refine ⟨.inl (nN (a + 1), s'), ?_, c', s', rfl, hM', fun a' b' h1 h2 h3 h4 => c1 a' b' h1 (by omega) h3 h4, c2, c3⟩
      simp (disch := omega) only [L_X12_fondest_34, le_t, if_true, Option.map_some, nN_s]
  obtain ⟨r, k1, c', s', rfl, k2, k3⟩ := key
  exact ⟨c', s', k1, k2, k3⟩
theorem m_f24 {τ σx s : MS} {n N i : Nat} {φ : Nat → Nat} (hn : 6000 ≤ n) (g : GW τ N) (hi : i < 2 ^ N) (hφ : ∀ S, S < i → φ S ≤ 18 * S) (hM : MIf τ φ i 0 s) : ∃ c' s', itr (L_X12_fondest_24 n (nN i) σx) n (0, s) = some (.inl (nN (i + 1), s')) ∧ MIf τ φ i c' s' ∧ CIf (wN (rv (τ 172))) φ N i c' N 0 := by
  have h8 := g.le8
  have h28 := p28 h8
  have key : ∃ r, itr (L_X12_fondest_24 n (nN i) σx) n (0, s) = some r ∧ ∃ c' s', r = .inl (nN (i + 1), s') ∧ MIf τ φ i c' s' ∧ CIf (wN (rv (τ 172))) φ N i c' N 0 := by
    refine itr_inv (fun a st => ∃ c' s', st = (nN a, s') ∧ MIf τ φ i c' s' ∧ CIf (wN (rv (τ 172))) φ N i c' a 0) _ N ?_ ?_ n 0 _ (by omega) (by omega) ⟨0, s, rfl, hM, fun a' b' h1 h2 => by omega, Or.inl rfl, by omega⟩
    · rintro a st ha ⟨c', s', rfl, hM', hC'⟩
      left
      have hN := e_X12_people (GW_same g (hM'.1 172 (by omega)))
      obtain ⟨c2, s2, k1, k2, k3⟩ := m_f34 (σx := σx) hn g hi ha hφ hM' hC'
      refine ⟨(nN (a + 1), s2), ?_, c2, s2, rfl, k2, k3⟩
      simp (disch := omega) only [L_X12_fondest_24, hN, bnd_s, le_f, if_false, k1]
    · rintro st ⟨c', s', rfl, hM', hC'⟩
      have hN := e_X12_people (GW_same g (hM'.1 172 (by omega)))
      refine ⟨.inl (nN (i + 1), s'), ?_, c', s', rfl, hM', hC'⟩
      simp (disch := omega) only [L_X12_fondest_24, hN, bnd_s, le_t, if_true, Option.map_some, nN_s]
  obtain ⟨r, k1, c', s', rfl, k2, k3⟩ := key
  exact ⟨c', s', k1, k2, k3⟩
theorem okF_same {W : Nat → Nat → Nat} {N i c : Nat} {φ : Nat → Nat} (h8 : N ≤ 8) {S : Nat} (hS : S < i) (hi : i < 2 ^ N) (h : okF W N φ S) : okF W N (fun T => if T = i then c else φ T) S := by
  have h28 := p28 h8
  have e : ∀ a b, (fun T => if T = i then c else φ T) (rm (rm S a) b) = φ (rm (rm S a) b) := by
    intro a b
    have r1 := rm_le S a
    have r2 := rm_le (rm S a) b
    show (if rm (rm S a) b = i then c else φ (rm (rm S a) b)) = _
    rw [if_neg (by omega)]
  have e0 : (fun T => if T = i then c else φ T) S = φ S := by
    show (if S = i then c else φ S) = _
    rw [if_neg (by omega)]
  unfold okF
  simp only [e] at *
  rw [e0]
  exact h
theorem m_fond {σ : MS} {n N : Nat} (hn : 6000 ≤ n) (g : GW σ N) : ∃ φ s, f_X12_fondest n σ = some (nN (φ (2 ^ N - 1)), s) ∧ isF (wN (rv (σ 172))) N φ ∧ (∀ o, o ≠ 182 → s o = mu σ 171 0 0 o) := by
  have h8 := g.le8
  have h28 := p28 h8
  have hp2 := p2sub (N := N)
  generalize hτ : mu σ 171 0 0 = τ
  have e172 : τ 172 = σ 172 := by rw [← hτ, mu_row (by omega)]
  have gτ : GW τ N := GW_same g e172
  have key : ∃ r, itr (L_X12_fondest_7 n σ) n (0, τ) = some r ∧ ∃ φ, r.1 = nN (φ (2 ^ N - 1)) ∧ isF (wN (rv (σ 172))) N φ ∧ (∀ o, o ≠ 182 → r.2 o = τ o) := by
    refine itr_inv (fun i st => ∃ φ s', st = (nN i, s') ∧ (∀ S, S < i → s' 182 S = nN (φ S) ∧ okF (wN (rv (σ 172))) N φ S) ∧ (∀ o, o ≠ 182 → s' o = τ o)) _ (2 ^ N) ?_ ?_ n 0 _ (by omega) (by omega) ⟨fun _ => 0, τ, rfl, fun S hS => by omega, fun o _ => rfl⟩
    · rintro i st hi ⟨φ, s', rfl, h1, h2⟩
      left
      have hA := e_X12_everybody (GW_same gτ (h2 172 (by omega)))
      obtain ⟨c, s2, k1, ⟨m1, m2, m3⟩, ⟨c1, c2, c3⟩⟩ := m_f24 (σx := σ) (s := mu s' 182 i 0) hn gτ hi (fun S hS => (h1 S hS).2.2.2) ⟨fun o ho => by rw [mu_row ho]; exact h2 o ho, fun S hS => by rw [mu_at, if_neg (by omega)]; exact (h1 S hS).1, by rw [mu_own, if_pos rfl]; rfl⟩
      refine ⟨(nN (i + 1), s2), ?_, fun T => if T = i then c else φ T, s2, rfl, fun S hS => ?_, m1⟩
      · simp (disch := omega) only [L_X12_fondest_7, hA, bnd_s, lt_f, if_false, inb_nN, ix_nN, it_t, if_true, ltM_s, k1]
      · by_cases d : S = i
        · rw [d]
          refine ⟨by rw [m3]; show nN c = nN (if i = i then c else φ i); rw [if_pos rfl], ?_⟩
          have e : ∀ a b, i.testBit a = true → a < N → (if rm (rm i a) b = i then c else φ (rm (rm i a) b)) = φ (rm (rm i a) b) := by
            intro a b hb ha
            have r1 := rm_lt (show i < 256 by omega) (show a < 8 by omega) hb
            have r2 := rm_le (rm i a) b
            rw [if_neg (by omega)]
          rw [e172] at c1 c2
          refine ⟨fun a b hab ha b1 b2 => ?_, ?_, ?_⟩
          · show _ + (if rm (rm i a) b = i then c else φ (rm (rm i a) b)) ≤ (if i = i then c else φ i)
            rw [if_pos rfl, e a b b1 ha]
            exact c1 a b hab (Or.inl ha) b1 b2
          · show (if i = i then c else φ i) = 0 ∨ _
            rw [if_pos rfl]
            rcases c2 with h | ⟨a, b, q1, q2, q3, q4, q5⟩
            · exact Or.inl h
            · right
              refine ⟨a, b, q1, q2, q3, q4, ?_⟩
              show (if i = i then c else φ i) = _ + (if rm (rm i a) b = i then c else φ (rm (rm i a) b))
              rw [if_pos rfl, e a b q3 q2]
              exact q5
          · show (if i = i then c else φ i) ≤ _
            rw [if_pos rfl]
            exact c3
        · refine ⟨by rw [m2 S (by omega)]; show _ = nN (if S = i then c else φ S); rw [if_neg d], okF_same h8 (show S < i by omega) hi (h1 S (by omega)).2⟩
    · rintro st ⟨φ, s', rfl, h1, h2⟩
      have hA := e_X12_everybody (GW_same gτ (h2 172 (by omega)))
      have hv := (h1 (2 ^ N - 1) (by omega)).1
      refine ⟨(nN (φ (2 ^ N - 1)), s'), ?_, φ, rfl, fun S hS => (h1 S hS).2, h2⟩
      simp (disch := omega) only [L_X12_fondest_7, hA, bnd_s, lt_t, if_true, inb_nN, ix_nN, it_t, hv, Option.map_some]
  obtain ⟨⟨v, s⟩, k1, φ, k2, k3, k4⟩ := key
  simp only at k2 k4
  subst k2
  refine ⟨φ, s, ?_, k3, k4⟩
  simp only [f_X12_fondest, ltM_s, hτ, k1]
theorem s_25 {j n : Nat} {σ : MS} {x1 x2 x3 x4 x5 : Int32} (hn : 6000 ≤ n) (hI : Inv j σ) : ∃ τ, step_25 n x1 x2 x3 x4 x5 σ = some τ ∧ Inv (j + 1) τ := by
  obtain ⟨N, e, gh, gw⟩ := Inv_v hI
  have h8 := gw.le8
  have h28 := p28 h8
  have hp2 := p2sub (N := N)
  obtain ⟨φ, s, h1, h2, h3⟩ := m_fond hn gw
  rw [← e] at h2
  have hc := c_gg hn gh h2 N 0 30 (2 ^ N - 1) (by omega) (by omega) (by omega)
  rw [hi_0 (by omega)] at hc
  have hc' : G_gg n 30 0 (nN (2 ^ N - 1)) σ = some (nN (φ (2 ^ N - 1))) := hc
  have hA : f_X4_everybody 3 σ = some (nN (2 ^ N - 1)) := by
    simp only [f_X4_everybody, gh.ppl, all_nN h8]
  unfold step_25
  refine ⟨s, ?_, ?_⟩
  · simp only [f_X11_fondest, f_X8_greatest, f_X8_greatestFrom, hA, hc', bnd_s, h1, if_true]
  · have hSm : Sm (mu σ 171 0 0) s := by
      have ne : ∀ o, es o = true → o ≠ 182 := by
        intro o ho
        unfold es at ho
        have := of_decide_eq_true ho
        omega
      exact ⟨fun o ho => h3 o (ne o ho), by rw [h3 1 (by omega)], by rw [h3 171 (by omega)], by rw [h3 171 (by omega)], by rw [h3 171 (by omega)], by rw [h3 171 (by omega)]⟩
    exact Inv_mono (Inv_same hI (Sm_trans (Sm_thr σ 0) hSm)) (by omega)
