/-! layer 2: who comes to whom by bonds -/
def wid (V : HV) (N s : Nat) : Nat := fR N (fun p a => if s.testBit p = true then a ||| bndV V N p else a) s
theorem wid_256 {V : HV} {N s : Nat} (hN : N ≤ 8) (hs : s < 256) : wid V N s < 256 := by
  unfold wid
  refine fR_inv (fun _ a => a < 256) s hs ?_
  intro i b _ hb
  split
  · exact or_256 hb (mset_256 _ hN)
  · exact hb
theorem e_X10_widened {σ : MS} {n N s : Nat} (hn : 6000 ≤ n) (g : GH σ 3 N) (hs : s < 256) : f_X10_widened n (nN s) σ = some (nN (wid (hv σ 3) N s)) := by
  have hN := g.ppl
  have h8 := g.le8
  unfold f_X10_widened wid
  refine itr_0 (fun (a : Nat) i => (nN a, i)) N (fun p a => if s.testBit p = true then a ||| bndV (hv σ 3) N p else a) (fun a => nN a) (by omega) s ?_ ?_
  · intro i a hi
    simp (disch := omega) only [L_X10_widened_4, J_X10_widened_34, hN, le_f, le_t, lt_f, lt_t, if_false, if_true, bnd_s, ite_bI, ok_bI, ok_0, ok_1, ltM_s, nN_s, Option.map_some, inb_nN, ix_nN, it_t, it_f, true_or, or_true, and_bit, e_X4_boundTo hn g, nN_or]
    cases s.testBit i <;> rfl
  · intro a
    simp (disch := omega) only [L_X10_widened_4, J_X10_widened_34, hN, le_f, le_t, lt_f, lt_t, if_false, if_true, bnd_s, ite_bI, ok_bI, ok_0, ok_1, ltM_s, nN_s, Option.map_some, inb_nN, ix_nN, it_t, it_f, true_or, or_true]
theorem e_X12_widened {σ : MS} {n N s : Nat} (hn : 6000 ≤ n) (g : GW σ N) (hs : s < 256) : f_X12_widened n (nN s) σ = some (nN (wid (rv (σ 172)) N s)) := by
  have hN := e_X12_people g
  have h8 := g.le8
  have z : (0 : Int32) = nN 0 := rfl
  unfold f_X12_widened wid
  refine itr_0 (fun (a : Nat) i => (nN a, i)) N (fun p a => if s.testBit p = true then a ||| bndV (rv (σ 172)) N p else a) (fun a => nN a) (by omega) s ?_ ?_
  · intro i a hi
    simp (disch := omega) only [L_X12_widened_4, J_X12_widened_30, hN, le_f, le_t, lt_f, lt_t, if_false, if_true, bnd_s, ite_bI, ok_bI, ok_0, ok_1, ltM_s, nN_s, Option.map_some, inb_nN, ix_nN, it_t, it_f, true_or, or_true, e_X12_has, e_X12_boundTo hn g]
    cases s.testBit i
    · simp only [Bool.false_eq_true, if_false, z, nN_or, Nat.or_zero]
    · simp only [if_true, nN_or]
  · intro a
    simp (disch := omega) only [L_X12_widened_4, J_X12_widened_30, hN, le_f, le_t, lt_f, lt_t, if_false, if_true, bnd_s, ite_bI, ok_bI, ok_0, ok_1, ltM_s, nN_s, Option.map_some, inb_nN, ix_nN, it_t, it_f, true_or, or_true]
theorem wid_sub {V : HV} {N s q : Nat} (h : s.testBit q = true) : (wid V N s).testBit q = true := by
  unfold wid
  refine fR_inv (fun _ a => a.testBit q = true) s h ?_
  intro i b _ hb
  split
  · rw [Nat.testBit_or, hb]
    rfl
  · exact hb
theorem wid_lt {V : HV} {N s : Nat} (hs : s < 2 ^ N) : wid V N s < 2 ^ N := by
  unfold wid
  refine fR_inv (fun _ a => a < 2 ^ N) s hs ?_
  intro i b _ hb
  split
  · exact Nat.or_lt_two_pow hb (mset_lt _ N)
  · exact hb
theorem bc_lt {s t : Nat} (hsub : ∀ q, s.testBit q = true → t.testBit q = true) (hne : s ≠ t) (ht : t < 256) (hs : s < 256) : bc s < bc t := by
  have hx : ∃ q, q < 8 ∧ s.testBit q ≠ t.testBit q := by
    apply Classical.byContradiction
    intro hno
    apply hne
    apply bit_ext
    intro q
    by_cases hq : q < 8
    · apply Classical.byContradiction
      intro h
      exact hno ⟨q, hq, h⟩
    · rw [bit_hi hs (by omega), bit_hi ht (by omega)]
  obtain ⟨q, hq, hd⟩ := hx
  have hle : ∀ i, (s.testBit i).toNat ≤ (t.testBit i).toNat := by
    intro i
    cases h : s.testBit i
    · exact Nat.zero_le _
    · rw [hsub i h]
      exact Nat.le_refl _
  have hlt : (s.testBit q).toNat < (t.testBit q).toNat := by
    cases h : s.testBit q
    · cases h2 : t.testBit q
      · rw [h, h2] at hd
        exact absurd rfl hd
      · exact Nat.zero_lt_one
    · rw [hsub q h, h] at hd
      exact absurd rfl hd
  have a0 := hle 0
  have a1 := hle 1
  have a2 := hle 2
  have a3 := hle 3
  have a4 := hle 4
  have a5 := hle 5
  have a6 := hle 6
  have a7 := hle 7
  unfold bc
  have hq' : q = 0 ∨ q = 1 ∨ q = 2 ∨ q = 3 ∨ q = 4 ∨ q = 5 ∨ q = 6 ∨ q = 7 := by omega
  rcases hq' with h | h | h | h | h | h | h | h <;> subst h <;> omega
theorem mset_self {N s : Nat} (h : s < 2 ^ N) : mset N (fun q => s.testBit q) = s := by
  apply bit_ext
  intro q
  rw [mset_bit]
  by_cases c : q < N
  · simp [c]
  · have : s.testBit q = false := Nat.testBit_lt_two_pow (Nat.lt_of_lt_of_le h (Nat.pow_le_pow_right (by omega) (by omega)))
    simp [c, this]
theorem bc_leN {N s : Nat} (hN : N ≤ 8) (h : s < 2 ^ N) : bc s ≤ N := by
  rw [← mset_self h, bc_mset _ N hN]
  have := sm_le (f := fun q => (s.testBit q).toNat) (c := 1) (N := N) (fun i _ => by cases s.testBit i <;> decide)
  omega
def wIt (V : HV) (N k s : Nat) : Nat := fR k (fun _ a => wid V N a) s
theorem wIt_s (V : HV) (N k s : Nat) : wIt V N (k + 1) s = wid V N (wIt V N k s) := rfl
theorem wIt_256 {V : HV} {N s : Nat} (hN : N ≤ 8) (hs : s < 256) : ∀ k, wIt V N k s < 256 := by
  intro k
  induction k with
  | zero => exact hs
  | succ k ih => rw [wIt_s]; exact wid_256 hN ih
theorem wIt_lt {V : HV} {N s : Nat} (hs : s < 2 ^ N) : ∀ k, wIt V N k s < 2 ^ N := by
  intro k
  induction k with
  | zero => exact hs
  | succ k ih => rw [wIt_s]; exact wid_lt ih
theorem wIt_stay {V : HV} {N s k : Nat} (h : wIt V N (k + 1) s = wIt V N k s) : ∀ m, k ≤ m → wIt V N m s = wIt V N k s := by
  intro m
  induction m with
  | zero => intro hk; have : k = 0 := by omega
            subst this; rfl
  | succ m ih =>
    intro hk
    by_cases c : k = m + 1
    · rw [c]
    · rw [wIt_s, ih (by omega), ← wIt_s, h]
theorem wIt_end {V : HV} {N p : Nat} (hN : N ≤ 8) (hp : p < N) : ∀ m, N - 1 ≤ m → wIt V N m (2 ^ p) = wIt V N (N - 1) (2 ^ p) := by
  have hs : 2 ^ p < 2 ^ N := Nat.pow_lt_pow_right (by omega) hp
  have h256 : 2 ^ p < 256 := Nat.lt_of_lt_of_le hs (p28 hN)
  have hx : ∃ k, k < N ∧ wIt V N (k + 1) (2 ^ p) = wIt V N k (2 ^ p) := by
    apply Classical.byContradiction
    intro hno
    have grow : ∀ k, k ≤ N → k + 1 ≤ bc (wIt V N k (2 ^ p)) := by
      intro k
      induction k with
      | zero =>
        intro _
        have : bc 0 < bc (2 ^ p) := bc_lt (fun q h => by simp at h) (by have := Nat.pow_pos (n := p) (show 0 < 2 by omega); omega) h256 (by omega)
        have h0 : wIt V N 0 (2 ^ p) = 2 ^ p := rfl
        rw [h0]
        omega
      | succ k ih =>
        intro hk
        have h1 := ih (by omega)
        have h2 : bc (wIt V N k (2 ^ p)) < bc (wIt V N (k + 1) (2 ^ p)) := by
          apply bc_lt
          · intro q hq
            rw [wIt_s]
            exact wid_sub hq
          · intro he
            exact hno ⟨k, by omega, he.symm⟩
          · exact wIt_256 hN h256 _
          · exact wIt_256 hN h256 _
        omega
    have h1 := grow N (Nat.le_refl _)
    have h2 := bc_leN hN (wIt_lt (V := V) hs N)
    omega
  obtain ⟨k, hk, he⟩ := hx
  intro m hm
  rw [wIt_stay he m (by omega), wIt_stay he (N - 1) (by omega)]
theorem e_X10_around {σ : MS} {n N p : Nat} (hn : 6000 ≤ n) (g : GH σ 3 N) (hp : p < N) : f_X10_around n (nN p) σ = some (nN (wIt (hv σ 3) N 8 (2 ^ p))) := by
  have hN := g.ppl
  have h8 := g.le8
  have h256 : 2 ^ p < 256 := Nat.lt_of_lt_of_le (Nat.pow_lt_pow_right (by omega) hp) (p28 h8)
  rw [wIt_end h8 hp 8 (by omega)]
  unfold f_X10_around
  rw [shl1 (by omega), l1]
  refine itr_upP (fun (a : Nat) i => (nN a, i)) 1 (N - 1) (fun _ a => wid (hv σ 3) N a) (fun a => nN a) (fun _ a => a < 256) (by omega) (2 ^ p) h256 ?_ ?_
  · intro i a hi ha
    refine ⟨?_, wid_256 h8 ha⟩
    simp (disch := omega) only [L_X10_around_6, hN, le_f, le_t, lt_f, lt_t, if_false, if_true, bnd_s, ite_bI, ok_bI, ok_0, ok_1, ltM_s, nN_s, Option.map_some, inb_nN, ix_nN, it_t, it_f, true_or, or_true, e_X10_widened hn g]
  · intro a _
    simp (disch := omega) only [L_X10_around_6, hN, le_f, le_t, lt_f, lt_t, if_false, if_true, bnd_s, ite_bI, ok_bI, ok_0, ok_1, ltM_s, nN_s, Option.map_some, inb_nN, ix_nN, it_t, it_f, true_or, or_true]
theorem e_X12_circleOf {σ : MS} {n N p : Nat} (hn : 6000 ≤ n) (g : GW σ N) (hp : p < N) : f_X12_circleOf n (nN p) σ = some (nN (wIt (rv (σ 172)) N 8 (2 ^ p))) := by
  have h8 := g.le8
  have h256 : 2 ^ p < 256 := Nat.lt_of_lt_of_le (Nat.pow_lt_pow_right (by omega) hp) (p28 h8)
  unfold f_X12_circleOf
  rw [shl1 (by omega)]
  refine itr_0P (fun (a : Nat) i => (nN a, i)) 8 (fun _ a => wid (rv (σ 172)) N a) (fun a => nN a) (fun _ a => a < 256) (by omega) (2 ^ p) h256 ?_ ?_
  · intro i a hi ha
    refine ⟨?_, wid_256 h8 ha⟩
    simp (disch := omega) only [L_X12_circleOf_6, l8, le_f, le_t, lt_f, lt_t, if_false, if_true, bnd_s, ite_bI, ok_bI, ok_0, ok_1, ltM_s, nN_s, Option.map_some, inb_nN, ix_nN, it_t, it_f, true_or, or_true, e_X12_widened hn g]
  · intro a _
    simp (disch := omega) only [L_X12_circleOf_6, l8, le_f, le_t, lt_f, lt_t, if_false, if_true, bnd_s, ite_bI, ok_bI, ok_0, ok_1, ltM_s, nN_s, Option.map_some, inb_nN, ix_nN, it_t, it_f, true_or, or_true]
/-- in how many steps -/
def ST (V : HV) (N p o : Nat) (r : Int32) : Prop :=
  (∃ k, k < 8 ∧ (wIt V N k (2 ^ p)).testBit o = true ∧ (∀ j, j < k → (wIt V N j (2 ^ p)).testBit o = false) ∧ r = nN k) ∨ (r = -1 ∧ ∀ k, k < 8 → (wIt V N k (2 ^ p)).testBit o = false)
theorem ST_one {V : HV} {N p o : Nat} {r r' : Int32} (h : ST V N p o r) (h' : ST V N p o r') : r = r' := by
  rcases h with ⟨k, a1, a2, a3, a4⟩ | ⟨a1, a2⟩
  · rcases h' with ⟨k', b1, b2, b3, b4⟩ | ⟨b1, b2⟩
    · have : k = k' := by
        rcases Nat.lt_trichotomy k k' with c | c | c
        · rw [b3 k c] at a2
          cases a2
        · exact c
        · rw [a3 k' c] at b2
          cases b2
      rw [a4, b4, this]
    · rw [b2 k a1] at a2
      cases a2
  · rcases h' with ⟨k', b1, b2, b3, b4⟩ | ⟨b1, b2⟩
    · rw [a2 k' b1] at b2
      cases b2
    · rw [a1, b1]
theorem e_X10_steps {σ : MS} {n N p o : Nat} (hn : 6000 ≤ n) (g : GH σ 3 N) (hp : p < N) (ho : o < N) : ∃ r, f_X10_steps n (nN p) (nN o) σ = some r ∧ ST (hv σ 3) N p o r := by
  have hN := g.ppl
  have h8 := g.le8
  have h256 : 2 ^ p < 256 := Nat.lt_of_lt_of_le (Nat.pow_lt_pow_right (by omega) hp) (p28 h8)
  have hw := fun k => wIt_256 (V := hv σ 3) (N := N) (s := 2 ^ p) h8 h256 k
  unfold f_X10_steps
  rw [shl1 (by omega)]
  refine itr_inv (fun i a => a = (nN (wIt (hv σ 3) N i (2 ^ p)), nN i) ∧ ∀ j, j < i → (wIt (hv σ 3) N j (2 ^ p)).testBit o = false) (fun r => ST (hv σ 3) N p o r) N ?_ ?_ n 0 _ (by omega) (by omega) ⟨rfl, fun j hj => by omega⟩
  · intro i a hi ⟨ha, hno⟩
    subst ha
    have := hw i
    simp (disch := omega) only [L_X10_steps_7, hN, le_f, le_t, lt_f, lt_t, if_false, if_true, bnd_s, ite_bI, ok_bI, ok_0, ok_1, ltM_s, nN_s, Option.map_some, inb_nN, ix_nN, it_t, it_f, true_or, or_true, and_bit, e_X10_widened hn g]
    cases hb : (wIt (hv σ 3) N i (2 ^ p)).testBit o
    · left
      refine ⟨_, rfl, rfl, fun j hj => ?_⟩
      by_cases c : j < i
      · exact hno j c
      · have : j = i := by omega
        rw [this]
        exact hb
    · right
      exact ⟨_, rfl, Or.inl ⟨i, by omega, hb, hno, rfl⟩⟩
  · intro a ⟨ha, hno⟩
    subst ha
    simp (disch := omega) only [L_X10_steps_7, hN, le_f, le_t, lt_f, lt_t, if_false, if_true, bnd_s, ite_bI, ok_bI, ok_0, ok_1, ltM_s, nN_s, Option.map_some, inb_nN, ix_nN, it_t, it_f, true_or, or_true]
    refine ⟨_, rfl, Or.inr ⟨rfl, fun k hk => ?_⟩⟩
    by_cases c : k < N
    · exact hno k c
    · rw [wIt_end h8 hp k (by omega)]
      exact hno (N - 1) (by omega)
theorem thr0 (σ : MS) : mu σ 171 0 0 172 = σ 172 := mu_row (by omega)
theorem GW.row {σ τ : MS} {N : Nat} (g : GW σ N) (h : τ 172 = σ 172) : GW τ N := by
  unfold GW
  rw [h]
  exact g
theorem e_X12_between {σ : MS} {n N : Nat} (hn : 6000 ≤ n) (g : GW σ N) (x y : Int32) : (isP N x = true → isP N y = true → ∃ p o r, p < N ∧ o < N ∧ x = nN p ∧ y = nN o ∧ f_X12_between n x y σ = some (r, mu σ 171 0 0) ∧ ST (rv (σ 172)) N p o r) ∧ ((isP N x && isP N y) = false → f_X12_between n x y σ = some (0, mu (mu σ 171 0 0) 171 0 1)) := by
  have h8 := g.le8
  obtain ⟨τ, hτ⟩ : ∃ τ, τ = mu σ 171 0 0 := ⟨_, rfl⟩
  have hrow : τ 172 = σ 172 := by rw [hτ]; exact thr0 σ
  have g' : GW τ N := g.row hrow
  constructor
  · intro hx hy
    obtain ⟨p, hp, rfl⟩ := isP_t hx
    obtain ⟨o, ho, rfl⟩ := isP_t hy
    have h256 : 2 ^ p < 256 := Nat.lt_of_lt_of_le (Nat.pow_lt_pow_right (by omega) hp) (p28 h8)
    have hw := fun k => wIt_256 (V := rv (σ 172)) (N := N) (s := 2 ^ p) h8 h256 k
    simp only [f_X12_between, ltM_s, ← hτ, e_X12_noBoth g', hx, hy, Bool.and_self, Bool.not_true, bnd_s, e_X12_throwsIf, ite_bI, it_f]
    rw [shl1 (by omega)]
    have key : ∃ b, itr (L_X12_between_28 n (nN o) τ) n (nN (2 ^ p), 0) = some b ∧ b.2 = τ ∧ ST (rv (σ 172)) N p o b.1 := by
      refine itr_inv (fun i a => a = (nN (wIt (rv (σ 172)) N i (2 ^ p)), nN i) ∧ ∀ j, j < i → (wIt (rv (σ 172)) N j (2 ^ p)).testBit o = false) _ 8 ?_ ?_ n 0 _ (by omega) (by omega) ⟨rfl, fun j hj => by omega⟩
      · intro i a hi ⟨ha, hno⟩
        subst ha
        have := hw i
        simp (disch := omega) only [L_X12_between_28, l8, le_f, le_t, lt_f, lt_t, if_false, if_true, bnd_s, ite_bI, ok_bI, ok_0, ok_1, ltM_s, nN_s, Option.map_some, inb_nN, ix_nN, it_t, it_f, true_or, or_true, e_X12_has, e_X12_widened hn g', hrow]
        cases hb : (wIt (rv (σ 172)) N i (2 ^ p)).testBit o
        · left
          refine ⟨_, rfl, rfl, fun j hj => ?_⟩
          by_cases c : j < i
          · exact hno j c
          · have : j = i := by omega
            rw [this]
            exact hb
        · right
          exact ⟨_, rfl, rfl, Or.inl ⟨i, by omega, hb, hno, rfl⟩⟩
      · intro a ⟨ha, hno⟩
        subst ha
        simp (disch := omega) only [L_X12_between_28, l8, le_f, le_t, lt_f, lt_t, if_false, if_true, bnd_s, ite_bI, ok_bI, ok_0, ok_1, ltM_s, nN_s, Option.map_some, inb_nN, ix_nN, it_t, it_f, true_or, or_true]
        exact ⟨_, rfl, rfl, Or.inr ⟨rfl, hno⟩⟩
    obtain ⟨⟨r, m⟩, hb, hm, hS⟩ := key
    simp only at hm
    subst hm
    exact ⟨p, o, r, hp, ho, rfl, rfl, hb, hS⟩
  · intro h
    simp only [f_X12_between, ltM_s, ← hτ, e_X12_noBoth g', h, Bool.not_false, bnd_s, e_X12_throwsIf, ite_bI, it_t, if_true]
/-! circles -/
def cirB (c p : Nat) : Bool := decide (c ≠ 2 ^ p) && decide (nN c &&& -nN c = nN (2 ^ p))
def ntzI (c : Nat) : Int32 := (f_J6_numberOfTrailingZeros_0f7a4 (nN c) (fun _ _ => 0)).getD 0
theorem e_ntz {c : Nat} (σ : MS) (hc : c < 256) : 0 < c → f_J6_numberOfTrailingZeros_0f7a4 (nN c) σ = some (ntzI c) := by
  have H : ∀ c, c < 256 → 0 < c → f_J6_numberOfTrailingZeros_0f7a4 (nN c) (fun _ _ => 0) = some (ntzI c) := by decide +kernel
  exact H c hc
theorem cir_ok : ∀ c, c < 256 → ∀ p, p < 8 → c.testBit p = true → 0 < c ∧ (decide (1 < bc c) && decide (ntzI c = nN p)) = cirB c p := by decide +kernel
theorem wIt_sub {V : HV} {N s q : Nat} (h : s.testBit q = true) : ∀ k, (wIt V N k s).testBit q = true := by
  intro k
  induction k with
  | zero => exact h
  | succ k ih => rw [wIt_s]; exact wid_sub ih
def cirV (V : HV) (N : Nat) : Nat := sm N (fun p => (cirB (wIt V N 8 (2 ^ p)) p).toNat)
theorem e_X10_groups {σ : MS} {n N : Nat} (hn : 6000 ≤ n) (g : GH σ 3 N) : f_X10_groups n σ = some (nN (cirV (hv σ 3) N)) := by
  have hN := g.ppl
  have h8 := g.le8
  unfold f_X10_groups cirV sm
  refine itr_0 (fun (a : Nat) i => (nN a, i)) N (fun p a => a + (cirB (wIt (hv σ 3) N 8 (2 ^ p)) p).toNat) (fun a => nN a) (by omega) 0 ?_ ?_
  · intro p a hp
    have h256 : 2 ^ p < 256 := Nat.lt_of_lt_of_le (Nat.pow_lt_pow_right (by omega) hp) (p28 h8)
    have hw := wIt_256 (V := hv σ 3) (N := N) (s := 2 ^ p) h8 h256 8
    have hne : (nN (wIt (hv σ 3) N 8 (2 ^ p)) = nN (2 ^ p)) = (wIt (hv σ 3) N 8 (2 ^ p) = 2 ^ p) := nN_eq (by omega) (by omega)
    simp (disch := omega) only [L_X10_groups_4, J_X10_groups_41, hN, le_f, le_t, lt_f, lt_t, if_false, if_true, bnd_s, ite_bI, ok_bI, ok_0, ok_1, ltM_s, nN_s, Option.map_some, inb_nN, ix_nN, it_t, it_f, true_or, or_true, e_X10_around hn g, shl1, f_J6_lowestOneBit_0f7a4, hne]
    unfold cirB
    by_cases c1 : wIt (hv σ 3) N 8 (2 ^ p) = 2 ^ p
    · rw [c1]
      simp
    · by_cases c2 : nN (wIt (hv σ 3) N 8 (2 ^ p)) &&& -nN (wIt (hv σ 3) N 8 (2 ^ p)) = nN (2 ^ p)
      · simp only [c1, if_false, c2, if_true, ne_eq, not_false_eq_true, decide_true, Bool.and_self]
        rfl
      · simp only [c1, if_false, c2, ne_eq, not_false_eq_true, decide_true, decide_false, Bool.and_false]
        rfl
  · intro a
    simp (disch := omega) only [L_X10_groups_4, J_X10_groups_41, hN, le_f, le_t, lt_f, lt_t, if_false, if_true, bnd_s, ite_bI, ok_bI, ok_0, ok_1, ltM_s, nN_s, Option.map_some, inb_nN, ix_nN, it_t, it_f, true_or, or_true]
theorem e_X12_circles {σ : MS} {n N : Nat} (hn : 6000 ≤ n) (g : GW σ N) : f_X12_circles n σ = some (nN (cirV (rv (σ 172)) N), mu σ 171 0 0) := by
  have h8 := g.le8
  obtain ⟨τ, hτ⟩ : ∃ τ, τ = mu σ 171 0 0 := ⟨_, rfl⟩
  have hrow : τ 172 = σ 172 := by rw [hτ]; exact thr0 σ
  have g' : GW τ N := g.row hrow
  have hN := e_X12_people g'
  simp only [f_X12_circles, ltM_s, ← hτ]
  unfold cirV sm
  refine itr_0 (fun (a : Nat) i => (nN a, i)) N (fun p a => a + (cirB (wIt (rv (σ 172)) N 8 (2 ^ p)) p).toNat) (fun a => (nN a, τ)) (by omega) 0 ?_ ?_
  · intro p a hp
    have h256 : 2 ^ p < 256 := Nat.lt_of_lt_of_le (Nat.pow_lt_pow_right (by omega) hp) (p28 h8)
    have hw := wIt_256 (V := rv (σ 172)) (N := N) (s := 2 ^ p) h8 h256 8
    have hin : (wIt (rv (σ 172)) N 8 (2 ^ p)).testBit p = true := wIt_sub (by rw [Nat.testBit_two_pow]; simp) 8
    have hc := e_X12_circleOf hn g' hp
    rw [hrow] at hc
    show L_X12_circles_9 n τ (nN a, nN p) = some (.inl (nN (a + (cirB (wIt (rv (σ 172)) N 8 (2 ^ p)) p).toNat), nN (p + 1)))
    revert hw hin hc
    generalize wIt (rv (σ 172)) N 8 (2 ^ p) = c
    intro hw hin hc
    have hb := bc_le c
    obtain ⟨k0, k2⟩ := cir_ok c hw p (by omega) hin
    have k1 := e_ntz τ hw k0
    rw [← k2]
    have z : (0 : Int32) = nN 0 := rfl
    simp (disch := omega) only [L_X12_circles_9, J_X12_circles_45, J_X12_circles_44, hN, le_f, le_t, lt_f, lt_t, if_false, if_true, bnd_s, ite_bI, ok_bI, ok_0, ok_1, ltM_s, nN_s, Option.map_some, inb_nN, ix_nN, it_t, it_f, true_or, or_true, hc, e_bc, k1]
    rw [l1, it_le (by omega) (by omega)]
    by_cases c1 : bc c ≤ 1
    · have c1' : ¬ 1 < bc c := by omega
      simp only [c1, if_true, c1', decide_false, Bool.false_and, z, nN_add]
      rfl
    · have c1' : 1 < bc c := by omega
      simp only [c1, if_false, c1', decide_true, Bool.true_and]
      by_cases h : ntzI c = nN p
      · rw [if_pos h, decide_eq_true h]
        first
          | (rw [nN_add]; rfl)
          | (rw [nN_s]; rfl)
          | rfl
      · rw [if_neg h, decide_eq_false h]
        first
          | (rw [z, nN_add]; rfl)
          | rfl
  · intro a
    simp (disch := omega) only [L_X12_circles_9, J_X12_circles_45, J_X12_circles_44, hN, le_f, le_t, lt_f, lt_t, if_false, if_true, bnd_s, ite_bI, ok_bI, ok_0, ok_1, ltM_s, nN_s, Option.map_some, inb_nN, ix_nN, it_t, it_f, true_or, or_true]
