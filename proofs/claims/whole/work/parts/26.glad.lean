/-! layer 2: gladder, lovers; sums over people -/
theorem nN_p1 (i : Nat) : nN i + (-1) = nN i - 1 := by rw [Int32.sub_eq_add_neg]
theorem nN_sp (i : Nat) : nN (i + 1) - 1 = nN i := by
  rw [l1, nN_sub (by omega)]
  rfl
theorem nN_z1 : nN 0 - 1 = -1 := rfl
/-- a loop downwards: the numbers s + k - 1 .. s -/
def fD {α : Type} (k : Nat) (g : Nat → α → α) (a : α) : α := match k with
  | 0 => a
  | j + 1 => fD j g (g j a)
theorem fD_s {α : Type} (j : Nat) (g : Nat → α → α) (a : α) : fD (j + 1) g a = fD j g (g j a) := rfl
theorem itr_dn {α γ β : Type} {f : γ → Option (γ ⊕ β)} (mk : α → Int32 → γ) (s : Nat) (g : Nat → α → α) (fin : α → β) (P : Nat → α → Prop)
    (hstep : ∀ i a, P (i + 1) a → f (mk a (nN (s + i))) = some (.inl (mk (g i a) (nN (s + i) - 1))) ∧ P i (g i a))
    (hlast : ∀ a, P 0 a → f (mk a (nN s - 1)) = some (.inr (fin a))) : ∀ (k n : Nat) (a : α), k < n → P k a → itr f n (mk a (nN (s + k) - 1)) = some (fin (fD k g a)) ∧ P 0 (fD k g a) := by
  intro k
  induction k with
  | zero =>
    intro n a hn hP
    obtain ⟨m, rfl⟩ : ∃ m, n = m + 1 := ⟨n - 1, by omega⟩
    refine ⟨?_, hP⟩
    have := hlast a hP
    simp [itr, this, fD]
  | succ k ih =>
    intro n a hn hP
    obtain ⟨m, rfl⟩ : ∃ m, n = m + 1 := ⟨n - 1, by omega⟩
    obtain ⟨h1, h2⟩ := hstep k a hP
    obtain ⟨h3, h4⟩ := ih m (g k a) (by omega) h2
    refine ⟨?_, h4⟩
    have e : nN (s + (k + 1)) - 1 = nN (s + k) := nN_sp (s + k)
    rw [e, fD_s]
    simp only [itr, h1]
    exact h3
theorem fD_sm (f : Nat → Nat) : ∀ (k a : Nat), fD k (fun i a => a + f i) a = a + sm k f := by
  intro k
  induction k with
  | zero => intro a; rfl
  | succ j ih => intro a; rw [fD_s, ih, sm_s]; omega
def cU (N : Nat) (b : Nat → Nat → Bool) : Nat := sm N (fun p => sm (N - (p + 1)) (fun i => (b p (p + 1 + i)).toNat))
theorem pU_cU (N : Nat) (b : Nat → Nat → Bool) : pU N (fun p q a => a + (b p q).toNat) 0 = cU N b := by
  unfold pU
  rw [fR_congr (g' := fun p a => a + sm (N - (p + 1)) (fun i => (b p (p + 1 + i)).toNat)) 0 (fun p a hp => fR_sm (fun i => (b p (p + 1 + i)).toNat) (N - (p + 1)) a), fR_sm]
  exact Nat.zero_add _
theorem cU_eq {N : Nat} {b : Nat → Nat → Bool} (hs : ∀ p q, p < N → q < N → b p q = b q p) : cU N b = cD N b := by
  rw [← pU_cU, cU_cD b hs]
def lmV (V : HV) (N p : Nat) : Int32 := if (mostV V N p).2 = -1 then 0 else likeV V p (ix (mostV V N p).2)
def glV (V : HV) (N p q : Nat) : Bool := decide (q ≠ p) && decide (lmV V N p < likeV V p q)
theorem e_X12_likesMost {σ : MS} {n N p : Nat} (hn : 6000 ≤ n) (g : GW σ N) (hp : p < 8) : f_X12_likesMost n (nN p) σ = some (lmV (rv (σ 172)) N p) := by
  have h8 := g.le8
  simp only [f_X12_likesMost, J_X12_likesMost_20, e_X12_mostOf hn g hp, bnd_s]
  unfold lmV
  rcases most_is (rv (σ 172)) N p with ⟨h1, h2⟩ | ⟨q, hq, -, h2, h3, -⟩
  · rw [h2]
    rfl
  · rw [h2, it_m1 (by omega), it_0le (by omega), e_X12_likes hp (by omega), ix_nN (by omega)]
    rfl
theorem e_X12_isGladder {σ : MS} {n N p q : Nat} (hn : 6000 ≤ n) (g : GW σ N) (hp : p < 8) (hq : q < 8) : f_X12_isGladder n (nN p) (nN q) σ = some (bI (glV (rv (σ 172)) N p q)) := by
  unfold glV
  simp only [f_X12_isGladder, J_X12_isGladder_24, J_X12_isGladder_23, e_X12_likesMost hn g hp, e_X12_likes hp hq, bnd_s, ok_0, ok_1]
  simp (disch := omega) only [nN_eq]
  by_cases c : p = q
  · subst c
    simp [bI]
  · have c' : q ≠ p := fun h => c h.symm
    by_cases d : likeV (rv (σ 172)) p q ≤ lmV (rv (σ 172)) N p
    · have d' : ¬ lmV (rv (σ 172)) N p < likeV (rv (σ 172)) p q := by rw [Int32.not_lt]; exact d
      simp [c, c', d, d', bI]
    · have d' : lmV (rv (σ 172)) N p < likeV (rv (σ 172)) p q := by rw [← Int32.not_le]; exact d
      simp [c, c', d, d', bI]
theorem e_X12_gladderBy {σ : MS} {n N p : Nat} (hn : 6000 ≤ n) (g : GW σ N) (hp : p < 8) : f_X12_gladderBy n (nN p) σ = some (nN (mset N (glV (rv (σ 172)) N p))) := by
  have hN := e_X12_people g
  have h8 := g.le8
  have z : (0 : Int32) = nN 0 := rfl
  unfold f_X12_gladderBy mset
  refine itr_0 (fun (a : Nat) i => (nN a, i)) N (fun q a => if glV (rv (σ 172)) N p q = true then a ||| 2 ^ q else a) (fun a => nN a) (by omega) 0 ?_ ?_
  · intro i a hi
    simp (disch := omega) only [L_X12_gladderBy_4, J_X12_gladderBy_29, hN, le_f, le_t, lt_f, lt_t, if_false, if_true, bnd_s, ite_bI, ok_bI, ok_0, ok_1, ltM_s, nN_s, Option.map_some, inb_nN, ix_nN, it_t, it_f, true_or, or_true, e_X12_isGladder hn g, shl1]
    cases glV (rv (σ 172)) N p i
    · simp only [Bool.false_eq_true, if_false, z, nN_or, Nat.or_zero]
    · simp only [if_true, nN_or]
  · intro a
    simp (disch := omega) only [L_X12_gladderBy_4, J_X12_gladderBy_29, hN, le_f, le_t, lt_f, lt_t, if_false, if_true, bnd_s, ite_bI, ok_bI, ok_0, ok_1, ltM_s, nN_s, Option.map_some, inb_nN, ix_nN, it_t, it_f, true_or, or_true]
theorem e_X8_gladder {σ : MS} {n N p : Nat} (hn : 6000 ≤ n) (g : GH σ 3 N) (hp : p < 8) : f_X8_gladder n (nN p) σ = some (nN (mset N (glV (hv σ 3) N p))) := by
  have hN := g.ppl
  have h8 := g.le8
  have key : ∀ lv, lv = lmV (hv σ 3) N p → J_X8_gladder_27 n (nN p) lv σ = some (nN (mset N (glV (hv σ 3) N p))) := by
    intro lv hlv
    unfold J_X8_gladder_27 mset
    refine itr_0 (fun (a : Nat) i => (nN a, i)) N (fun q a => if glV (hv σ 3) N p q = true then a ||| 2 ^ q else a) (fun a => nN a) (by omega) 0 ?_ ?_
    · intro i a hi
      have d1 : glV (hv σ 3) N p i = (decide (i ≠ p) && decide (lv < likeV (hv σ 3) p i)) := by rw [hlv]; rfl
      rw [d1]
      by_cases c : i = p
      · subst c
        simp (disch := omega) only [L_X8_gladder_34, J_X8_gladder_75, hN, le_f, le_t, lt_f, lt_t, if_false, if_true, bnd_s, ite_bI, ok_bI, ok_0, ok_1, ltM_s, nN_s, Option.map_some, inb_nN, ix_nN, it_t, it_f, true_or, or_true, ne_eq, not_true, decide_false, Bool.false_and, Bool.false_eq_true]
      · have c' : (nN i = nN p) = False := by rw [nN_eq (by omega) (by omega)]; simp [c]
        simp (disch := omega) only [L_X8_gladder_34, J_X8_gladder_75, hN, le_f, le_t, lt_f, lt_t, if_false, if_true, bnd_s, ite_bI, ok_bI, ok_0, ok_1, ltM_s, nN_s, Option.map_some, inb_nN, ix_nN, it_t, it_f, true_or, or_true, c', e_X4_likingOf, shl1, nN_or]
        by_cases d : likeV (hv σ 3) p i ≤ lv
        · have d' : ¬ lv < likeV (hv σ 3) p i := by rw [Int32.not_lt]; exact d
          simp [c, d, d']
        · have d' : lv < likeV (hv σ 3) p i := by rw [← Int32.not_le]; exact d
          simp [c, d, d']
    · intro a
      simp (disch := omega) only [L_X8_gladder_34, J_X8_gladder_75, hN, le_f, le_t, lt_f, lt_t, if_false, if_true, bnd_s, ite_bI, ok_bI, ok_0, ok_1, ltM_s, nN_s, Option.map_some, inb_nN, ix_nN, it_t, it_f, true_or, or_true]
  simp only [f_X8_gladder, e_X4_closest hn g hp, bnd_s]
  rcases most_is (hv σ 3) N p with ⟨h1, h2⟩ | ⟨q, hq, -, h2, h3, -⟩
  · rw [h2]
    rw [if_pos rfl]
    apply key
    unfold lmV
    rw [h2]
    rfl
  · rw [h2, it_m1 (by omega), e_X4_likingOf hp (by omega), bnd_s]
    apply key
    unfold lmV
    rw [h2, it_m1 (by omega), ix_nN (by omega)]
def loV (V : HV) (N p q : Nat) : Bool := glV V N p q && glV V N q p
theorem e_X8_areLovers {σ : MS} {n N p q : Nat} (hn : 6000 ≤ n) (g : GH σ 3 N) (hp : p < N) (hq : q < N) : f_X8_areLovers n (nN p) (nN q) σ = some (bI (loV (hv σ 3) N p q)) := by
  have h8 := g.le8
  simp only [f_X8_areLovers, J_X8_areLovers_29, J_X8_areLovers_28, e_X8_gladder hn g (show p < 8 by omega), e_X8_gladder hn g (show q < 8 by omega), bnd_s, ok_0, ok_1]
  have m1 := mset_256 (glV (hv σ 3) N p) h8
  have m2 := mset_256 (glV (hv σ 3) N q) h8
  simp (disch := omega) only [it_bit, mset_bit]
  have e1 : decide (q < N) = true := decide_eq_true hq
  have e2 : decide (p < N) = true := decide_eq_true hp
  rw [e1, e2, Bool.true_and, Bool.true_and]
  unfold loV
  cases glV (hv σ 3) N p q <;> cases glV (hv σ 3) N q p <;> rfl
theorem lo_sym (V : HV) (N p q : Nat) : loV V N p q = loV V N q p := Bool.and_comm _ _
theorem e_X8_manyLovers {σ : MS} {n N : Nat} (hn : 6000 ≤ n) (g : GH σ 3 N) : f_X8_manyLovers n σ = some (nN (cD N (loV (hv σ 3) N))) := by
  have hN := g.ppl
  have h8 := g.le8
  rw [← cU_cD (loV (hv σ 3) N) (fun p q _ _ => lo_sym _ _ _ _)]
  unfold f_X8_manyLovers pU
  refine itr_0 (fun (a : Nat) i => (nN a, i)) N (fun p a => fR (N - (p + 1)) (fun i a => a + (loV (hv σ 3) N p (p + 1 + i)).toNat) a) (fun a => nN a) (by omega) 0 ?_ ?_
  · intro p a hp
    simp (disch := omega) only [L_X8_manyLovers_4, hN, le_f, le_t, lt_f, lt_t, if_false, if_true, bnd_s, ite_bI, ok_bI, ok_0, ok_1, ltM_s, nN_s, Option.map_some, inb_nN, ix_nN, it_t, it_f, true_or, or_true]
    refine itr_up (fun (a : Nat) i => (nN a, i)) (p + 1) (N - (p + 1)) (fun i a => a + (loV (hv σ 3) N p (p + 1 + i)).toNat) (fun a => Sum.inl (nN a, nN (p + 1))) (by omega) a ?_ ?_
    · intro i a hi
      simp (disch := omega) only [L_X8_manyLovers_19, J_X8_manyLovers_42, hN, le_f, le_t, lt_f, lt_t, if_false, if_true, bnd_s, ite_bI, ok_bI, ok_0, ok_1, ltM_s, nN_s, Option.map_some, inb_nN, ix_nN, it_t, it_f, true_or, or_true, e_X8_areLovers hn g]
      cases loV (hv σ 3) N p (p + 1 + i) <;> rfl
    · intro a
      simp (disch := omega) only [L_X8_manyLovers_19, J_X8_manyLovers_42, hN, le_f, le_t, lt_f, lt_t, if_false, if_true, bnd_s, ite_bI, ok_bI, ok_0, ok_1, ltM_s, nN_s, Option.map_some, inb_nN, ix_nN, it_t, it_f, true_or, or_true]
  · intro a
    simp (disch := omega) only [L_X8_manyLovers_4, hN, le_f, le_t, lt_f, lt_t, if_false, if_true, bnd_s, ite_bI, ok_bI, ok_0, ok_1, ltM_s, nN_s, Option.map_some, inb_nN, ix_nN, it_t, it_f, true_or, or_true]
/-- the first pair from t on -/
def FL (N : Nat) (b : Nat → Nat → Bool) (t : Nat) (r : Int32) : Prop :=
  (r = -1 ∧ ∀ p q, p < q → q < N → t ≤ 8 * p + q → b p q = false) ∨ ∃ p q, p < q ∧ q < N ∧ t ≤ 8 * p + q ∧ b p q = true ∧ r = nN (10 * p + q) ∧ ∀ p' q', p' < q' → q' < N → t ≤ 8 * p' + q' → b p' q' = true → 8 * p + q ≤ 8 * p' + q'
theorem FL_one {N : Nat} {b : Nat → Nat → Bool} {t : Nat} {r r' : Int32} (hN : N ≤ 8) (h : FL N b t r) (h' : FL N b t r') : r = r' := by
  rcases h with ⟨h1, h2⟩ | ⟨p, q, a1, a2, a3, a4, a5, a6⟩
  · rcases h' with ⟨h1', -⟩ | ⟨p, q, a1, a2, a3, a4, a5, a6⟩
    · rw [h1, h1']
    · rw [h2 p q a1 a2 a3] at a4
      cases a4
  · rcases h' with ⟨h1, h2⟩ | ⟨p', q', c1, c2, c3, c4, c5, c6⟩
    · rw [h2 p q a1 a2 a3] at a4
      cases a4
    · have e1 := a6 p' q' c1 c2 c3 c4
      have e2 := c6 p q a1 a2 a3 a4
      have : p = p' ∧ q = q' := by omega
      rw [a5, c5, this.1, this.2]
theorem FL_skip {N : Nat} {b : Nat → Nat → Bool} {t u : Nat} {r : Int32} (htu : t ≤ u) (hno : ∀ p q, p < q → q < N → t ≤ 8 * p + q → 8 * p + q < u → b p q = false) (h : FL N b u r) : FL N b t r := by
  rcases h with ⟨h1, h2⟩ | ⟨p, q, a1, a2, a3, a4, a5, a6⟩
  · left
    refine ⟨h1, fun p q hp hq ht => ?_⟩
    by_cases c : 8 * p + q < u
    · exact hno p q hp hq ht c
    · exact h2 p q hp hq (by omega)
  · right
    refine ⟨p, q, a1, a2, by omega, a4, a5, fun p' q' hp hq ht hb => ?_⟩
    by_cases c : 8 * p' + q' < u
    · rw [hno p' q' hp hq ht c] at hb
      cases hb
    · exact a6 p' q' hp hq (by omega) hb
theorem FL_hit {N p q : Nat} {b : Nat → Nat → Bool} (hpq : p < q) (hq : q < N) (h : b p q = true) : FL N b (8 * p + q) (nN (10 * p + q)) :=
  Or.inr ⟨p, q, hpq, hq, Nat.le_refl _, h, rfl, fun _ _ _ _ ht _ => ht⟩
theorem FL_end (N : Nat) (b : Nat → Nat → Bool) (t : Nat) (hN : N ≤ 8) (ht : 8 * N ≤ t) : FL N b t (-1) := Or.inl ⟨rfl, fun p q hp hq h => by omega⟩
theorem e_X8_firstLovers {σ : MS} {n N : Nat} (hn : 6000 ≤ n) (g : GH σ 3 N) : ∃ r, f_X8_firstLovers n σ = some r ∧ FL N (loV (hv σ 3) N) 0 r := by
  have hN := g.ppl
  have h8 := g.le8
  unfold f_X8_firstLovers
  refine itr_inv (fun i a => a = nN i ∧ ∀ p q, p < q → q < N → 8 * p + q < 8 * i → loV (hv σ 3) N p q = false) (fun r => FL N (loV (hv σ 3) N) 0 r) N ?_ ?_ n 0 0 (by omega) (by omega) ⟨rfl, fun p q _ _ h => by omega⟩
  · intro p a hp ⟨ha, hno⟩
    subst ha
    have inner : ∃ b, itr (L_X8_firstLovers_17 n (nN p) σ) n (nN (p + 1)) = some b ∧ ((b = .inl (nN (p + 1)) ∧ ∀ p' q, p' < q → q < N → 8 * p' + q < 8 * (p + 1) → loV (hv σ 3) N p' q = false) ∨ ∃ r, b = .inr r ∧ FL N (loV (hv σ 3) N) 0 r) := by
      refine itr_inv (fun i a => a = nN (p + 1 + i) ∧ ∀ p' q, p' < q → q < N → 8 * p' + q < 8 * p + (p + 1 + i) → loV (hv σ 3) N p' q = false) _ (N - (p + 1)) ?_ ?_ n 0 _ (by omega) (by omega) ⟨rfl, fun p' q h1 h2 h3 => ?_⟩
      · intro i a hi ⟨ha, hno2⟩
        subst ha
        simp (disch := omega) only [L_X8_firstLovers_17, hN, le_f, le_t, lt_f, lt_t, if_false, if_true, bnd_s, ite_bI, ok_bI, ok_0, ok_1, ltM_s, nN_s, Option.map_some, inb_nN, ix_nN, it_t, it_f, true_or, or_true, e_X8_areLovers hn g]
        cases hb : loV (hv σ 3) N p (p + 1 + i)
        · left
          refine ⟨_, rfl, rfl, fun p' q h1 h2 h3 => ?_⟩
          by_cases c : 8 * p' + q < 8 * p + (p + 1 + i)
          · exact hno2 p' q h1 h2 c
          · have : p' = p ∧ q = p + 1 + i := by omega
            rw [this.1, this.2]
            exact hb
        · right
          refine ⟨_, rfl, Or.inr ⟨_, rfl, ?_⟩⟩
          rw [l10, nN_mul, nN_add]
          exact FL_skip (Nat.zero_le _) (fun p' q h1 h2 _ h3 => hno2 p' q h1 h2 h3) (FL_hit (by omega) (by omega) hb)
      · intro a ⟨ha, hno2⟩
        subst ha
        simp (disch := omega) only [L_X8_firstLovers_17, hN, le_f, le_t, lt_f, lt_t, if_false, if_true, bnd_s, ite_bI, ok_bI, ok_0, ok_1, ltM_s, nN_s, Option.map_some, inb_nN, ix_nN, it_t, it_f, true_or, or_true]
        refine ⟨_, rfl, Or.inl ⟨rfl, fun p' q h1 h2 h3 => hno2 p' q h1 h2 (by omega)⟩⟩
      · by_cases c : 8 * p' + q < 8 * p
        · exact hno p' q h1 h2 c
        · omega
    obtain ⟨b, hb, hR⟩ := inner
    simp (disch := omega) only [L_X8_firstLovers_2, hN, le_f, le_t, lt_f, lt_t, if_false, if_true, bnd_s, ite_bI, ok_bI, ok_0, ok_1, ltM_s, nN_s, Option.map_some, inb_nN, ix_nN, it_t, it_f, true_or, or_true, hb]
    rcases hR with ⟨rfl, h2⟩ | ⟨r, rfl, h2⟩
    · exact Or.inl ⟨_, rfl, rfl, h2⟩
    · exact Or.inr ⟨_, rfl, h2⟩
  · intro a ⟨ha, hno⟩
    subst ha
    simp (disch := omega) only [L_X8_firstLovers_2, hN, le_f, le_t, lt_f, lt_t, if_false, if_true, bnd_s, ite_bI, ok_bI, ok_0, ok_1, ltM_s, nN_s, Option.map_some, inb_nN, ix_nN, it_t, it_f, true_or, or_true]
    exact ⟨_, rfl, Or.inl ⟨rfl, fun p q h1 h2 _ => hno p q h1 h2 (by omega)⟩⟩
theorem e_X12_lovers {σ : MS} {n N : Nat} (hn : 6000 ≤ n) (g : GW σ N) (x : Int32) : ∃ r, f_X12_lovers n x σ = some (if x = 0 then nN (cD N (loV (rv (σ 172)) N)) else r, mu σ 171 0 0) ∧ FL N (loV (rv (σ 172)) N) 0 r := by
  have h8 := g.le8
  obtain ⟨τ, hτ⟩ : ∃ τ, τ = mu σ 171 0 0 := ⟨_, rfl⟩
  have hrow : τ 172 = σ 172 := by rw [hτ]; exact mu_row (by omega)
  have g' : GW τ N := by unfold GW; rw [hrow]; exact g
  have hN := e_X12_people g'
  have hcc : cD N (loV (rv (σ 172)) N) = cU N (loV (rv (σ 172)) N) := (cU_eq (fun p q _ _ => lo_sym _ _ _ _)).symm
  simp only [f_X12_lovers, ltM_s, ← hτ, hN, bnd_s]
  have key := itr_dn (f := L_X12_lovers_17 n x τ) (fun (a : Nat × Int32) i => (nN a.1, a.2, i)) 0
    (fun p a => fD (N - (p + 1)) (fun i a => (a.1 + (loV (rv (σ 172)) N p (p + 1 + i)).toNat, if loV (rv (σ 172)) N p (p + 1 + i) = true then nN (10 * p + (p + 1 + i)) else a.2)) a)
    (fun a => (if x = 0 then nN a.1 else a.2, τ))
    (fun p a => p ≤ N ∧ FL N (loV (rv (σ 172)) N) (8 * p) a.2) ?_ ?_ N n (0, -1) (by omega) ⟨Nat.le_refl _, FL_end N _ _ h8 (Nat.le_refl _)⟩
  · simp only [Nat.zero_add] at key
    refine ⟨_, ?_, by simpa using key.2.2⟩
    have e1 := key.1
    have e0 : ∀ k (a : Nat × Int32), (fD k (fun p a => fD (N - (p + 1)) (fun i a => (a.1 + (loV (rv (σ 172)) N p (p + 1 + i)).toNat, if loV (rv (σ 172)) N p (p + 1 + i) = true then nN (10 * p + (p + 1 + i)) else a.2)) a) a).1 = a.1 + sm k (fun p => sm (N - (p + 1)) (fun i => (loV (rv (σ 172)) N p (p + 1 + i)).toNat)) := by
      have e00 : ∀ p k (a : Nat × Int32), (fD k (fun i a => (a.1 + (loV (rv (σ 172)) N p (p + 1 + i)).toNat, if loV (rv (σ 172)) N p (p + 1 + i) = true then nN (10 * p + (p + 1 + i)) else a.2)) a).1 = a.1 + sm k (fun i => (loV (rv (σ 172)) N p (p + 1 + i)).toNat) := by
        intro p k
        induction k with
        | zero => intro a; rfl
        | succ j ih => intro a; rw [fD_s, ih, sm_s]; simp only; omega
      intro k
      induction k with
      | zero => intro a; rfl
      | succ j ih => intro a; rw [fD_s, ih, e00, sm_s]; omega
    rw [hcc]
    unfold cU
    have e2 := e0 N (0, -1)
    rw [Nat.zero_add] at e2
    rw [← e2]
    exact e1
  · intro p a ⟨hp, hFL⟩
    have hp8 : p < 8 := by omega
    have inner := itr_dn (f := L_X12_lovers_30 n x (nN p) τ) (fun (a : Nat × Int32) i => (nN a.1, a.2, i)) (p + 1)
      (fun i a => (a.1 + (loV (rv (σ 172)) N p (p + 1 + i)).toNat, if loV (rv (σ 172)) N p (p + 1 + i) = true then nN (10 * p + (p + 1 + i)) else a.2))
      (fun a => Sum.inl (nN a.1, a.2, nN p - 1))
      (fun i a => p + 1 + i ≤ N ∧ FL N (loV (rv (σ 172)) N) (8 * p + (p + 1 + i)) a.2) ?_ ?_ (N - (p + 1)) n a (by omega) ⟨by omega, FL_skip (u := 8 * (p + 1)) (by omega) (fun p' q h1 h2 h3 h4 => by omega) hFL⟩
    · have e : p + 1 + (N - (p + 1)) = N := by omega
      rw [e] at inner
      constructor
      · simp (disch := omega) only [Nat.zero_add, L_X12_lovers_17, nN_lt0, hN, le_f, le_t, lt_f, lt_t, if_false, if_true, bnd_s, ite_bI, ok_bI, ok_0, ok_1, ltM_s, nN_s, Option.map_some, inb_nN, ix_nN, it_t, it_f, true_or, or_true]
        exact inner.1
      · refine ⟨by omega, FL_skip (u := 8 * p + (p + 1 + 0)) (by omega) (fun p' q h1 h2 h3 h4 => by omega) inner.2.2⟩
    · intro i a ⟨hi, hF⟩
      constructor
      · simp (disch := omega) only [L_X12_lovers_30, J_X12_lovers_74, le_f, le_t, lt_f, lt_t, if_false, if_true, bnd_s, ite_bI, ok_bI, ok_0, ok_1, ltM_s, nN_s, Option.map_some, inb_nN, ix_nN, it_t, it_f, true_or, or_true, e_X12_isGladder hn g', hrow, nN_p1, l10, nN_mul, nN_add]
        unfold loV
        cases glV (rv (σ 172)) N p (p + 1 + i) <;> cases glV (rv (σ 172)) N (p + 1 + i) p <;> rfl
      · refine ⟨by omega, ?_⟩
        show FL N (loV (rv (σ 172)) N) (8 * p + (p + 1 + i)) (if loV (rv (σ 172)) N p (p + 1 + i) = true then nN (10 * p + (p + 1 + i)) else a.2)
        cases hb : loV (rv (σ 172)) N p (p + 1 + i)
        · exact FL_skip (u := 8 * p + (p + 1 + (i + 1))) (by omega) (fun p' q h1 h2 h3 h4 => by
            have : p' = p ∧ q = p + 1 + i := by omega
            rw [this.1, this.2]
            exact hb) hF
        · exact FL_hit (by omega) (by omega) hb
    · intro a _
      simp (disch := omega) only [nN_sp, L_X12_lovers_30, le_f, le_t, lt_f, lt_t, if_false, if_true, bnd_s, ite_bI, ok_bI, ok_0, ok_1, ltM_s, nN_s, Option.map_some, inb_nN, ix_nN, it_t, it_f, true_or, or_true, nN_p1]
  · intro a _
    simp (disch := omega) only [nN_z1, L_X12_lovers_17, J_X12_lovers_95, le_f, le_t, lt_f, lt_t, if_false, if_true, bnd_s, ite_bI, ok_bI, ok_0, ok_1, ltM_s, nN_s, Option.map_some, inb_nN, ix_nN, it_t, it_f, true_or, or_true]
    by_cases c : x = 0 <;> simp [c]
def susV (V : HV) (N : Nat) : Int32 := fR N (fun p a => a + V 3 p) 0
theorem e_X4_allSuspicion {σ : MS} {n h N : Nat} (hn : 6000 ≤ n) (g : GH σ h N) : f_X4_allSuspicion n h σ = some (susV (hv σ h) N) := by
  have hN := g.ppl
  have h8 := g.le8
  unfold f_X4_allSuspicion susV
  refine itr_0 (fun (a : Int32) i => (a, i)) N (fun p a => a + hv σ h 3 p) (fun a => a) (by omega) 0 ?_ ?_
  · intro i a hi
    rw [(h_one (σ := σ) (h := h) (show i < 8 by omega)).2.2.1]
    simp (disch := omega) only [L_X4_allSuspicion_4, hN, le_f, le_t, lt_f, lt_t, if_false, if_true, bnd_s, ite_bI, ok_bI, ok_0, ok_1, ltM_s, nN_s, Option.map_some, inb_nN, ix_nN, it_t, it_f, true_or, or_true]
  · intro a
    simp (disch := omega) only [L_X4_allSuspicion_4, hN, le_f, le_t, lt_f, lt_t, if_false, if_true, bnd_s, ite_bI, ok_bI, ok_0, ok_1, ltM_s, nN_s, Option.map_some, inb_nN, ix_nN, it_t, it_f, true_or, or_true]
theorem e_X12_suspectedOfAll {σ : MS} {n N : Nat} (hn : 6000 ≤ n) (g : GW σ N) : f_X12_suspectedOfAll n σ = some (susV (rv (σ 172)) N) := by
  have hN := e_X12_people g
  have h8 := g.le8
  unfold f_X12_suspectedOfAll susV
  refine itr_0 (fun (a : Int32) i => (a, i)) N (fun p a => a + rv (σ 172) 3 p) (fun a => a) (by omega) 0 ?_ ?_
  · intro i a hi
    simp (disch := omega) only [L_X12_suspectedOfAll_4, hN, le_f, le_t, lt_f, lt_t, if_false, if_true, bnd_s, ite_bI, ok_bI, ok_0, ok_1, ltM_s, nN_s, Option.map_some, inb_nN, ix_nN, it_t, it_f, true_or, or_true, e_X12_of2]
  · intro a
    simp (disch := omega) only [L_X12_suspectedOfAll_4, hN, le_f, le_t, lt_f, lt_t, if_false, if_true, bnd_s, ite_bI, ok_bI, ok_0, ok_1, ltM_s, nN_s, Option.map_some, inb_nN, ix_nN, it_t, it_f, true_or, or_true]
def cplV (V : HV) (N : Nat) : Int32 := fR N (fun p a => if V 2 p ≤ nN p then a else a + 1) 0
theorem e_X4_couples {σ : MS} {n h N : Nat} (hn : 6000 ≤ n) (g : GH σ h N) : f_X4_couples n h σ = some (cplV (hv σ h) N) := by
  have hN := g.ppl
  have h8 := g.le8
  unfold f_X4_couples cplV
  refine itr_0 (fun (a : Int32) i => (a, i)) N (fun p a => if hv σ h 2 p ≤ nN p then a else a + 1) (fun a => a) (by omega) 0 ?_ ?_
  · intro i a hi
    rw [(h_one (σ := σ) (h := h) (show i < 8 by omega)).2.1]
    simp (disch := omega) only [L_X4_couples_4, J_X4_couples_25, hN, le_f, le_t, lt_f, lt_t, if_false, if_true, bnd_s, ite_bI, ok_bI, ok_0, ok_1, ltM_s, nN_s, Option.map_some, inb_nN, ix_nN, it_t, it_f, true_or, or_true]
    split <;> rfl
  · intro a
    simp (disch := omega) only [L_X4_couples_4, J_X4_couples_25, hN, le_f, le_t, lt_f, lt_t, if_false, if_true, bnd_s, ite_bI, ok_bI, ok_0, ok_1, ltM_s, nN_s, Option.map_some, inb_nN, ix_nN, it_t, it_f, true_or, or_true]
theorem e_X12_pairsWed {σ : MS} {n N : Nat} (hn : 6000 ≤ n) (g : GW σ N) : f_X12_pairsWed n σ = some (cplV (rv (σ 172)) N) := by
  have hN := e_X12_people g
  have h8 := g.le8
  unfold f_X12_pairsWed cplV
  refine itr_0 (fun (a : Int32) i => (a, i)) N (fun p a => if rv (σ 172) 2 p ≤ nN p then a else a + 1) (fun a => a) (by omega) 0 ?_ ?_
  · intro i a hi
    simp (disch := omega) only [L_X12_pairsWed_4, J_X12_pairsWed_28, hN, le_f, le_t, lt_f, lt_t, if_false, if_true, bnd_s, ite_bI, ok_bI, ok_0, ok_1, ltM_s, nN_s, Option.map_some, inb_nN, ix_nN, it_t, it_f, true_or, or_true, e_X12_of1]
    split
    · rw [Int32.add_zero]
    · rfl
  · intro a
    simp (disch := omega) only [L_X12_pairsWed_4, J_X12_pairsWed_28, hN, le_f, le_t, lt_f, lt_t, if_false, if_true, bnd_s, ite_bI, ok_bI, ok_0, ok_1, ltM_s, nN_s, Option.map_some, inb_nN, ix_nN, it_t, it_f, true_or, or_true]
