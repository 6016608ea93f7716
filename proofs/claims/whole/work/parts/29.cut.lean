/-! layer 2: parting two, whom to tell, who is free on a day -/
def lvV (V : HV) (N s : Nat) : Nat := sm N (fun p => if s.testBit p = true then bc (bndV V N p &&& (255 ^^^ s)) else 0)
theorem lv_64 (V : HV) {N : Nat} (s : Nat) (hN : N ≤ 8) : lvV V N s ≤ 64 := by
  have := sm_le (f := fun p => if s.testBit p = true then bc (bndV V N p &&& (255 ^^^ s)) else 0) (c := 8) (N := N) (fun i _ => by
    show (if s.testBit i = true then bc (bndV V N i &&& (255 ^^^ s)) else 0) ≤ 8
    split
    · exact bc_le _
    · omega)
  have h : N * 8 ≤ 8 * 8 := Nat.mul_le_mul_right 8 hN
  unfold lvV
  omega
theorem e_X10_leaving {σ : MS} {n N s : Nat} (hn : 6000 ≤ n) (g : GH σ 3 N) (hs : s < 256) : f_X10_leaving n (nN s) σ = some (nN (lvV (hv σ 3) N s)) := by
  have hN := g.ppl
  have h8 := g.le8
  unfold f_X10_leaving lvV sm
  refine itr_0 (fun (a : Nat) i => (nN a, i)) N (fun p a => a + (if s.testBit p = true then bc (bndV (hv σ 3) N p &&& (255 ^^^ s)) else 0)) (fun a => nN a) (by omega) 0 ?_ ?_
  · intro p a hp
    have hb : bndV (hv σ 3) N p < 256 := mset_256 _ h8
    have hb2 : bndV (hv σ 3) N p &&& (255 ^^^ s) < 256 := and_256 hb
    simp (disch := omega) only [L_X10_leaving_4, J_X10_leaving_41, hN, le_f, le_t, lt_f, lt_t, if_false, if_true, bnd_s, ite_bI, ok_bI, ok_0, ok_1, ltM_s, nN_s, Option.map_some, inb_nN, ix_nN, it_t, it_f, true_or, or_true, and_bit, e_X4_boundTo hn g, nN_diff, e_bc, nN_add]
    cases s.testBit p <;> rfl
  · intro a
    simp (disch := omega) only [L_X10_leaving_4, J_X10_leaving_41, hN, le_f, le_t, lt_f, lt_t, if_false, if_true, bnd_s, ite_bI, ok_bI, ok_0, ok_1, ltM_s, nN_s, Option.map_some, inb_nN, ix_nN, it_t, it_f, true_or, or_true]
theorem e_X12_crossing {σ : MS} {n N s : Nat} (hn : 6000 ≤ n) (g : GW σ N) (hs : s < 256) : f_X12_crossing n (nN s) σ = some (nN (lvV (rv (σ 172)) N s)) := by
  have hN := e_X12_people g
  have h8 := g.le8
  have z : (0 : Int32) = nN 0 := rfl
  unfold f_X12_crossing lvV sm
  refine itr_0 (fun (a : Nat) i => (nN a, i)) N (fun p a => a + (if s.testBit p = true then bc (bndV (rv (σ 172)) N p &&& (255 ^^^ s)) else 0)) (fun a => nN a) (by omega) 0 ?_ ?_
  · intro p a hp
    have hb : bndV (rv (σ 172)) N p < 256 := mset_256 _ h8
    have hb2 : bndV (rv (σ 172)) N p &&& (255 ^^^ s) < 256 := and_256 hb
    simp (disch := omega) only [L_X12_crossing_4, J_X12_crossing_37, hN, le_f, le_t, lt_f, lt_t, if_false, if_true, bnd_s, ite_bI, ok_bI, ok_0, ok_1, ltM_s, nN_s, Option.map_some, inb_nN, ix_nN, it_t, it_f, true_or, or_true, e_X12_has, e_X12_boundTo hn g, nN_diff, e_bc]
    cases s.testBit p
    · simp only [Bool.false_eq_true, if_false, z, nN_add]
    · simp only [if_true, nN_add]
  · intro a
    simp (disch := omega) only [L_X12_crossing_4, J_X12_crossing_37, hN, le_f, le_t, lt_f, lt_t, if_false, if_true, bnd_s, ite_bI, ok_bI, ok_0, ok_1, ltM_s, nN_s, Option.map_some, inb_nN, ix_nN, it_t, it_f, true_or, or_true]
def cutG (V : HV) (N p o s a : Nat) : Nat := if (s.testBit p && !s.testBit o) = true then min a (lvV V N s) else a
def cutV (V : HV) (N p o : Nat) : Nat := fR (2 ^ N) (cutG V N p o) 64
theorem cut_min (V : HV) (N p o x : Nat) : ∀ (K y : Nat), fR K (cutG V N p o) (min x y) = min x (fR K (cutG V N p o) y) := by
  intro K
  induction K with
  | zero => intro y; rfl
  | succ k ih =>
    intro y
    rw [fR_s, fR_s, ih]
    unfold cutG
    split
    · omega
    · rfl
theorem cut_le (V : HV) (N p o s : Nat) (hs : (s.testBit p && !s.testBit o) = true) : ∀ (K y : Nat), s < K → fR K (cutG V N p o) y ≤ lvV V N s := by
  intro K
  induction K with
  | zero => intro y h; omega
  | succ k ih =>
    intro y h
    rw [fR_s]
    by_cases c : s = k
    · subst c
      unfold cutG
      rw [if_pos hs]
      omega
    · have := ih y (by omega)
      unfold cutG
      split
      · unfold cutG at this
        omega
      · exact this
theorem p2sub {N : Nat} : 2 ^ N - 1 + 1 = 2 ^ N := by
  have := Nat.pow_pos (n := N) (show 0 < 2 by omega)
  omega
theorem e_X10_cut {σ : MS} {n N p o : Nat} (hn : 6000 ≤ n) (g : GH σ 3 N) (hp : p < N) (ho : o < N) : f_X10_cut n (nN p) (nN o) σ = some (nN (cutV (hv σ 3) N p o)) := by
  have hA := e_X4_everybody g
  have h8 := g.le8
  have hk := p28 h8
  have hp2 := p2sub (N := N)
  unfold f_X10_cut cutV
  rw [l64]
  refine itr_0P (fun (a : Nat) i => (nN a, i)) (2 ^ N) (cutG (hv σ 3) N p o) (fun a => nN a) (fun _ a => a ≤ 64) (by omega) 64 (by omega) ?_ ?_
  · intro s a hs ha
    have hl := lv_64 (hv σ 3) s h8
    constructor
    · simp (disch := omega) only [L_X10_cut_6, J_X10_cut_47, hA, le_f, le_t, lt_f, lt_t, if_false, if_true, bnd_s, ite_bI, ok_bI, ok_0, ok_1, ltM_s, nN_s, Option.map_some, inb_nN, ix_nN, it_t, it_f, true_or, or_true, and_bit, e_X10_leaving hn g, mnI_nN]
      unfold cutG
      cases s.testBit p <;> cases s.testBit o <;> rfl
    · show cutG (hv σ 3) N p o s a ≤ 64
      unfold cutG
      split <;> omega
  · intro a _
    simp (disch := omega) only [L_X10_cut_6, J_X10_cut_47, hA, le_f, le_t, lt_f, lt_t, if_false, if_true, bnd_s, ite_bI, ok_bI, ok_0, ok_1, ltM_s, nN_s, Option.map_some, inb_nN, ix_nN, it_t, it_f, true_or, or_true]
theorem cut_far {V : HV} {N p o : Nat} (h8 : N ≤ 8) (hp : p < N) (hpo : p ≠ o) : fR (2 ^ N) (cutG V N p o) 1000000 = cutV V N p o := by
  unfold cutV
  have h1 := cut_min V N p o 64 (2 ^ N) 1000000
  have h2 := cut_le V N p o (2 ^ p) (by
    rw [Nat.testBit_two_pow, Nat.testBit_two_pow]
    simp [hpo]) (2 ^ N) 1000000 (Nat.pow_lt_pow_right (by omega) hp)
  have h3 := lv_64 V (2 ^ p) h8
  have e : min 64 1000000 = 64 := rfl
  rw [e] at h1
  rw [h1]
  omega
theorem l1e6 : (1000000 : Int32) = nN 1000000 := rfl
theorem e_X12_parts {σ : MS} {n N : Nat} (hn : 6000 ≤ n) (g : GW σ N) (x y : Int32) :
    f_X12_parts n x y σ = some (if (isP N x && isP N y) = true then (if x = y then (0, mu (mu σ 171 0 0) 171 0 2) else (nN (cutV (rv (σ 172)) N (ix x) (ix y)), mu σ 171 0 0)) else (0, mu (mu σ 171 0 0) 171 0 1)) := by
  have h8 := g.le8
  obtain ⟨τ, hτ⟩ : ∃ τ, τ = mu σ 171 0 0 := ⟨_, rfl⟩
  have hrow : τ 172 = σ 172 := by rw [hτ]; exact thr0 σ
  have g' : GW τ N := g.row hrow
  have b1 : (1 : Int32) = bI true := rfl
  have b0 : (0 : Int32) = bI false := rfl
  simp only [f_X12_parts, J_X12_parts_30, J_X12_parts_37, ltM_s, ← hτ, e_X12_noBoth g', bnd_s, e_X12_throwsIf, ite_bI]
  by_cases hxy : (isP N x && isP N y) = true
  · rw [hxy]
    simp only [Bool.not_true, it_f, it_t]
    rw [Bool.and_eq_true] at hxy
    obtain ⟨p, hp, rfl⟩ := isP_t hxy.1
    obtain ⟨o, ho, rfl⟩ := isP_t hxy.2
    have t1 : f_X12_throwsIf 1 2 τ = some (1, mu τ 171 0 2) := e_X12_throwsIf (σ := τ) true 2
    have t0 : f_X12_throwsIf 0 2 τ = some (0, τ) := e_X12_throwsIf (σ := τ) false 2
    simp (disch := omega) only [nN_eq]
    by_cases c : p = o
    · subst c
      simp only [if_true, t1, bnd_s]
      rfl
    · simp only [c, if_false, t0, bnd_s, if_true]
      rw [ix_nN (by omega), ix_nN (by omega), ← cut_far h8 hp c, l1e6]
      have hA := e_X12_everybody g'
      have hk := p28 h8
      have hp2 := p2sub (N := N)
      refine itr_0P (fun (a : Nat) i => (nN a, i)) (2 ^ N) (cutG (rv (σ 172)) N p o) (fun a => (nN a, τ)) (fun _ a => a ≤ 1000000) (by omega) 1000000 (by omega) ?_ ?_
      · intro s a hs ha
        have hl := lv_64 (rv (σ 172)) s h8
        constructor
        · simp (disch := omega) only [L_X12_parts_46, J_X12_parts_86, J_X12_parts_87, hA, le_f, le_t, lt_f, lt_t, if_false, if_true, bnd_s, ite_bI, ok_bI, ok_0, ok_1, ltM_s, nN_s, Option.map_some, inb_nN, ix_nN, it_t, it_f, true_or, or_true, e_X12_has, e_X12_crossing hn g', hrow, mnI_nN]
          unfold cutG
          cases s.testBit p <;> cases s.testBit o <;> rfl
        · show cutG (rv (σ 172)) N p o s a ≤ 1000000
          unfold cutG
          split <;> omega
      · intro a _
        simp (disch := omega) only [L_X12_parts_46, J_X12_parts_86, J_X12_parts_87, hA, le_f, le_t, lt_f, lt_t, if_false, if_true, bnd_s, ite_bI, ok_bI, ok_0, ok_1, ltM_s, nN_s, Option.map_some, inb_nN, ix_nN, it_t, it_f, true_or, or_true]
  · have hf : (isP N x && isP N y) = false := by
      cases h : (isP N x && isP N y)
      · rfl
      · exact absurd h hxy
    rw [hf]
    simp only [Bool.not_false, it_t, it_f, if_true, if_false, Bool.false_eq_true]
/-! whom to tell -/
def cov (V : HV) (N s : Nat) : Prop := ∀ p q, q < p → p < N → secV V p q = true → s.testBit p = true ∨ s.testBit q = true
theorem e_X10_knowsAll {σ : MS} {n N s : Nat} (hn : 6000 ≤ n) (g : GH σ 3 N) (hs : s < 256) : ∃ b, f_X10_knowsAll n (nN s) σ = some (bI b) ∧ (b = true ↔ cov (hv σ 3) N s) := by
  have hN := g.ppl
  have h8 := g.le8
  have key : ∃ r, f_X10_knowsAll n (nN s) σ = some r ∧ ((r = 1 ∧ cov (hv σ 3) N s) ∨ (r = 0 ∧ ¬ cov (hv σ 3) N s)) := by
    unfold f_X10_knowsAll
    refine itr_inv (fun i a => a = nN i ∧ ∀ p q, p < q → q < N → p < i → secV (hv σ 3) p q = true → s.testBit p = true ∨ s.testBit q = true) _ N ?_ ?_ n 0 0 (by omega) (by omega) ⟨rfl, fun p q _ _ h => by omega⟩
    · intro p a hp ⟨ha, hno⟩
      subst ha
      have inner : ∃ b, itr (L_X10_knowsAll_17 n (nN s) (nN p) σ) n (nN (p + 1)) = some b ∧ ((b = .inl (nN (p + 1)) ∧ ∀ q, p < q → q < N → secV (hv σ 3) p q = true → s.testBit p = true ∨ s.testBit q = true) ∨ (b = .inr 0 ∧ ¬ cov (hv σ 3) N s)) := by
        refine itr_inv (fun i a => a = nN (p + 1 + i) ∧ ∀ q, p < q → q < p + 1 + i → secV (hv σ 3) p q = true → s.testBit p = true ∨ s.testBit q = true) _ (N - (p + 1)) ?_ ?_ n 0 _ (by omega) (by omega) ⟨rfl, fun q h1 h2 => by omega⟩
        · intro i a hi ⟨ha, hno2⟩
          subst ha
          have hbits : (nN s &&& (nN (2 ^ p) ||| nN (2 ^ (p + 1 + i))) = 0) = (s.testBit p = false ∧ s.testBit (p + 1 + i) = false) := by
            rw [nN_or, nN_and, l0, nN_eq (Nat.lt_of_le_of_lt Nat.and_le_left (by omega)) (by omega)]
            apply propext
            constructor
            · intro h
              have hz : ∀ k, (s &&& (2 ^ p ||| 2 ^ (p + 1 + i))).testBit k = false := by intro k; rw [h]; simp
              have z1 := hz p
              have z2 := hz (p + 1 + i)
              rw [Nat.testBit_and, Nat.testBit_or, Nat.testBit_two_pow, Nat.testBit_two_pow] at z1 z2
              constructor
              · simpa using z1
              · simpa using z2
            · intro ⟨h1, h2⟩
              apply bit_ext
              intro k
              rw [Nat.testBit_and, Nat.testBit_or, Nat.testBit_two_pow, Nat.testBit_two_pow]
              by_cases c1 : p = k
              · subst c1
                rw [h1]
                simp
              · by_cases c2 : p + 1 + i = k
                · subst c2
                  rw [h2]
                  simp
                · simp [c1, c2]
          simp (disch := omega) only [L_X10_knowsAll_17, J_X10_knowsAll_54, hN, le_f, le_t, lt_f, lt_t, if_false, if_true, bnd_s, ite_bI, ok_bI, ok_0, ok_1, ltM_s, nN_s, Option.map_some, inb_nN, ix_nN, it_t, it_f, true_or, or_true, e_X4_isSecret, shl1, hbits]
          by_cases c : s.testBit p = false ∧ s.testBit (p + 1 + i) = false
          · rw [if_pos c]
            cases hb : secV (hv σ 3) p (p + 1 + i)
            · left
              refine ⟨_, rfl, rfl, fun q h1 h2 h3 => ?_⟩
              by_cases c2 : q < p + 1 + i
              · exact hno2 q h1 c2 h3
              · have : q = p + 1 + i := by omega
                rw [this, hb] at h3
                cases h3
            · right
              refine ⟨_, rfl, Or.inr ⟨rfl, fun hc => ?_⟩⟩
              have := hc (p + 1 + i) p (by omega) (by omega) (by rw [sec_sym g (by omega) (by omega)]; exact hb)
              rw [c.1, c.2] at this
              rcases this with h | h <;> cases h
          · rw [if_neg c]
            left
            refine ⟨_, rfl, rfl, fun q h1 h2 h3 => ?_⟩
            by_cases c2 : q < p + 1 + i
            · exact hno2 q h1 c2 h3
            · have : q = p + 1 + i := by omega
              subst this
              cases h4 : s.testBit p
              · cases h5 : s.testBit (p + 1 + i)
                · exact absurd ⟨h4, h5⟩ c
                · exact Or.inr rfl
              · exact Or.inl rfl
        · intro a ⟨ha, hno2⟩
          subst ha
          simp (disch := omega) only [L_X10_knowsAll_17, J_X10_knowsAll_54, hN, le_f, le_t, lt_f, lt_t, if_false, if_true, bnd_s, ite_bI, ok_bI, ok_0, ok_1, ltM_s, nN_s, Option.map_some, inb_nN, ix_nN, it_t, it_f, true_or, or_true]
          exact ⟨_, rfl, Or.inl ⟨rfl, fun q h1 h2 h3 => hno2 q h1 (by omega) h3⟩⟩
      obtain ⟨b, hb, hR⟩ := inner
      simp (disch := omega) only [L_X10_knowsAll_2, hN, le_f, le_t, lt_f, lt_t, if_false, if_true, bnd_s, ite_bI, ok_bI, ok_0, ok_1, ltM_s, nN_s, Option.map_some, inb_nN, ix_nN, it_t, it_f, true_or, or_true, hb]
      rcases hR with ⟨rfl, h2⟩ | ⟨rfl, h2⟩
      · left
        refine ⟨_, rfl, rfl, fun p' q h1 h3 h4 h5 => ?_⟩
        by_cases c : p' < p
        · exact hno p' q h1 h3 c h5
        · have : p' = p := by omega
          subst this
          exact h2 q h1 h3 h5
      · right
        exact ⟨_, rfl, Or.inr ⟨rfl, h2⟩⟩
    · intro a ⟨ha, hno⟩
      subst ha
      simp (disch := omega) only [L_X10_knowsAll_2, hN, le_f, le_t, lt_f, lt_t, if_false, if_true, bnd_s, ite_bI, ok_bI, ok_0, ok_1, ltM_s, nN_s, Option.map_some, inb_nN, ix_nN, it_t, it_f, true_or, or_true]
      refine ⟨_, rfl, Or.inl ⟨rfl, fun p q h1 h2 h3 => ?_⟩⟩
      have := hno q p h1 h2 (by omega) (by rw [sec_sym g (by omega) (by omega)]; exact h3)
      exact this.symm
  obtain ⟨r, hr, h | h⟩ := key
  · exact ⟨true, by rw [hr, h.1]; rfl, fun _ => h.2, fun _ => rfl⟩
  · exact ⟨false, by rw [hr, h.1]; rfl, fun hx => (by cases hx), fun hx => absurd hx h.2⟩
theorem e_X12_allTold {σ : MS} {n N s : Nat} (hn : 6000 ≤ n) (g : GW σ N) (hs : s < 256) : ∃ b, f_X12_allTold n (nN s) σ = some (bI b) ∧ (b = true ↔ cov (rv (σ 172)) N s) := by
  have hN := e_X12_people g
  have h8 := g.le8
  have key : ∃ r, f_X12_allTold n (nN s) σ = some r ∧ ((r = 1 ∧ cov (rv (σ 172)) N s) ∨ (r = 0 ∧ ¬ cov (rv (σ 172)) N s)) := by
    unfold f_X12_allTold
    refine itr_inv (fun i a => ∃ b, a = (bI b, nN i) ∧ (b = true ↔ ∀ p q, q < p → p < i → secV (rv (σ 172)) p q = true → s.testBit p = true ∨ s.testBit q = true)) _ N ?_ ?_ n 0 _ (by omega) (by omega) ⟨true, rfl, fun _ p q _ h => by omega, fun _ => rfl⟩
    · intro p a hp ⟨b, ha, hb⟩
      subst ha
      have inner : ∃ c, itr (L_X12_allTold_15 n (nN s) (nN p) σ) n (bI b, 0) = some c ∧ ∃ b', c = .inl (bI b', nN (p + 1)) ∧ (b' = true ↔ ∀ p' q, q < p' → p' < p + 1 → secV (rv (σ 172)) p' q = true → s.testBit p' = true ∨ s.testBit q = true) := by
        refine itr_inv (fun i a => ∃ b', a = (bI b', nN i) ∧ (b' = true ↔ (b = true ∧ ∀ q, q < i → secV (rv (σ 172)) p q = true → s.testBit p = true ∨ s.testBit q = true))) _ p ?_ ?_ n 0 _ (by omega) (by omega) ⟨b, rfl, fun h => ⟨h, fun q hq => by omega⟩, fun h => h.1⟩
        · intro i a hi ⟨b', ha, hb'⟩
          subst ha
          left
          have fin : ∀ d : Bool, (d = true ↔ (b' = true ∧ (secV (rv (σ 172)) p i = true → s.testBit p = true ∨ s.testBit i = true))) → (d = true ↔ (b = true ∧ ∀ q, q < i + 1 → secV (rv (σ 172)) p q = true → s.testBit p = true ∨ s.testBit q = true)) := by
            intro d hd
            rw [hd, hb']
            constructor
            · intro ⟨⟨h1, h2⟩, h3⟩
              refine ⟨h1, fun q hq h4 => ?_⟩
              by_cases c : q < i
              · exact h2 q c h4
              · have : q = i := by omega
                subst this
                exact h3 h4
            · intro ⟨h1, h2⟩
              exact ⟨⟨h1, fun q hq => h2 q (by omega)⟩, h2 i (by omega)⟩
          have key : ∃ d, L_X12_allTold_15 n (nN s) (nN p) σ (bI b', nN i) = some (.inl (bI d, nN (i + 1))) ∧ (d = true ↔ (b' = true ∧ (secV (rv (σ 172)) p i = true → s.testBit p = true ∨ s.testBit i = true))) := by
            simp (disch := omega) only [L_X12_allTold_15, J_X12_allTold_52, J_X12_allTold_56, J_X12_allTold_57, le_f, le_t, lt_f, lt_t, if_false, if_true, bnd_s, ite_bI, ok_bI, ok_0, ok_1, ltM_s, nN_s, Option.map_some, inb_nN, ix_nN, it_t, it_f, true_or, or_true, e_X12_isSecret, e_X12_has]
            cases b' <;> cases secV (rv (σ 172)) p i <;> cases s.testBit p <;> cases s.testBit i <;> first | exact ⟨true, rfl, by simp⟩ | exact ⟨false, rfl, by simp⟩
          obtain ⟨d, hd1, hd2⟩ := key
          exact ⟨_, hd1, d, rfl, fin d hd2⟩
        · intro a ⟨b', ha, hb'⟩
          subst ha
          simp (disch := omega) only [L_X12_allTold_15, le_f, le_t, lt_f, lt_t, if_false, if_true, bnd_s, ite_bI, ok_bI, ok_0, ok_1, ltM_s, nN_s, Option.map_some, inb_nN, ix_nN, it_t, it_f, true_or, or_true]
          refine ⟨_, rfl, b', rfl, ?_⟩
          rw [hb', hb]
          constructor
          · intro ⟨h1, h2⟩ p' q h3 h4 h5
            by_cases c : p' < p
            · exact h1 p' q h3 c h5
            · have : p' = p := by omega
              subst this
              exact h2 q h3 h5
          · intro h
            exact ⟨fun p' q h3 h4 => h p' q h3 (by omega), fun q h3 => h p q h3 (by omega)⟩
      obtain ⟨c, hc, b', rfl, hb'⟩ := inner
      left
      simp (disch := omega) only [L_X12_allTold_4, hN, le_f, le_t, lt_f, lt_t, if_false, if_true, bnd_s, ite_bI, ok_bI, ok_0, ok_1, ltM_s, nN_s, Option.map_some, inb_nN, ix_nN, it_t, it_f, true_or, or_true, hc]
      exact ⟨_, rfl, b', rfl, hb'⟩
    · intro a ⟨b, ha, hb⟩
      subst ha
      simp (disch := omega) only [L_X12_allTold_4, hN, le_f, le_t, lt_f, lt_t, if_false, if_true, bnd_s, ite_bI, ok_bI, ok_0, ok_1, ltM_s, nN_s, Option.map_some, inb_nN, ix_nN, it_t, it_f, true_or, or_true]
      refine ⟨_, rfl, ?_⟩
      cases b
      · right
        refine ⟨rfl, fun hc => ?_⟩
        have := hb.mpr (fun p q h1 h2 h3 => hc p q h1 h2 h3)
        cases this
      · left
        exact ⟨rfl, fun p q h1 h2 h3 => hb.mp rfl p q h1 h2 h3⟩
  obtain ⟨r, hr, h | h⟩ := key
  · exact ⟨true, by rw [hr, h.1]; rfl, fun _ => h.2, fun _ => rfl⟩
  · exact ⟨false, by rw [hr, h.1]; rfl, fun hx => (by cases hx), fun hx => absurd hx h.2⟩
