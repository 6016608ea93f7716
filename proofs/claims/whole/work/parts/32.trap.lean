/-! layer 2: where to meet unseen, and where flour catches the most -/
theorem room_of {V : HV} {N p : Nat} (g : GV V N) (hp : p < 8) : ∃ r, V 1 p = nN r ∧ r < 6 := by
  obtain ⟨-, -, -, -, -, -, h, -⟩ := g
  exact h p hp
theorem flour_of {V : HV} {N : Nat} (g : GV V N) : ∃ t, V 0 2 = nN t ∧ t < 64 := by
  obtain ⟨-, -, h, -⟩ := g
  exact h
def flN (V : HV) : Nat := ix (V 0 2)
def roN (V : HV) (p : Nat) : Nat := ix (V 1 p)
theorem flN_is {V : HV} {N : Nat} (g : GV V N) : V 0 2 = nN (flN V) ∧ flN V < 64 := by
  obtain ⟨t, h1, h2⟩ := flour_of g
  unfold flN
  rw [h1, ix_nN (by omega)]
  exact ⟨rfl, h2⟩
theorem roN_is {V : HV} {N p : Nat} (g : GV V N) (hp : p < 8) : V 1 p = nN (roN V p) ∧ roN V p < 6 := by
  obtain ⟨t, h1, h2⟩ := room_of g hp
  unfold roN
  rw [h1, ix_nN (by omega)]
  exact ⟨rfl, h2⟩
theorem e_X12_unseen {σ : MS} {n N : Nat} (hn : 6000 ≤ n) (g : GW σ N) (x y : Int32) :
    f_X12_unseen n x y σ = some (if (isP N x && isP N y) = true then (if x = y then (0, mu (mu σ 171 0 0) 171 0 2) else (meetV (flN (rv (σ 172))) (roN (rv (σ 172)) (ix x)) (roN (rv (σ 172)) (ix y)), mu σ 171 0 0)) else (0, mu (mu σ 171 0 0) 171 0 1)) := by
  have h8 := g.le8
  obtain ⟨τ, hτ⟩ : ∃ τ, τ = mu σ 171 0 0 := ⟨_, rfl⟩
  have hrow : τ 172 = σ 172 := by rw [hτ]; exact thr0 σ
  have g' : GW τ N := g.row hrow
  simp only [f_X12_unseen, J_X12_unseen_30, J_X12_unseen_37, ltM_s, ← hτ, e_X12_noBoth g', bnd_s, e_X12_throwsIf, ite_bI]
  by_cases hxy : (isP N x && isP N y) = true
  · rw [hxy]
    simp only [Bool.not_true, it_f, it_t]
    rw [Bool.and_eq_true] at hxy
    obtain ⟨p, hp, rfl⟩ := isP_t hxy.1
    obtain ⟨o, ho, rfl⟩ := isP_t hxy.2
    have t1 : f_X12_throwsIf 1 2 τ = some (1, mu τ 171 0 2) := e_X12_throwsIf (σ := τ) true 2
    have t0 : f_X12_throwsIf 0 2 τ = some (0, τ) := e_X12_throwsIf (σ := τ) false 2
    simp (disch := omega) only [nN_eq]
    by_cases c : p = o
    · subst c
      simp only [if_true, t1, bnd_s]
      rfl
    · simp only [c, if_false, t0, bnd_s, if_true]
      rw [ix_nN (by omega), ix_nN (by omega), l1e6]
      obtain ⟨hf, hf64⟩ := flN_is g
      obtain ⟨ha, ha6⟩ := roN_is g (show p < 8 by omega)
      obtain ⟨hb, hb6⟩ := roN_is g (show o < 8 by omega)
      have hf' : τ 172 4 = nN (flN (rv (σ 172))) := by rw [hrow]; exact hf
      have ha' : rv (τ 172) 1 p = nN (roN (rv (σ 172)) p) := by rw [hrow]; exact ha
      have hb' : rv (τ 172) 1 o = nN (roN (rv (σ 172)) o) := by rw [hrow]; exact hb
      have hfl : ∀ r, r < 6 → f_X12_hasFlour (nN r) τ = some (bI ((flN (rv (σ 172))).testBit r)) := by
        intro r hr
        rw [e_X12_hasFlour g' (show r < 8 by omega)]
        unfold flourV flN
        rw [hrow]
      unfold meetV
      refine itr_0P (fun (x : Option Nat × Int32) i => (x.2, nN (x.1.getD 1000000), i)) 6 (meetG (flN (rv (σ 172))) (roN (rv (σ 172)) p) (roN (rv (σ 172)) o)) (fun x => (x.2, τ)) (fun _ x => x.1.getD 0 ≤ 10) (by omega) (none, -1) (by decide) ?_ ?_
      · intro r x hr hx
        refine ⟨?_, meet_le hf64 ha6 hb6 hr hx⟩
        obtain ⟨x1, x2⟩ := x
        have h1 := wayV_le hf64 ha6 hr
        have h2 := wayV_le hf64 hb6 hr
        simp (disch := omega) only [L_X12_unseen_49, J_X12_unseen_99, l6, le_f, le_t, lt_f, lt_t, if_false, if_true, bnd_s, ite_bI, ok_bI, ok_0, ok_1, ltM_s, nN_s, Option.map_some, inb_nN, ix_nN, it_t, it_f, true_or, or_true, e_X12_wayOf hn hf' hf64 (show p < 8 by omega) ha6 hr ha', e_X12_wayOf hn hf' hf64 (show o < 8 by omega) hb6 hr hb', hfl]
        unfold meetG
        have hx' : x1.getD 0 ≤ 10 := hx
        have hx6 : x1.getD 1000000 ≤ 1000000 := by
          cases x1 with
          | none => exact Nat.le_refl _
          | some l => have : l ≤ 10 := hx'
                      simp only [Option.getD_some]; omega
        revert h1 h2
        cases (flN (rv (σ 172))).testBit r
        · simp only [Bool.false_eq_true, if_false]
          cases wayV (flN (rv (σ 172))) (roN (rv (σ 172)) p) r with
          | none =>
            cases wayV (flN (rv (σ 172))) (roN (rv (σ 172)) o) r with
            | none =>
              intro _ _
              simp only [e2_n, e2_s]
              rw [nN_add, it_lt (by omega) (by omega), if_neg (by omega)]
            | some v =>
              intro _ h2
              have h2' : v ≤ 5 := h2
              simp only [e2_n, e2_s]
              rw [nN_add, it_lt (by omega) (by omega), if_neg (by omega)]
          | some u =>
            cases wayV (flN (rv (σ 172))) (roN (rv (σ 172)) o) r with
            | none =>
              intro h1 _
              have h1' : u ≤ 5 := h1
              simp only [e2_n, e2_s]
              rw [nN_add, it_lt (by omega) (by omega), if_neg (by omega)]
            | some v =>
              intro h1 h2
              have h1' : u ≤ 5 := h1
              have h2' : v ≤ 5 := h2
              simp only [e2_s]
              rw [nN_add]
              cases x1 with
              | none =>
                simp only [Option.getD_none, Option.all_none, if_true, Option.getD_some]
                rw [it_lt (by omega) (by omega), if_pos (by omega)]
              | some l =>
                have hl : l ≤ 10 := hx'
                simp only [Option.getD_some, Option.all_some, decide_eq_true_eq]
                rw [it_lt (by omega) (by omega)]
                by_cases c : u + v < l
                · rw [if_pos c, if_pos c]
                  rfl
                · rw [if_neg c, if_neg c]
                  rfl
        · intro _ _
          simp only [if_true]
      · intro x _
        simp (disch := omega) only [L_X12_unseen_49, l6, le_f, le_t, lt_f, lt_t, if_false, if_true, bnd_s, ite_bI, ok_bI, ok_0, ok_1, ltM_s, nN_s, Option.map_some, inb_nN, ix_nN, it_t, it_f, true_or, or_true]
  · have hf : (isP N x && isP N y) = false := by
      cases h : (isP N x && isP N y)
      · rfl
      · exact absurd h hxy
    rw [hf]
    simp only [Bool.not_false, it_t, it_f, if_true, if_false, Bool.false_eq_true]
/-! traps -/
def trB (V : HV) (s p q : Nat) : Bool := secV V p q && decide (V 1 p = V 1 q) && s.testBit (roN V p)
theorem tr_sym {V : HV} {N s p q : Nat} (g : GV V N) (hp : p < N) (hq : q < N) : trB V s p q = trB V s q p := by
  unfold trB roN
  rw [sec_sym g hp hq]
  by_cases c : V 1 p = V 1 q
  · rw [c]
  · have c' : ¬ V 1 q = V 1 p := fun h => c h.symm
    simp [c, c']
def trN (V : HV) (N s : Nat) : Nat := cD N (trB V s)
theorem cD_le (b : Nat → Nat → Bool) : ∀ N, cD N b ≤ N * N := by
  intro N
  induction N with
  | zero => exact Nat.le_refl _
  | succ k ih =>
    rw [cD_s]
    have := sm_le (f := fun q => (b k q).toNat) (c := 1) (N := k) (fun i _ => by cases b k i <;> decide)
    have e : (k + 1) * (k + 1) = k * k + k + (k + 1) := by rw [Nat.succ_mul, Nat.mul_succ]
    omega
theorem trN_le (V : HV) {N : Nat} (s : Nat) (h8 : N ≤ 8) : trN V N s ≤ 64 := by
  have h1 := cD_le (trB V s) N
  have h2 : N * N ≤ 8 * 8 := Nat.mul_le_mul h8 h8
  unfold trN
  omega
theorem e_X3_caught {σ : MS} {n N s : Nat} (hn : 6000 ≤ n) (g : GH σ 3 N) (hs : s < 256) : f_X3_caught n (nN s) σ = some (nN (trN (hv σ 3) N s)) := by
  have hN := g.ppl
  have h8 := g.le8
  unfold trN
  rw [← cU_cD (trB (hv σ 3) s) (fun p q hp hq => tr_sym g hp hq)]
  unfold f_X3_caught pU
  refine itr_0 (fun (a : Nat) i => (nN a, i)) N (fun p a => fR (N - (p + 1)) (fun i a => a + (trB (hv σ 3) s p (p + 1 + i)).toNat) a) (fun a => nN a) (by omega) 0 ?_ ?_
  · intro p a hp
    simp (disch := omega) only [L_X3_caught_4, hN, le_f, le_t, lt_f, lt_t, if_false, if_true, bnd_s, ite_bI, ok_bI, ok_0, ok_1, ltM_s, nN_s, Option.map_some, inb_nN, ix_nN, it_t, it_f, true_or, or_true]
    refine itr_up (fun (a : Nat) i => (nN a, i)) (p + 1) (N - (p + 1)) (fun i a => a + (trB (hv σ 3) s p (p + 1 + i)).toNat) (fun a => Sum.inl (nN a, nN (p + 1))) (by omega) a ?_ ?_
    · intro i a hi
      obtain ⟨ha, ha6⟩ := roN_is g (show p < 8 by omega)
      have r1 : σ 4 p = hv σ 3 1 p := (h_one (σ := σ) (h := 3) (show p < 8 by omega)).1.symm
      have r2 : σ 4 (p + 1 + i) = hv σ 3 1 (p + 1 + i) := (h_one (σ := σ) (h := 3) (show p + 1 + i < 8 by omega)).1.symm
      simp (disch := omega) only [L_X3_caught_20, J_X3_caught_83, hN, le_f, le_t, lt_f, lt_t, if_false, if_true, bnd_s, ite_bI, ok_bI, ok_0, ok_1, ltM_s, nN_s, Option.map_some, inb_nN, ix_nN, it_t, it_f, true_or, or_true, e_X4_isSecret, r1, r2]
      unfold trB
      by_cases c : hv σ 3 1 p = hv σ 3 1 (p + 1 + i)
      · rw [if_pos c, ha, it_bit (by omega) (by omega), ← ha]
        simp only [c, decide_true, Bool.and_true]
        cases s.testBit (roN (hv σ 3) p) <;> cases secV (hv σ 3) p (p + 1 + i) <;> rfl
      · rw [if_neg c]
        simp [c]
    · intro a
      simp (disch := omega) only [L_X3_caught_20, J_X3_caught_83, hN, le_f, le_t, lt_f, lt_t, if_false, if_true, bnd_s, ite_bI, ok_bI, ok_0, ok_1, ltM_s, nN_s, Option.map_some, inb_nN, ix_nN, it_t, it_f, true_or, or_true]
  · intro a
    simp (disch := omega) only [L_X3_caught_4, hN, le_f, le_t, lt_f, lt_t, if_false, if_true, bnd_s, ite_bI, ok_bI, ok_0, ok_1, ltM_s, nN_s, Option.map_some, inb_nN, ix_nN, it_t, it_f, true_or, or_true]
theorem e_X12_trappedIn {σ : MS} {n N s : Nat} (hn : 6000 ≤ n) (g : GW σ N) (hs : s < 256) : f_X12_trappedIn n (nN s) σ = some (nN (trN (rv (σ 172)) N s)) := by
  have hN := e_X12_people g
  have h8 := g.le8
  have z : (0 : Int32) = nN 0 := rfl
  unfold f_X12_trappedIn trN cD pD
  refine itr_0 (fun (a : Nat) i => (nN a, i)) N (fun p a => fR p (fun q a => a + (trB (rv (σ 172)) s p q).toNat) a) (fun a => nN a) (by omega) 0 ?_ ?_
  · intro p a hp
    simp (disch := omega) only [L_X12_trappedIn_4, hN, le_f, le_t, lt_f, lt_t, if_false, if_true, bnd_s, ite_bI, ok_bI, ok_0, ok_1, ltM_s, nN_s, Option.map_some, inb_nN, ix_nN, it_t, it_f, true_or, or_true]
    refine itr_0 (fun (a : Nat) i => (nN a, i)) p (fun q a => a + (trB (rv (σ 172)) s p q).toNat) (fun a => Sum.inl (nN a, nN (p + 1))) (by omega) a ?_ ?_
    · intro i a hi
      obtain ⟨ha, ha6⟩ := roN_is g (show p < 8 by omega)
      have hh := e_X12_has (σ := σ) (s := s) (k := roN (rv (σ 172)) p) hs (by omega)
      rw [← ha] at hh
      simp (disch := omega) only [L_X12_trappedIn_15, J_X12_trappedIn_65, J_X12_trappedIn_66, le_f, le_t, lt_f, lt_t, if_false, if_true, bnd_s, ite_bI, ok_bI, ok_0, ok_1, ltM_s, nN_s, Option.map_some, inb_nN, ix_nN, it_t, it_f, true_or, or_true, e_X12_isSecret, e_X12_of0, hh]
      unfold trB
      cases secV (rv (σ 172)) p i
      · simp only [Bool.false_eq_true, if_false, Bool.false_and, z, nN_add]
        rfl
      · simp only [if_true, Bool.true_and]
        by_cases c : rv (σ 172) 1 p = rv (σ 172) 1 i
        · rw [if_pos c]
          simp only [c, decide_true, Bool.true_and]
          cases s.testBit (roN (rv (σ 172)) p)
          · simp only [Bool.false_eq_true, if_false, z, nN_add]
            rfl
          · rfl
        · rw [if_neg c]
          simp only [c, decide_false, Bool.false_and, z, nN_add]
          rfl
    · intro a
      simp (disch := omega) only [L_X12_trappedIn_15, le_f, le_t, lt_f, lt_t, if_false, if_true, bnd_s, ite_bI, ok_bI, ok_0, ok_1, ltM_s, nN_s, Option.map_some, inb_nN, ix_nN, it_t, it_f, true_or, or_true]
  · intro a
    simp (disch := omega) only [L_X12_trappedIn_4, hN, le_f, le_t, lt_f, lt_t, if_false, if_true, bnd_s, ite_bI, ok_bI, ok_0, ok_1, ltM_s, nN_s, Option.map_some, inb_nN, ix_nN, it_t, it_f, true_or, or_true]
def trapG (V : HV) (N k s : Nat) (a : Option Nat) : Option Nat := if bc s = k then (match a with
  | none => some s
  | some b => if trN V N b < trN V N s then some s else a) else a
def trapV (V : HV) (N k : Nat) : Option Nat := fR 64 (trapG V N k) none
def tLt (a : Option Nat) : Prop := a.getD 0 < 64
theorem trapG_lt {V : HV} {N k s : Nat} {a : Option Nat} (hs : s < 64) (ha : a.getD 0 < 64) : (trapG V N k s a).getD 0 < 64 := by
  unfold trapG
  split
  · cases a with
    | none => exact hs
    | some b =>
      simp only
      split
      · exact hs
      · exact ha
  · exact ha
theorem e_X3_catching {σ : MS} {n N k : Nat} (hn : 6000 ≤ n) (g : GH σ 3 N) (hk : k < 100) : f_X3_catching n (nN k) σ = some (e1 (trapV (hv σ 3) N k)) := by
  have h8 := g.le8
  unfold f_X3_catching trapV
  refine itr_0P (fun (a : Option Nat) i => (e1 a, e1 (a.map (trN (hv σ 3) N)), i)) 64 (trapG (hv σ 3) N k) (fun a => e1 a) (fun _ a => a.getD 0 < 64) (by omega) none (by decide) ?_ ?_
  · intro s a hs ha
    refine ⟨?_, trapG_lt hs ha⟩
    have hb := bc_le s
    have ht := trN_le (hv σ 3) s h8
    simp (disch := omega) only [L_X3_catching_7, J_X3_catching_43, l64, le_f, le_t, lt_f, lt_t, if_false, if_true, bnd_s, ite_bI, ok_bI, ok_0, ok_1, ltM_s, nN_s, Option.map_some, inb_nN, ix_nN, it_t, it_f, true_or, or_true, e_bc, e_X3_caught hn g]
    simp (disch := omega) only [nN_eq]
    unfold trapG
    by_cases c : bc s = k
    · rw [if_pos c, if_pos c]
      cases a with
      | none =>
        simp only [Option.map_none, e1_n]
        simp (disch := omega) only [nN_lem1, if_false]
        rfl
      | some b =>
        have ht2 := trN_le (hv σ 3) b h8
        simp only [Option.map_some, e1_s]
        rw [it_le (by omega) (by omega)]
        by_cases d : trN (hv σ 3) N b < trN (hv σ 3) N s
        · rw [if_neg (by omega), if_pos d]
          rfl
        · rw [if_pos (by omega), if_neg d]
          rfl
    · rw [if_neg c, if_neg c]
  · intro a _
    simp (disch := omega) only [L_X3_catching_7, J_X3_catching_43, l64, le_f, le_t, lt_f, lt_t, if_false, if_true, bnd_s, ite_bI, ok_bI, ok_0, ok_1, ltM_s, nN_s, Option.map_some, inb_nN, ix_nN, it_t, it_f, true_or, or_true]
theorem trap_some {V : HV} {N k : Nat} (hk : 1 ≤ k) (hk6 : k ≤ 6) : ∃ s, trapV V N k = some s ∧ s < 64 := by
  have H : ∀ k, 1 ≤ k → k ≤ 6 → bc (2 ^ k - 1) = k ∧ 2 ^ k - 1 < 64 := by
    intro k h1 h2
    have : k = 1 ∨ k = 2 ∨ k = 3 ∨ k = 4 ∨ k = 5 ∨ k = 6 := by omega
    rcases this with h | h | h | h | h | h <;> subst h <;> decide
  obtain ⟨h1, h2⟩ := H k hk hk6
  have K : ∀ M, M ≤ 64 → (2 ^ k - 1 < M → fR M (trapG V N k) none ≠ none) ∧ (fR M (trapG V N k) none).getD 0 < 64 := by
    intro M
    induction M with
    | zero => intro _; exact ⟨fun h => by omega, show 0 < 64 by omega⟩
    | succ m ih =>
      intro hm
      obtain ⟨i1, i2⟩ := ih (by omega)
      rw [fR_s]
      refine ⟨fun h => ?_, trapG_lt (by omega) i2⟩
      revert i1
      generalize fR m (trapG V N k) none = x
      intro i1
      unfold trapG
      by_cases c : bc m = k
      · rw [if_pos c]
        cases x with
        | none => simp
        | some b =>
          simp only
          split <;> simp
      · rw [if_neg c]
        apply i1
        have : m ≠ 2 ^ k - 1 := fun hh => c (by rw [hh]; exact h1)
        omega
  obtain ⟨k1, k2⟩ := K 64 (Nat.le_refl _)
  have k3 := k1 (by omega)
  cases hf : trapV V N k with
  | none => exact absurd hf k3
  | some s =>
    refine ⟨s, rfl, ?_⟩
    have : fR 64 (trapG V N k) none = some s := hf
    rw [this] at k2
    exact k2
