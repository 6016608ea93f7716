/-! layer 2: the fewest who must be told; who is free on a day -/
theorem ev_bit {N q : Nat} : (2 ^ N - 1).testBit q = decide (q < N) := Nat.testBit_two_pow_sub_one N q
theorem cov_all (V : HV) (N : Nat) : cov V N (2 ^ N - 1) := fun p q _ h2 _ => Or.inl (by rw [ev_bit]; exact decide_eq_true h2)
theorem bc_all {N s : Nat} (hN : N ≤ 8) (hs : s < 2 ^ N) (h : bc (2 ^ N - 1) ≤ bc s) : s = 2 ^ N - 1 := by
  apply Classical.byContradiction
  intro hne
  have hp := p28 hN
  have := bc_lt (s := s) (t := 2 ^ N - 1) (fun q hq => by
    rw [ev_bit]
    apply decide_eq_true
    apply Classical.byContradiction
    intro hc
    rw [Nat.testBit_lt_two_pow (Nat.lt_of_lt_of_le hs (Nat.pow_le_pow_right (by omega) (show N ≤ q by omega)))] at hq
    cases hq) hne (by omega) (by omega)
  omega
/-- the answer: least in number, then as a number -/
def TL (V : HV) (N r : Nat) : Prop := r < 2 ^ N ∧ cov V N r ∧ ∀ s, s < 2 ^ N → cov V N s → bc r < bc s ∨ (bc r = bc s ∧ r ≤ s)
theorem TL_one {V : HV} {N r r' : Nat} (h : TL V N r) (h' : TL V N r') : r = r' := by
  have h1 := h.2.2 r' h'.1 h'.2.1
  have h2 := h'.2.2 r h.1 h.2.1
  omega
theorem e_X10_cover {σ : MS} {n N : Nat} (hn : 6000 ≤ n) (g : GH σ 3 N) : ∃ r, f_X10_cover n σ = some (nN r) ∧ TL (hv σ 3) N r := by
  have hA := e_X4_everybody g
  have h8 := g.le8
  have hk := p28 h8
  have hp2 := p2sub (N := N)
  have key : ∃ b, f_X10_cover n σ = some b ∧ ∃ r, b = nN r ∧ TL (hv σ 3) N r := by
    simp only [f_X10_cover, hA, bnd_s]
    refine itr_inv (fun i a => ∃ r, a = (nN r, nN i) ∧ r < 2 ^ N ∧ cov (hv σ 3) N r ∧ (r < i ∨ r = 2 ^ N - 1) ∧ ∀ s, s < i → cov (hv σ 3) N s → bc r < bc s ∨ (bc r = bc s ∧ r ≤ s)) _ (2 ^ N) ?_ ?_ n 0 _ (by omega) (by omega) ⟨2 ^ N - 1, rfl, by omega, cov_all _ _, Or.inr rfl, fun s h => by omega⟩
    · intro s a hs ⟨r, ha, h1, h2, h3, h4⟩
      subst ha
      left
      obtain ⟨b, hb1, hb2⟩ := e_X10_knowsAll (s := s) hn g (by omega)
      have c1 := bc_le s
      have c2 := bc_le r
      simp (disch := omega) only [L_X10_cover_10, J_X10_cover_42, hA, le_f, le_t, lt_f, lt_t, if_false, if_true, bnd_s, ite_bI, ok_bI, ok_0, ok_1, ltM_s, nN_s, Option.map_some, inb_nN, ix_nN, it_t, it_f, true_or, or_true, e_bc, hb1]
      rw [it_le (by omega) (by omega)]
      by_cases c : bc r ≤ bc s
      · rw [if_pos c]
        refine ⟨_, rfl, r, rfl, h1, h2, ?_, fun s' hs' hc => ?_⟩
        · rcases h3 with h3 | h3
          · exact Or.inl (by omega)
          · exact Or.inr h3
        · by_cases c3 : s' < s
          · exact h4 s' c3 hc
          · have : s' = s := by omega
            subst this
            by_cases c4 : bc r < bc s'
            · exact Or.inl c4
            · right
              refine ⟨by omega, ?_⟩
              rcases h3 with h3 | h3
              · omega
              · have := bc_all h8 hs (by rw [← h3]; omega)
                omega
      · rw [if_neg c]
        cases b
        · simp only [Bool.false_eq_true, if_false]
          refine ⟨_, rfl, r, rfl, h1, h2, ?_, fun s' hs' hc => ?_⟩
          · rcases h3 with h3 | h3
            · exact Or.inl (by omega)
            · exact Or.inr h3
          · by_cases c3 : s' < s
            · exact h4 s' c3 hc
            · have : s' = s := by omega
              subst this
              have := hb2.mpr hc
              cases this
        · simp only [if_true]
          refine ⟨_, rfl, s, rfl, hs, hb2.mp rfl, Or.inl (by omega), fun s' hs' hc => ?_⟩
          by_cases c3 : s' < s
          · have := h4 s' c3 hc
            omega
          · have : s' = s := by omega
            subst this
            exact Or.inr ⟨rfl, Nat.le_refl _⟩
    · intro a ⟨r, ha, h1, h2, h3, h4⟩
      subst ha
      simp (disch := omega) only [L_X10_cover_10, J_X10_cover_42, hA, le_f, le_t, lt_f, lt_t, if_false, if_true, bnd_s, ite_bI, ok_bI, ok_0, ok_1, ltM_s, nN_s, Option.map_some, inb_nN, ix_nN, it_t, it_f, true_or, or_true]
      exact ⟨_, rfl, r, rfl, h1, h2, h4⟩
  obtain ⟨b, hb, r, rfl, hr⟩ := key
  exact ⟨r, hb, hr⟩
theorem e_X12_tell {σ : MS} {n N : Nat} (hn : 6000 ≤ n) (g : GW σ N) : ∃ r, f_X12_tell n σ = some (nN r, mu σ 171 0 0) ∧ TL (rv (σ 172)) N r := by
  have h8 := g.le8
  obtain ⟨τ, hτ⟩ : ∃ τ, τ = mu σ 171 0 0 := ⟨_, rfl⟩
  have hrow : τ 172 = σ 172 := by rw [hτ]; exact thr0 σ
  have g' : GW τ N := g.row hrow
  have hA := e_X12_everybody g'
  have hk := p28 h8
  have hp2 := p2sub (N := N)
  simp only [f_X12_tell, ltM_s, ← hτ, hA, bnd_s]
  have key : ∃ b, itr (L_X12_tell_12 n τ) n (nN (2 ^ N - 1), nN (2 ^ N - 1)) = some b ∧ ∃ r, b = (nN r, τ) ∧ TL (rv (σ 172)) N r := by
    refine itr_inv (fun i a => ∃ r, a = (nN r, nN (2 ^ N - i) - 1) ∧ r < 2 ^ N ∧ cov (rv (σ 172)) N r ∧ ∀ s, 2 ^ N - i ≤ s → s < 2 ^ N → cov (rv (σ 172)) N s → bc r < bc s ∨ (bc r = bc s ∧ r ≤ s)) _ (2 ^ N) ?_ ?_ n 0 _ (by omega) (by omega) ⟨2 ^ N - 1, ?_, by omega, cov_all _ _, fun s h1 h2 => by omega⟩
    · intro i a hi ⟨r, ha, h1, h2, h4⟩
      have e : nN (2 ^ N - i) - 1 = nN (2 ^ N - (i + 1)) := by
        have : 2 ^ N - i = (2 ^ N - (i + 1)) + 1 := by omega
        rw [this, nN_sp]
      rw [e] at ha
      subst ha
      left
      obtain ⟨s, hs⟩ : ∃ s, s = 2 ^ N - (i + 1) := ⟨_, rfl⟩
      rw [← hs]
      obtain ⟨b, hb1, hb2⟩ := e_X12_allTold (s := s) hn g' (by omega)
      rw [hrow] at hb2
      have c1 := bc_le s
      have c2 := bc_le r
      have hneg : (nN s < 0) = False := nN_lt0 (by omega)
      simp (disch := omega) only [L_X12_tell_12, J_X12_tell_40, J_X12_tell_39, hneg, le_f, le_t, lt_f, lt_t, if_false, if_true, bnd_s, ite_bI, ok_bI, ok_0, ok_1, ltM_s, nN_s, Option.map_some, inb_nN, ix_nN, it_t, it_f, true_or, or_true, e_bc, hb1, nN_p1]
      rw [it_lt (by omega) (by omega)]
      by_cases c : bc r < bc s
      · rw [if_pos c]
        refine ⟨_, rfl, r, rfl, h1, h2, fun s' hs' hl hc => ?_⟩
        by_cases c3 : s' = s
        · subst c3
          exact Or.inl c
        · exact h4 s' (by omega) hl hc
      · rw [if_neg c]
        cases b
        · simp only [Bool.false_eq_true, if_false]
          refine ⟨_, rfl, r, rfl, h1, h2, fun s' hs' hl hc => ?_⟩
          by_cases c3 : s' = s
          · subst c3
            have := hb2.mpr hc
            cases this
          · exact h4 s' (by omega) hl hc
        · simp only [if_true]
          refine ⟨_, rfl, s, rfl, by omega, hb2.mp rfl, fun s' hs' hl hc => ?_⟩
          by_cases c3 : s' = s
          · subst c3
            exact Or.inr ⟨rfl, Nat.le_refl _⟩
          · have := h4 s' (by omega) hl hc
            omega
    · intro a ⟨r, ha, h1, h2, h4⟩
      rw [Nat.sub_self, nN_z1] at ha
      subst ha
      have hneg : ((-1 : Int32) < 0) = True := by decide
      simp (disch := omega) only [L_X12_tell_12, J_X12_tell_40, J_X12_tell_39, hneg, le_f, le_t, lt_f, lt_t, if_false, if_true, bnd_s, ite_bI, ok_bI, ok_0, ok_1, ltM_s, nN_s, Option.map_some, inb_nN, ix_nN, it_t, it_f, true_or, or_true]
      exact ⟨_, rfl, r, rfl, h1, h2, fun s hs hc => h4 s (by omega) hs hc⟩
    · rw [Nat.sub_zero]
      have : 2 ^ N = 2 ^ N - 1 + 1 := by omega
      rw [this, nN_sp]
      simp
  obtain ⟨b, hb, r, rfl, hr⟩ := key
  exact ⟨r, hb, hr⟩
/-! who is free on a day -/
def busy (V : HV) (N : Nat) (d : Int32) (x : Nat) : Prop := ∃ q, q < N ∧ q ≠ x ∧ onV V x q d = true
def FRE (V : HV) (N : Nat) (d : Int32) (r : Nat) : Prop := r < 256 ∧ ∀ x, r.testBit x = true ↔ (x < N ∧ ¬ busy V N d x)
theorem FRE_one {V : HV} {N r r' : Nat} {d : Int32} (h : FRE V N d r) (h' : FRE V N d r') : r = r' := by
  apply bit_ext
  intro q
  have h1 := h.2 q
  have h2 := h'.2 q
  cases c1 : r.testBit q
  · cases c2 : r'.testBit q
    · rfl
    · rw [c1] at h1
      exact absurd (h1.mpr (h2.mp c2)) (by decide)
  · cases c2 : r'.testBit q
    · rw [c2] at h2
      exact absurd (h2.mpr (h1.mp c1)) (by decide)
    · rfl
theorem e_X10_unboundOn {σ : MS} {n N : Nat} (hn : 6000 ≤ n) (g : GH σ 3 N) (d : Int32) : ∃ r, f_X10_unboundOn n d σ = some (nN r) ∧ FRE (hv σ 3) N d r := by
  have hN := g.ppl
  have hA := e_X4_everybody g
  have h8 := g.le8
  have hk := p28 h8
  have key : ∃ b, f_X10_unboundOn n d σ = some b ∧ ∃ r, b = nN r ∧ FRE (hv σ 3) N d r := by
    unfold f_X10_unboundOn
    refine itr_inv (fun i a => ∃ m, a = (nN m, nN i) ∧ m < 256 ∧ ∀ x, m.testBit x = true ↔ ∃ p q, p < q ∧ q < N ∧ p < i ∧ onV (hv σ 3) p q d = true ∧ (x = p ∨ x = q)) _ N ?_ ?_ n 0 _ (by omega) (by omega) ⟨0, rfl, by omega, fun x => ⟨fun h => by simp at h, fun ⟨p, q, _, _, h, _⟩ => by omega⟩⟩
    · intro p a hp ⟨m, ha, hm, hx⟩
      subst ha
      have inner : ∃ c, itr (L_X10_unboundOn_20 n d (nN p) σ) n (nN m, nN (p + 1)) = some c ∧ ∃ m', c = .inl (nN m', nN (p + 1)) ∧ m' < 256 ∧ ∀ x, m'.testBit x = true ↔ ∃ p' q, p' < q ∧ q < N ∧ p' < p + 1 ∧ onV (hv σ 3) p' q d = true ∧ (x = p' ∨ x = q) := by
        refine itr_inv (fun i a => ∃ m', a = (nN m', nN (p + 1 + i)) ∧ m' < 256 ∧ ∀ x, m'.testBit x = true ↔ (m.testBit x = true ∨ ∃ q, p < q ∧ q < p + 1 + i ∧ onV (hv σ 3) p q d = true ∧ (x = p ∨ x = q))) _ (N - (p + 1)) ?_ ?_ n 0 _ (by omega) (by omega) ⟨m, rfl, hm, fun x => ⟨fun h => Or.inl h, fun h => h.elim id (fun ⟨q, h1, h2, _⟩ => by omega)⟩⟩
        · intro i a hi ⟨m', ha, hm', hx'⟩
          subst ha
          left
          have hp1 : 2 ^ p < 256 := Nat.lt_of_lt_of_le (Nat.pow_lt_pow_right (by omega) hp) hk
          have hp2 : 2 ^ (p + 1 + i) < 256 := Nat.lt_of_lt_of_le (Nat.pow_lt_pow_right (by omega) (show p + 1 + i < N by omega)) hk
          simp (disch := omega) only [L_X10_unboundOn_20, J_X10_unboundOn_57, hN, le_f, le_t, lt_f, lt_t, if_false, if_true, bnd_s, ite_bI, ok_bI, ok_0, ok_1, ltM_s, nN_s, Option.map_some, inb_nN, ix_nN, it_t, it_f, true_or, or_true, e_X4_holdsOn, shl1, nN_or]
          cases hb : onV (hv σ 3) p (p + 1 + i) d
          · simp only [Bool.false_eq_true, if_false]
            refine ⟨_, rfl, m', rfl, hm', fun x => ?_⟩
            rw [hx' x]
            constructor
            · rintro (h | ⟨q, h1, h2, h3, h4⟩)
              · exact Or.inl h
              · exact Or.inr ⟨q, h1, by omega, h3, h4⟩
            · rintro (h | ⟨q, h1, h2, h3, h4⟩)
              · exact Or.inl h
              · by_cases c : q < p + 1 + i
                · exact Or.inr ⟨q, h1, c, h3, h4⟩
                · have : q = p + 1 + i := by omega
                  rw [this, hb] at h3
                  cases h3
          · simp only [if_true]
            refine ⟨_, rfl, _, rfl, or_256 hm' (or_256 hp1 hp2), fun x => ?_⟩
            rw [Nat.testBit_or, Nat.testBit_or, Nat.testBit_two_pow, Nat.testBit_two_pow, Bool.or_eq_true, Bool.or_eq_true, hx' x, decide_eq_true_eq, decide_eq_true_eq]
            constructor
            · rintro ((h | ⟨q, h1, h2, h3, h4⟩) | h | h)
              · exact Or.inl h
              · exact Or.inr ⟨q, h1, by omega, h3, h4⟩
              · exact Or.inr ⟨p + 1 + i, by omega, by omega, hb, Or.inl h.symm⟩
              · exact Or.inr ⟨p + 1 + i, by omega, by omega, hb, Or.inr h.symm⟩
            · rintro (h | ⟨q, h1, h2, h3, h4⟩)
              · exact Or.inl (Or.inl h)
              · by_cases c : q < p + 1 + i
                · exact Or.inl (Or.inr ⟨q, h1, c, h3, h4⟩)
                · have : q = p + 1 + i := by omega
                  subst this
                  rcases h4 with h4 | h4
                  · exact Or.inr (Or.inl h4.symm)
                  · exact Or.inr (Or.inr h4.symm)
        · intro a ⟨m', ha, hm', hx'⟩
          subst ha
          simp (disch := omega) only [L_X10_unboundOn_20, J_X10_unboundOn_57, hN, le_f, le_t, lt_f, lt_t, if_false, if_true, bnd_s, ite_bI, ok_bI, ok_0, ok_1, ltM_s, nN_s, Option.map_some, inb_nN, ix_nN, it_t, it_f, true_or, or_true]
          refine ⟨_, rfl, m', rfl, hm', fun x => ?_⟩
          rw [hx' x, hx x]
          constructor
          · rintro (⟨p', q, h1, h2, h3, h4⟩ | ⟨q, h1, h2, h3, h4⟩)
            · exact ⟨p', q, h1, h2, by omega, h4⟩
            · exact ⟨p, q, h1, by omega, by omega, h3, h4⟩
          · rintro ⟨p', q, h1, h2, h3, h4⟩
            by_cases c : p' < p
            · exact Or.inl ⟨p', q, h1, h2, c, h4⟩
            · have : p' = p := by omega
              subst this
              exact Or.inr ⟨q, h1, by omega, h4⟩
      obtain ⟨c, hc, m', rfl, hm', hx'⟩ := inner
      left
      simp (disch := omega) only [L_X10_unboundOn_4, hN, le_f, le_t, lt_f, lt_t, if_false, if_true, bnd_s, ite_bI, ok_bI, ok_0, ok_1, ltM_s, nN_s, Option.map_some, inb_nN, ix_nN, it_t, it_f, true_or, or_true, hc]
      exact ⟨_, rfl, m', rfl, hm', hx'⟩
    · intro a ⟨m, ha, hm, hx⟩
      subst ha
      have hall := all_lt h8
      simp (disch := omega) only [L_X10_unboundOn_4, hN, le_f, le_t, lt_f, lt_t, if_false, if_true, bnd_s, ite_bI, ok_bI, ok_0, ok_1, ltM_s, nN_s, Option.map_some, inb_nN, ix_nN, it_t, it_f, true_or, or_true, hA, nN_diff]
      refine ⟨_, rfl, _, rfl, and_256 hall, fun x => ?_⟩
      rw [Nat.testBit_and, ev_bit, Bool.and_eq_true, decide_eq_true_eq, Nat.testBit_xor]
      constructor
      · rintro ⟨h1, h2⟩
        refine ⟨h1, fun ⟨q, h3, h4, h5⟩ => ?_⟩
        have hmx : m.testBit x = true := by
          rw [hx x]
          by_cases c : x < q
          · exact ⟨x, q, c, h3, h1, h5, Or.inl rfl⟩
          · exact ⟨q, x, by omega, h1, h3, by rw [on_sym g (by omega) (by omega)]; exact h5, Or.inr rfl⟩
        have h255 : (255 : Nat).testBit x = true := by
          have H : ∀ i, i < 8 → (255 : Nat).testBit i = true := by decide +kernel
          exact H x (by omega)
        rw [hmx, h255] at h2
        cases h2
      · rintro ⟨h1, h2⟩
        refine ⟨h1, ?_⟩
        have h255 : (255 : Nat).testBit x = true := by
          have H : ∀ i, i < 8 → (255 : Nat).testBit i = true := by decide +kernel
          exact H x (by omega)
        have hmx : m.testBit x = false := by
          cases hb : m.testBit x
          · rfl
          · exfalso
            apply h2
            obtain ⟨p, q, c1, c2, c3, c4, c5⟩ := (hx x).mp hb
            rcases c5 with rfl | rfl
            · exact ⟨q, c2, by omega, c4⟩
            · exact ⟨p, by omega, by omega, by rw [on_sym g (by omega) (by omega)]; exact c4⟩
        rw [hmx, h255]
        rfl
  obtain ⟨b, hb, r, rfl, hr⟩ := key
  exact ⟨r, hb, hr⟩
theorem e_X12_free {σ : MS} {n N : Nat} (hn : 6000 ≤ n) (g : GW σ N) (d : Int32) : (decide ((0 : Int32) ≤ d ∧ d ≤ 9999) = true → ∃ r, f_X12_free n d σ = some (nN r, mu σ 171 0 0) ∧ FRE (rv (σ 172)) N d r) ∧ (decide ((0 : Int32) ≤ d ∧ d ≤ 9999) = false → f_X12_free n d σ = some (0, mu (mu σ 171 0 0) 171 0 1)) := by
  have h8 := g.le8
  have hk := p28 h8
  obtain ⟨τ, hτ⟩ : ∃ τ, τ = mu σ 171 0 0 := ⟨_, rfl⟩
  have hrow : τ 172 = σ 172 := by rw [hτ]; exact thr0 σ
  have g' : GW τ N := g.row hrow
  have hN := e_X12_people g'
  have hA := e_X12_everybody g'
  have t1 : f_X12_throwsIf 1 1 τ = some (1, mu τ 171 0 1) := e_X12_throwsIf (σ := τ) true 1
  have t0 : f_X12_throwsIf 0 1 τ = some (0, τ) := e_X12_throwsIf (σ := τ) false 1
  constructor
  · intro hd
    simp only [f_X12_free, J_X12_free_22, ltM_s, ← hτ, e_X12_in, hd, bnd_s, ite_bI, it_t, t0, if_true, hA]
    have key : ∃ b, itr (L_X12_free_38 n d τ) n (nN (2 ^ N - 1), 0) = some b ∧ ∃ r, b = (nN r, τ) ∧ FRE (rv (σ 172)) N d r := by
      refine itr_inv (fun i a => ∃ m, a = (nN m, nN i) ∧ m < 256 ∧ ∀ x, m.testBit x = true ↔ (x < N ∧ ¬ (x < i ∧ busy (rv (σ 172)) N d x))) _ N ?_ ?_ n 0 _ (by omega) (by omega) ⟨2 ^ N - 1, rfl, all_lt h8, fun x => by rw [ev_bit, decide_eq_true_eq]; exact ⟨fun h => ⟨h, fun hh => by omega⟩, fun h => h.1⟩⟩
      · intro p a hp ⟨m, ha, hm, hx⟩
        subst ha
        have inner : ∃ c, itr (L_X12_free_49 n d (nN p) τ) n (nN m, 0) = some c ∧ ∃ m', c = .inl (nN m', nN (p + 1)) ∧ m' < 256 ∧ ∀ x, m'.testBit x = true ↔ (x < N ∧ ¬ (x < p + 1 ∧ busy (rv (σ 172)) N d x)) := by
          refine itr_inv (fun i a => ∃ m', a = (nN m', nN i) ∧ m' < 256 ∧ ∀ x, m'.testBit x = true ↔ (m.testBit x = true ∧ ¬ (x = p ∧ ∃ q, q < i ∧ q ≠ p ∧ onV (rv (σ 172)) p q d = true))) _ N ?_ ?_ n 0 _ (by omega) (by omega) ⟨m, rfl, hm, fun x => ⟨fun h => ⟨h, fun ⟨_, q, h1, _⟩ => by omega⟩, fun h => h.1⟩⟩
          · intro i a hi ⟨m', ha, hm', hx'⟩
            subst ha
            left
            obtain ⟨h5, h6, h7⟩ := w_pair (σ := σ) (p := p) (q := i) (by omega) (by omega)
            have hsame : (∀ x, m'.testBit x = true ↔ (m.testBit x = true ∧ ¬ (x = p ∧ ∃ q, q < i + 1 ∧ q ≠ p ∧ onV (rv (σ 172)) p q d = true))) ∨ (i ≠ p ∧ onV (rv (σ 172)) p i d = true) := by
              by_cases c : i ≠ p ∧ onV (rv (σ 172)) p i d = true
              · exact Or.inr c
              · left
                intro x
                rw [hx' x]
                constructor
                · rintro ⟨h1, h2⟩
                  refine ⟨h1, fun ⟨h3, q, h4, k5, k6⟩ => ?_⟩
                  by_cases c2 : q < i
                  · exact h2 ⟨h3, q, c2, k5, k6⟩
                  · have : q = i := by omega
                    rw [this] at k5 k6
                    exact c ⟨k5, k6⟩
                · rintro ⟨h1, h2⟩
                  exact ⟨h1, fun ⟨h3, q, h4, h5⟩ => h2 ⟨h3, q, by omega, h5⟩⟩
            by_cases c : p = i
            · subst c
              simp (disch := omega) only [L_X12_free_49, J_X12_free_108, hN, le_f, le_t, lt_f, lt_t, if_false, if_true, bnd_s, ite_bI, ok_bI, ok_0, ok_1, ltM_s, nN_s, Option.map_some, inb_nN, ix_nN, it_t, it_f, true_or, or_true]
              rcases hsame with h | h
              · exact ⟨_, rfl, m', rfl, hm', h⟩
              · exact absurd rfl h.1
            · have c' : (nN p = nN i) = False := by rw [nN_eq (by omega) (by omega)]; simp [c]
              simp (disch := omega) only [L_X12_free_49, J_X12_free_108, f_X12_both, hN, le_f, le_t, lt_f, lt_t, if_false, if_true, bnd_s, ite_bI, ok_bI, ok_0, ok_1, ltM_s, nN_s, Option.map_some, inb_nN, ix_nN, it_t, it_f, true_or, or_true, c', i8', a106, a170, hrow]
              unfold onV at hsame
              rw [h6, h7] at hsame
              by_cases d1 : σ 172 (106 + (8 * p + i)) ≤ 0
              · rw [if_pos d1]
                rcases hsame with h | h
                · exact ⟨_, rfl, m', rfl, hm', by unfold onV; exact h⟩
                · have : ¬ (0 : Int32) < σ 172 (106 + (8 * p + i)) := by rw [Int32.not_lt]; exact d1
                  simp [this] at h
              · rw [if_neg d1]
                by_cases d2 : σ 172 (170 + (8 * p + i)) ≤ d
                · rw [if_pos d2]
                  rcases hsame with h | h
                  · exact ⟨_, rfl, m', rfl, hm', by unfold onV; exact h⟩
                  · have : ¬ d < σ 172 (170 + (8 * p + i)) := by rw [Int32.not_lt]; exact d2
                    simp [this] at h
                · rw [if_neg d2, shl1 (by omega), nN_diff hm' (Nat.lt_of_lt_of_le (Nat.pow_lt_pow_right (by omega) hp) hk)]
                  have e1 : (0 : Int32) < σ 172 (106 + (8 * p + i)) := by rw [← Int32.not_le]; exact d1
                  have e2 : d < σ 172 (170 + (8 * p + i)) := by rw [← Int32.not_le]; exact d2
                  have on : onV (rv (σ 172)) p i d = true := by
                    unfold onV
                    rw [h6, h7]
                    simp [e1, e2]
                  refine ⟨_, rfl, _, rfl, and_256 hm', fun x => ?_⟩
                  rw [Nat.testBit_and, Nat.testBit_xor, Nat.testBit_two_pow, Bool.and_eq_true, hx' x]
                  constructor
                  · rintro ⟨⟨h1, h2⟩, h3⟩
                    refine ⟨h1, fun ⟨h4, _⟩ => ?_⟩
                    subst h4
                    have h255 : (255 : Nat).testBit x = true := by
                      have H : ∀ i, i < 8 → (255 : Nat).testBit i = true := by decide +kernel
                      exact H x (by omega)
                    rw [h255] at h3
                    simp at h3
                  · rintro ⟨h1, h2⟩
                    have hxp : x ≠ p := fun h => h2 ⟨h, i, by omega, fun hh => c hh.symm, on⟩
                    have hx8 : x < 8 := by
                      apply Classical.byContradiction
                      intro hc
                      rw [bit_hi hm (by omega)] at h1
                      cases h1
                    have h255 : (255 : Nat).testBit x = true := by
                      have H : ∀ i, i < 8 → (255 : Nat).testBit i = true := by decide +kernel
                      exact H x hx8
                    refine ⟨⟨h1, fun ⟨h3, _⟩ => hxp h3⟩, ?_⟩
                    rw [h255]
                    have : decide (p = x) = false := decide_eq_false (fun h => hxp h.symm)
                    rw [this]
                    rfl
          · intro a ⟨m', ha, hm', hx'⟩
            subst ha
            simp (disch := omega) only [L_X12_free_49, J_X12_free_108, hN, le_f, le_t, lt_f, lt_t, if_false, if_true, bnd_s, ite_bI, ok_bI, ok_0, ok_1, ltM_s, nN_s, Option.map_some, inb_nN, ix_nN, it_t, it_f, true_or, or_true]
            refine ⟨_, rfl, m', rfl, hm', fun x => ?_⟩
            rw [hx' x, hx x]
            constructor
            · rintro ⟨⟨h1, h2⟩, h3⟩
              refine ⟨h1, fun ⟨h4, h5⟩ => ?_⟩
              by_cases c : x = p
              · exact h3 ⟨c, by rw [← c]; exact h5⟩
              · exact h2 ⟨by omega, h5⟩
            · rintro ⟨h1, h2⟩
              refine ⟨⟨h1, fun ⟨h3, h4⟩ => h2 ⟨by omega, h4⟩⟩, fun ⟨h3, h4⟩ => ?_⟩
              subst h3
              exact h2 ⟨by omega, h4⟩
        obtain ⟨c, hc, m', rfl, hm', hx'⟩ := inner
        left
        simp (disch := omega) only [L_X12_free_38, hN, le_f, le_t, lt_f, lt_t, if_false, if_true, bnd_s, ite_bI, ok_bI, ok_0, ok_1, ltM_s, nN_s, Option.map_some, inb_nN, ix_nN, it_t, it_f, true_or, or_true, hc]
        exact ⟨_, rfl, m', rfl, hm', hx'⟩
      · intro a ⟨m, ha, hm, hx⟩
        subst ha
        simp (disch := omega) only [L_X12_free_38, hN, le_f, le_t, lt_f, lt_t, if_false, if_true, bnd_s, ite_bI, ok_bI, ok_0, ok_1, ltM_s, nN_s, Option.map_some, inb_nN, ix_nN, it_t, it_f, true_or, or_true]
        refine ⟨_, rfl, m, rfl, hm, fun x => ?_⟩
        rw [hx x]
        constructor
        · rintro ⟨h1, h2⟩
          exact ⟨h1, fun h3 => h2 ⟨h1, h3⟩⟩
        · rintro ⟨h1, h2⟩
          exact ⟨h1, fun h3 => h2 h3.2⟩
    obtain ⟨b, hb, r, rfl, hr⟩ := key
    exact ⟨r, hb, hr⟩
  · intro hd
    have z1 : ((1 : Int32) = 0) = False := by decide
    simp only [f_X12_free, J_X12_free_22, ltM_s, ← hτ, e_X12_in, hd, bnd_s, ite_bI, it_f, t1, z1, if_false, Bool.false_eq_true]
