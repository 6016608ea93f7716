/-! layer 2: who drank -/
theorem s_gen {j : Nat} (A : Option (Int32 × MS)) (M : MS → Option (Int32 × MS)) {k b : Int32} {t υ : MS} (h1 : A = some (k, t)) (h2 : M t = some (b, υ)) (h3 : υ 171 0 = k) (h4 : k = 0 → υ 183 0 = b) (h5 : Inv (j + 1) υ) : ∃ τ, (A.bind (fun q => (M q.2).bind (fun m => cmpL q.1 m))) = some τ ∧ Inv (j + 1) τ := by
  rw [h1]
  simp only [bnd_s, h2]
  exact ⟨υ, cmp_ok h3 h4, h5⟩
/-- the tape, as both hold it -/
def TP (σ : MS) (L : Nat) (T : Nat → Nat) : Prop := L ≤ 400 ∧ σ 1 1 = nN L ∧ ∀ i, i < L → T i < 256 ∧ σ 2 i = nN (T i) ∧ σ 177 i = sb (T i)
theorem Inv_T {j : Nat} {σ : MS} (h : Inv j σ) : ∃ L T, TP σ L T ∧ σ 171 9 = nN L := by
  obtain ⟨-, -, -, -, ⟨L, m1, m2, m3, m4⟩, -⟩ := h
  refine ⟨L, fun i => ix (σ 2 i), ⟨m1, m2, fun i hi => ?_⟩, m3⟩
  obtain ⟨b, b1, b2, b3⟩ := m4 i hi
  show ix (σ 2 i) < 256 ∧ σ 2 i = nN (ix (σ 2 i)) ∧ σ 177 i = sb (ix (σ 2 i))
  rw [b2, ix_nN (by omega)]
  exact ⟨b1, rfl, b3⟩
theorem sb_p {N b : Nat} (hN : N ≤ 8) (hb : b < 256) : isP N (sb b) = decide (b < N) := by
  have H : ∀ N, N < 9 → ∀ b, b < 256 → isP N (sb b) = decide (b < N) := by decide +kernel
  exact H N (by omega) b hb
theorem sb_8 {b : Nat} (hb : b < 128) : sb b = nN b := by
  have H : ∀ b, b < 128 → sb b = nN b := by decide +kernel
  exact H b hb
theorem sb_255 {b : Nat} (hb : b < 256) : sb b &&& 255 = nN b := by
  have H : ∀ b, b < 256 → sb b &&& 255 = nN b := by decide +kernel
  exact H b hb
theorem isP_b {N b : Nat} (hN : N ≤ 8) (hb : b < 256) : isP N (nN b) = decide (b < N) := by
  unfold isP
  rw [nN_toInt (by omega)]
  apply decide_eq_decide.mpr
  omega
def toldP (N L : Nat) (T : Nat → Nat) : Prop := L ≤ 36 ∧ L % 3 = 0 ∧ ∀ r, r < L / 3 → T (3 * r) ≤ T (3 * r + 1) ∧ T (3 * r + 1) < N
theorem e_isTold {σ : MS} {n N L : Nat} {T : Nat → Nat} (hn : 6000 ≤ n) (g : GH σ 3 N) (ht : TP σ L T) : ∃ b, f_X2_isTold n σ = some (bI b) ∧ (b = true ↔ toldP N L T) := by
  obtain ⟨t1, t2, t3⟩ := ht
  have h8 := g.le8
  have key : ∃ r, f_X2_isTold n σ = some r ∧ ((r = 1 ∧ toldP N L T) ∨ (r = 0 ∧ ¬ toldP N L T)) := by
    have hrem : remI (nN L) 3 = nN (L % 3) := by rw [l3, remI_nN (by omega) (by omega)]
    simp only [f_X2_isTold, J_X2_isTold_24, t2, hrem]
    have l36 : (36 : Int32) = nN 36 := rfl
    rw [l36, it_lt (by omega) (by omega)]
    by_cases c1 : 36 < L
    · rw [if_pos c1]
      exact ⟨0, rfl, Or.inr ⟨rfl, fun h => by have := h.1; omega⟩⟩
    · rw [if_neg c1]
      by_cases c2 : L % 3 = 0
      · have e0 : (nN (L % 3) = 0) = True := by rw [c2]; exact eq_true rfl
        simp only [e0, if_true]
        refine itr_inv (fun i a => a = nN (3 * i) ∧ ∀ r, r < i → T (3 * r) ≤ T (3 * r + 1) ∧ T (3 * r + 1) < N) _ (L / 3) ?_ ?_ n 0 _ (by omega) (by omega) ⟨rfl, fun r hr => by omega⟩
        · rintro i a hi ⟨rfl, hno⟩
          have e1 : nN (3 * i) + 1 = nN (3 * i + 1) := nN_s _
          have e2 : nN (3 * i) + 2 = nN (3 * i + 2) := by rw [l2, nN_add]
          have e3 : nN (3 * i) + 3 = nN (3 * (i + 1)) := by rw [l3, nN_add, show 3 * i + 3 = 3 * (i + 1) by omega]
          obtain ⟨a1, a2, -⟩ := t3 (3 * i) (by omega)
          obtain ⟨b1, b2, -⟩ := t3 (3 * i + 1) (by omega)
          have hhas := e_X4_has g (nN (T (3 * i + 1)))
          rw [isP_b h8 b1] at hhas
          simp (disch := omega) only [L_X2_isTold_28, J_X2_isTold_85, t2, e1, e2, e3, le_f, if_false, inb_nN, ix_nN, it_t, if_true, a2, b2, hhas, bnd_s, ite_bI, nN_lt, Option.map_some]
          by_cases d1 : T (3 * i + 1) < T (3 * i)
          · rw [if_pos d1]
            right
            exact ⟨0, rfl, Or.inr ⟨rfl, fun h => by have := (h.2.2 i hi).1; omega⟩⟩
          · rw [if_neg d1]
            by_cases d2 : T (3 * i + 1) < N
            · rw [decide_eq_true d2, if_pos rfl]
              left
              refine ⟨_, rfl, rfl, fun r hr => ?_⟩
              by_cases d3 : r < i
              · exact hno r d3
              · have : r = i := by omega
                subst this
                exact ⟨by omega, d2⟩
            · rw [decide_eq_false d2]
              right
              exact ⟨0, rfl, Or.inr ⟨rfl, fun h => d2 (h.2.2 i hi).2⟩⟩
        · rintro a ⟨rfl, hno⟩
          have e2 : nN (3 * (L / 3)) + 2 = nN (L + 2) := by rw [l2, nN_add, show 3 * (L / 3) + 2 = L + 2 by omega]
          simp (disch := omega) only [L_X2_isTold_28, t2, e2, le_t, if_true, Option.map_some]
          exact ⟨1, rfl, Or.inl ⟨rfl, by omega, c2, hno⟩⟩
      · have e0 : (nN (L % 3) = 0) = False := by rw [l0]; exact nN_eqf c2 (by omega) (by omega)
        simp only [e0, if_false]
        exact ⟨0, rfl, Or.inr ⟨rfl, fun h => c2 h.2.1⟩⟩
  obtain ⟨r, hr, h | h⟩ := key
  · exact ⟨true, by rw [hr, h.1]; rfl, fun _ => h.2, fun _ => rfl⟩
  · exact ⟨false, by rw [hr, h.1]; rfl, fun hx => (by cases hx), fun hx => absurd hx h.2⟩
theorem m_isTold {σ : MS} {n N L : Nat} {T : Nat → Nat} (hn : 6000 ≤ n) (g : GW σ N) (hL : L ≤ 400) (hend : σ 171 11 = nN L) (ht : ∀ i, i < L → T i < 256 ∧ σ 177 i = sb (T i)) : ∃ b, f_X12_isTold n σ = some (bI b) ∧ (b = true ↔ toldP N L T) := by
  have h8 := g.le8
  have loop : ∀ b0 : Bool, ∃ b, J_X12_isTold_23 n (bI b0) σ = some (bI b) ∧ (b = true ↔ (b0 = true ∧ ∀ r, 3 * r < L → L % 3 = 0 → T (3 * r) ≤ T (3 * r + 1) ∧ T (3 * r + 1) < N)) ∨ ¬ L % 3 = 0 := by
    intro b0
    by_cases c2 : L % 3 = 0
    · have key : ∃ r, J_X12_isTold_23 n (bI b0) σ = some r ∧ ∃ b, r = bI b ∧ (b = true ↔ (b0 = true ∧ ∀ r, r < L / 3 → T (3 * r) ≤ T (3 * r + 1) ∧ T (3 * r + 1) < N)) := by
        unfold J_X12_isTold_23
        refine itr_inv (fun i a => ∃ b, a = (bI b, nN (3 * i)) ∧ (b = true ↔ (b0 = true ∧ ∀ r, r < i → T (3 * r) ≤ T (3 * r + 1) ∧ T (3 * r + 1) < N))) _ (L / 3) ?_ ?_ n 0 _ (by omega) (by omega) ⟨b0, rfl, fun h => ⟨h, fun r hr => by omega⟩, fun h => h.1⟩
        · rintro i a hi ⟨b, rfl, hb⟩
          have e1 : nN (3 * i) + 1 = nN (3 * i + 1) := nN_s _
          have e3 : nN (3 * i) + 3 = nN (3 * (i + 1)) := by rw [l3, nN_add, show 3 * i + 3 = 3 * (i + 1) by omega]
          obtain ⟨a1, a2⟩ := ht (3 * i) (by omega)
          obtain ⟨b1, b2⟩ := ht (3 * i + 1) (by omega)
          cases b
          · right
            refine ⟨0, ?_, false, rfl, ?_⟩
            · simp (disch := omega) only [L_X12_isTold_26, J_X12_isTold_95, hend, le_f, if_false, bI_f, if_true, true_or, Option.map_some]
            · constructor
              · intro h; cases h
              · rintro ⟨h1, h2⟩
                exact hb.mpr ⟨h1, fun r hr => h2 r (by omega)⟩
          · left
            have hb' := hb.mp rfl
            have n1 := e_X12_noPerson g (sb (T (3 * i)))
            have n2 := e_X12_noPerson g (sb (T (3 * i + 1)))
            rw [sb_p h8 a1] at n1
            rw [sb_p h8 b1] at n2
            have fin : ∀ d : Bool, (d = true ↔ (T (3 * i) ≤ T (3 * i + 1) ∧ T (3 * i + 1) < N)) → (d = true ↔ (b0 = true ∧ ∀ r, r < i + 1 → T (3 * r) ≤ T (3 * r + 1) ∧ T (3 * r + 1) < N)) := by
              intro d hd
              rw [hd]
              constructor
              · intro h
                refine ⟨hb'.1, fun r hr => ?_⟩
                by_cases d3 : r < i
                · exact hb'.2 r d3
                · have : r = i := by omega
                  subst this
                  exact h
              · intro h
                exact h.2 i (by omega)
            simp (disch := omega) only [L_X12_isTold_26, J_X12_isTold_87, J_X12_isTold_88, hend, le_f, if_false, bI_t, one_ne0, inb_nN, ix_nN, it_t, if_true, a2, b2, e1, e3, n1, n2, bnd_s, ite_bI]
            by_cases d1 : T (3 * i) < N
            · by_cases d2 : T (3 * i + 1) < N
              · rw [decide_eq_true d1, decide_eq_true d2, sb_8 (by omega), sb_8 (by omega)]
                simp (disch := omega) only [Bool.not_true, Bool.false_eq_true, if_false, nN_lt]
                by_cases d3 : T (3 * i + 1) < T (3 * i)
                · rw [if_pos d3]
                  exact ⟨_, rfl, false, rfl, fin false (by constructor; intro h; cases h; intro h; omega)⟩
                · rw [if_neg d3]
                  exact ⟨_, rfl, true, rfl, fin true ⟨fun _ => ⟨by omega, d2⟩, fun _ => rfl⟩⟩
              · rw [decide_eq_true d1, decide_eq_false d2]
                simp only [Bool.not_true, Bool.not_false, Bool.false_eq_true, if_false, if_true]
                exact ⟨_, rfl, false, rfl, fin false (by constructor; intro h; cases h; intro h; exact absurd h.2 d2)⟩
            · rw [decide_eq_false d1]
              simp only [Bool.not_false, if_true]
              exact ⟨_, rfl, false, rfl, fin false (by constructor; intro h; cases h; intro h; omega)⟩
        · rintro a ⟨b, rfl, hb⟩
          have e : 3 * (L / 3) = L := by omega
          rw [e]
          refine ⟨bI b, ?_, b, rfl, hb⟩
          simp (disch := omega) only [L_X12_isTold_26, J_X12_isTold_95, hend, le_t, if_true, ok_bI, Option.map_some]
      obtain ⟨r, hr, b, rfl, hb⟩ := key
      exact ⟨b, Or.inl ⟨hr, by rw [hb]; exact ⟨fun h => ⟨h.1, fun r h1 _ => h.2 r (by omega)⟩, fun h => ⟨h.1, fun r h1 => h.2 r (by omega) c2⟩⟩⟩⟩
    · exact ⟨true, Or.inr c2⟩
  have hrem : remI (nN L) 3 = nN (L % 3) := by rw [l3, remI_nN (by omega) (by omega)]
  have zero : ∃ b, J_X12_isTold_23 n (bI false) σ = some (bI b) ∧ b = false := by
    unfold J_X12_isTold_23
    obtain ⟨k, rfl⟩ : ∃ k, n = k + 1 := ⟨n - 1, by omega⟩
    refine ⟨false, itr_en ?_, rfl⟩
    simp only [L_X12_isTold_26, J_X12_isTold_95, bI_f, if_true, true_or, Option.map_some, ite_self]
  have l36 : (36 : Int32) = nN 36 := rfl
  simp only [f_X12_isTold, J_X12_isTold_22, hend, hrem]
  by_cases c2 : L % 3 = 0
  · have e0 : (nN (L % 3) = 0) = True := by rw [c2]; exact eq_true rfl
    simp only [e0, if_true]
    rw [l36, it_lt (by omega) (by omega)]
    by_cases c1 : 36 < L
    · rw [if_pos c1]
      obtain ⟨b, h1, h2⟩ := zero
      exact ⟨b, h1, by rw [h2]; exact ⟨fun h => (by cases h), fun h => by have := h.1; omega⟩⟩
    · rw [if_neg c1]
      obtain ⟨b, h | h⟩ := loop true
      · refine ⟨b, h.1, ?_⟩
        rw [h.2]
        exact ⟨fun h => ⟨by omega, c2, fun r hr => h.2 r (by omega) c2⟩, fun h => ⟨rfl, fun r h1 _ => h.2.2 r (by omega)⟩⟩
      · exact absurd c2 h
  · have e0 : (nN (L % 3) = 0) = False := by rw [l0]; exact nN_eqf c2 (by omega) (by omega)
    simp only [e0, if_false]
    obtain ⟨b, h1, h2⟩ := zero
    exact ⟨b, h1, by rw [h2]; exact ⟨fun h => (by cases h), fun h => absurd h.2.1 c2⟩⟩
/-! which sets fit -/
def rowM (T : Nat → Nat) (r : Nat) : Nat := 2 ^ (T (3 * r + 1) + 1) - 2 ^ T (3 * r)
def fB (T : Nat → Nat) (R set : Nat) : Bool := decide (∀ r, r < R → bc (set &&& rowM T r) = T (3 * r + 2))
theorem row_ok {a b : Nat} (h : a ≤ b) (hb : b < 8) : shlI 2 (nN b) - shlI 1 (nN a) = nN (2 ^ (b + 1) - 2 ^ a) ∧ shlI 1 (nN (b + 1)) - shlI 1 (nN a) = nN (2 ^ (b + 1) - 2 ^ a) ∧ 2 ^ (b + 1) - 2 ^ a < 256 := by
  have H : ∀ b, b < 8 → ∀ a, a < 8 → a ≤ b → shlI 2 (nN b) - shlI 1 (nN a) = nN (2 ^ (b + 1) - 2 ^ a) ∧ shlI 1 (nN (b + 1)) - shlI 1 (nN a) = nN (2 ^ (b + 1) - 2 ^ a) ∧ 2 ^ (b + 1) - 2 ^ a < 256 := by decide +kernel
  exact H b hb a (by omega) h
theorem e_fits {σ : MS} {n N L set : Nat} {T : Nat → Nat} (hn : 6000 ≤ n) (hN : N ≤ 8) (ht : TP σ L T) (hp : toldP N L T) (hset : set < 256) : f_X2_fits n (nN set) σ = some (bI (fB T (L / 3) set)) := by
  obtain ⟨t1, t2, t3⟩ := ht
  obtain ⟨p1, p2, p3⟩ := hp
  have key : ∃ r, f_X2_fits n (nN set) σ = some r ∧ r = bI (fB T (L / 3) set) := by
    unfold f_X2_fits
    refine itr_inv (fun i a => a = nN (3 * i) ∧ ∀ r, r < i → bc (set &&& rowM T r) = T (3 * r + 2)) _ (L / 3) ?_ ?_ n 0 _ (by omega) (by omega) ⟨rfl, fun r hr => by omega⟩
    · rintro i a hi ⟨rfl, hno⟩
      have e1 : nN (3 * i) + 1 = nN (3 * i + 1) := nN_s _
      have e2 : nN (3 * i) + 2 = nN (3 * i + 2) := by rw [l2, nN_add]
      have e3 : nN (3 * i) + 3 = nN (3 * (i + 1)) := by rw [l3, nN_add, show 3 * i + 3 = 3 * (i + 1) by omega]
      obtain ⟨a1, a2, -⟩ := t3 (3 * i) (by omega)
      obtain ⟨b1, b2, -⟩ := t3 (3 * i + 1) (by omega)
      obtain ⟨c1, c2, -⟩ := t3 (3 * i + 2) (by omega)
      obtain ⟨q1, q2⟩ := p3 i hi
      obtain ⟨w1, -, w3⟩ := row_ok q1 (show T (3 * i + 1) < 8 by omega)
      have hb := bc_le (set &&& rowM T i)
      have w1' : shlI 2 (nN (T (3 * i + 1))) - shlI 1 (nN (T (3 * i))) = nN (rowM T i) := w1
      have hlt : set &&& rowM T i < 256 := and_256 hset
      simp (disch := omega) only [L_X2_fits_2, t2, e1, e2, e3, le_f, if_false, inb_nN, ix_nN, it_t, if_true, a2, b2, c2, w1', nN_and, e_bc, bnd_s, nN_eq, Option.map_some]
      by_cases d : bc (set &&& rowM T i) = T (3 * i + 2)
      · rw [if_pos d]
        left
        refine ⟨_, rfl, rfl, fun r hr => ?_⟩
        by_cases d3 : r < i
        · exact hno r d3
        · have : r = i := by omega
          subst this
          exact d
      · rw [if_neg d]
        right
        refine ⟨0, rfl, ?_⟩
        unfold fB
        rw [decide_eq_false (fun h => d (h i hi))]
        rfl
    · rintro a ⟨rfl, hno⟩
      have e2 : nN (3 * (L / 3)) + 2 = nN (L + 2) := by rw [l2, nN_add, show 3 * (L / 3) + 2 = L + 2 by omega]
      simp (disch := omega) only [L_X2_fits_2, t2, e2, le_t, if_true, Option.map_some]
      refine ⟨1, rfl, ?_⟩
      unfold fB
      rw [decide_eq_true hno]
      rfl
  obtain ⟨r, h1, h2⟩ := key
  rw [h1, h2]
theorem m_fits {σ : MS} {n N L set : Nat} {T : Nat → Nat} (hn : 6000 ≤ n) (hN : N ≤ 8) (hL : L ≤ 400) (hend : σ 171 11 = nN L) (ht : ∀ i, i < L → T i < 256 ∧ σ 177 i = sb (T i)) (hp : toldP N L T) (hset : set < 256) : f_X12_fits n (nN set) σ = some (bI (fB T (L / 3) set)) := by
  obtain ⟨p1, p2, p3⟩ := hp
  have key : ∃ r, f_X12_fits n (nN set) σ = some r ∧ r = bI (fB T (L / 3) set) := by
    unfold f_X12_fits
    refine itr_inv (fun i a => ∃ b, a = (bI b, nN (3 * i)) ∧ (b = true ↔ ∀ r, r < i → bc (set &&& rowM T r) = T (3 * r + 2))) _ (L / 3) ?_ ?_ n 0 _ (by omega) (by omega) ⟨true, rfl, fun _ r hr => by omega, fun _ => rfl⟩
    · rintro i a hi ⟨b, rfl, hb⟩
      left
      have e1 : nN (3 * i) + 1 = nN (3 * i + 1) := nN_s _
      have e2 : nN (3 * i) + 2 = nN (3 * i + 2) := by rw [l2, nN_add]
      have e3 : nN (3 * i) + 3 = nN (3 * (i + 1)) := by rw [l3, nN_add, show 3 * i + 3 = 3 * (i + 1) by omega]
      obtain ⟨a1, a2⟩ := ht (3 * i) (by omega)
      obtain ⟨b1, b2⟩ := ht (3 * i + 1) (by omega)
      obtain ⟨c1, c2⟩ := ht (3 * i + 2) (by omega)
      obtain ⟨q1, q2⟩ := p3 i hi
      obtain ⟨-, w2, w3⟩ := row_ok q1 (show T (3 * i + 1) < 8 by omega)
      have hbc := bc_le (set &&& rowM T i)
      have w2' : shlI 1 (nN (T (3 * i + 1) + 1)) - shlI 1 (nN (T (3 * i))) = nN (rowM T i) := w2
      have hlt : set &&& rowM T i < 256 := and_256 hset
      have s0 := sb_8 (show T (3 * i) < 128 by omega)
      have s1 := sb_8 (show T (3 * i + 1) < 128 by omega)
      have s2 := sb_255 c1
      cases b
      · refine ⟨_, ?_, false, rfl, ?_⟩
        · simp (disch := omega) only [L_X12_fits_4, J_X12_fits_65, J_X12_fits_66, hend, e1, e3, le_f, if_false, inb_nN, ix_nN, it_t, if_true, bI_f]
        · constructor
          · intro h; cases h
          · intro h
            exact hb.mpr (fun r hr => h r (by omega))
      · have hb' := hb.mp rfl
        simp (disch := omega) only [L_X12_fits_4, J_X12_fits_65, J_X12_fits_66, hend, e1, e2, e3, le_f, if_false, inb_nN, ix_nN, it_t, if_true, bI_t, one_ne0, a2, b2, c2, s0, s1, s2, nN_s, w2', nN_and, e_bc, bnd_s, nN_eq]
        by_cases d : bc (set &&& rowM T i) = T (3 * i + 2)
        · rw [if_pos d]
          refine ⟨_, rfl, true, rfl, fun _ r hr => ?_, fun _ => rfl⟩
          by_cases d3 : r < i
          · exact hb' r d3
          · have : r = i := by omega
            subst this
            exact d
        · rw [if_neg d]
          refine ⟨_, rfl, false, rfl, ?_⟩
          constructor
          · intro h; cases h
          · intro h
            exact absurd (h i (by omega)) d
    · rintro a ⟨b, rfl, hb⟩
      have e : 3 * (L / 3) = L := by omega
      rw [e]
      refine ⟨bI b, ?_, ?_⟩
      · simp (disch := omega) only [L_X12_fits_4, hend, le_t, if_true, ok_bI, Option.map_some]
      · congr 1
        unfold fB
        cases b
        · symm
          apply decide_eq_false
          intro h
          have := hb.mpr h
          cases this
        · symm
          exact decide_eq_true (hb.mp rfl)
  obtain ⟨r, h1, h2⟩ := key
  rw [h1, h2]
