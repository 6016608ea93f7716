/-! layer 2: the law, by what it adds -/
def LawF (σ : MS) (n : Nat) (S : (Nat → Int32) → Int32 → Int32) : Prop :=
  (∀ F kind, ∃ t, S F kind = nN t ∧ t ≤ 1188) ∧
  (∀ (s : MS) (F : Nat → Int32) (kind : Int32), (∀ k, k < 5 → s (30 + k) = σ (30 + k)) → (∀ k, k < 8 → s 35 k = F k) → (∀ k, (k = 6 ∨ k = 7) → F k = 0 ∨ F k = 1) → ∃ τ, f_X6_sum n 30 kind s = some (S F kind, τ) ∧ ∀ o, o ≠ 36 → τ o = s o) ∧
  (∀ (s : MS) (one other : Nat) (sip many kind : Int32), (∀ k, k < 1323 → (k = 2 ∨ 474 ≤ k) → s 172 k = σ 172 k) → Lk s one other sip many → one < 8 → other < 8 → ∃ τ, f_X12_sumOf n kind s = some (S (FV (rv (s 172)) one other sip many) kind, τ) ∧ ∀ o, o ≠ 179 → τ o = s o) ∧
  ((σ 30 0 = -1 ∧ ¬ σ 172 2 = 1) ∨ (¬ σ 30 0 = -1 ∧ σ 172 2 = 1))
theorem lawS_le {G : Nat → Nat → Int32} {w : Nat → Int32} {L : Nat} {st op ar : Nat → Nat} (h : LD G w L st op ar) (F : Nat → Int32) (kind : Int32) : ∃ t, lawS w L st op ar F kind = nN t ∧ t ≤ 1188 := by
  obtain ⟨d1, d2, d3, d4, d5, d6, d7⟩ := h
  have H : ∀ M, M ≤ L → ∃ t, fR M (lawG w st op ar F kind) 0 = nN t ∧ t ≤ 99 * M := by
    intro M
    induction M with
    | zero => intro _; exact ⟨0, rfl, by omega⟩
    | succ m ih =>
      intro hm
      obtain ⟨t, h1, h2⟩ := ih (by omega)
      rw [fR_s, h1]
      unfold lawG
      split
      · obtain ⟨-, -, -, -, -, -, ⟨x, x1, -, x3⟩, -⟩ := d6 m (by omega)
        rw [x3, nN_add]
        exact ⟨t + x, rfl, by omega⟩
      · exact ⟨t, rfl, by omega⟩
  obtain ⟨t, h1, h2⟩ := H L (Nat.le_refl _)
  exact ⟨t, h1, by omega⟩
theorem lawS_same {w w' : Nat → Int32} {L : Nat} {st op ar : Nat → Nat} {F : Nat → Int32} {kind : Int32} (hL : L ≤ 12) (hw : ∀ k, k < 1323 → (k = 2 ∨ 474 ≤ k) → w' k = w k) : lawS w' L st op ar F kind = lawS w L st op ar F kind := by
  unfold lawS
  apply fR_congr
  intro i b hi
  unfold lawG
  rw [hw _ (by omega) (by omega), hw _ (by omega) (by omega)]
theorem law_is {σ : MS} {n : Nat} (hn : 6000 ≤ n) (h : LWR (rows σ 30) (σ 172)) : ∃ S, LawF σ n S := by
  rcases LWR_LD h with ⟨h1, h2⟩ | ⟨L, st, op, ar, hD⟩
  · have h1' : σ 30 0 = -1 := h1
    refine ⟨fun _ _ => 0, fun F kind => ⟨0, rfl, by omega⟩, ?_, ?_, Or.inl ⟨h1', by rw [h2]; decide⟩⟩
    · intro s F kind hs hF h67
      have s0 : s 30 0 = -1 := by rw [hs 0 (by omega)]; exact h1'
      obtain ⟨k, rfl⟩ : ∃ k, n = k + 1 := ⟨n - 1, by omega⟩
      refine ⟨s, ?_, fun _ _ => rfl⟩
      unfold f_X6_sum
      refine itr_en ?_
      have z : ((-1 : Int32) ≤ 0) = True := by decide
      simp only [L_X6_sum_4, J_X6_sum_39, s0, z, if_true, Option.map_some]
    · intro s one other sip many kind hs _ _ _
      have s0 : s 172 2 = 0 := by rw [hs 2 (by omega) (by omega)]; exact h2
      obtain ⟨k, rfl⟩ : ∃ k, n = k + 1 := ⟨n - 1, by omega⟩
      refine ⟨s, ?_, fun _ _ => rfl⟩
      unfold f_X12_sumOf
      refine itr_en ?_
      simp only [L_X12_sumOf_4, J_X12_sumOf_73, J_X12_sumOf_67, s0, ne_0_1, if_false, Option.map_some]
  · refine ⟨fun F kind => lawS (σ 172) L st op ar F kind, fun F kind => lawS_le hD F kind, ?_, ?_, Or.inr ⟨?_, hD.2.2.1⟩⟩
    · intro s F kind hs hF h67
      have hD2 : LD (rows s 30) (σ 172) L st op ar := by
        unfold LD at hD ⊢
        rw [show rows s 30 0 = rows σ 30 0 from hs 0 (by omega), show rows s 30 1 = rows σ 30 1 from hs 1 (by omega), show rows s 30 2 = rows σ 30 2 from hs 2 (by omega), show rows s 30 3 = rows σ 30 3 from hs 3 (by omega), show rows s 30 4 = rows σ 30 4 from hs 4 (by omega)]
        exact hD
      exact e_sum kind hn hD2 hF h67
    · intro s one other sip many kind hs hLk h1 h2
      have hL := LWR_same (G' := rows σ 30) (Or.inr ⟨L, st, op, ar, hD⟩) (fun _ _ => rfl) hs
      have hD2 : LD (rows σ 30) (s 172) L st op ar := by
        obtain ⟨d1, d2, d3, d4, d5, d6, d7⟩ := hD
        have hst : st L ≤ 400 := by
          cases L with
          | zero => omega
          | succ l => exact (d6 l (by omega)).2.1
        refine ⟨d1, d2, by rw [hs 2 (by omega) (by omega)]; exact d3, by rw [hs 474 (by omega) (by omega)]; exact d4, d5, ?_, ?_⟩
        · intro l hl
          rw [hs (477 + 4 * l) (by omega) (by omega), hs (478 + 4 * l) (by omega) (by omega), hs (475 + 4 * l) (by omega) (by omega), hs (476 + 4 * l) (by omega) (by omega)]
          exact d6 l hl
        · intro i hi
          rw [hs (523 + 2 * i) (by omega) (by omega), hs (524 + 2 * i) (by omega) (by omega)]
          exact d7 i hi
      obtain ⟨τ, k1, k2⟩ := e_sumOf kind hn hD2 hLk h1 h2
      rw [lawS_same hD.1 hs] at k1
      exact ⟨τ, k1, k2⟩
    · intro hc
      have h2 : σ 30 0 = nN L := hD.2.1
      rw [h2, nN_m1 (by have := hD.1; omega)] at hc
      exact hc
theorem e_consider {s : MS} {h p q : Nat} {sip many : Int32} (hh : h + 8 < 30) (hp : p < 8) (hq : q < 8) : ∃ τ, f_X6_consider 30 h (nN p) (nN q) sip many s = some (0, τ) ∧ (∀ k, k < 8 → τ 35 k = FV (hv s h) p q sip many k) ∧ (∀ o, o ≠ 35 → τ o = s o) := by
  generalize ht : mu (mu (mu (mu s 35 0 (nN p)) 35 1 (nN q)) 35 2 sip) 35 3 many = t4
  have e4 : hv t4 h = hv s h := hv_rows (fun k hk => by rw [← ht, mu_row (by omega), mu_row (by omega), mu_row (by omega), mu_row (by omega)])
  generalize ht5 : mu t4 35 4 (likeV (hv s h) p q + likeV (hv s h) q p) = t5
  have r5 : t5 h 5 = hv s h 0 5 := by
    rw [← ht5, mu_row (by omega), ← e4]
    exact (hv_0 t4 h 5 (by omega)).symm
  generalize ht6 : mu t5 35 5 (hv s h 0 5) = t6
  have e6 : hv t6 h = hv s h := by
    rw [← e4]
    exact hv_rows (fun k hk => by rw [← ht6, mu_row (by omega), ← ht5, mu_row (by omega)])
  have m6 : t6 (h + 2) p = hv s h 2 p := by
    rw [← e6]
    exact (hv_at (σ := t6) (h := h) (k := 2) hp).symm
  have e7 : ∀ v, hv (mu t6 35 6 v) h = hv s h := by
    intro v
    rw [← e6]
    exact hv_rows (fun k hk => by rw [mu_row (by omega)])
  have i6 : inb (6 : Int32) 8 = true := by decide
  have i7 : inb (7 : Int32) 8 = true := by decide
  have x6 : ix (6 : Int32) = 6 := by decide
  have x7 : ix (7 : Int32) = 7 := by decide
  have key : f_X6_consider 30 h (nN p) (nN q) sip many s = some (0, mu (mu t6 35 6 (bI (wedV (hv s h) p q))) 35 7 (bI (holdsV (hv s h) p q))) := by
    have ew : wedV (hv s h) p q = decide (hv s h 2 p = nN q) := rfl
    simp (disch := omega) only [f_X6_consider, J_X6_consider_101, J_X6_consider_80, ltM_s, Nat.reduceAdd, ht, e_X4_likingOf, e4, bnd_s, ht5, r5, ht6, inb_nN, ix_nN, it_t, if_true, m6, i6, i7, x6, x7, e_X4_holds, e7, ite_bI]
    rw [ew]
    by_cases c : hv s h 2 p = nN q
    · rw [if_pos c, decide_eq_true c]
      cases holdsV (hv s h) p q <;> rfl
    · rw [if_neg c, decide_eq_false c]
      cases holdsV (hv s h) p q <;> rfl
  refine ⟨_, key, ?_, ?_⟩
  · intro k hk
    have hk' : k = 0 ∨ k = 1 ∨ k = 2 ∨ k = 3 ∨ k = 4 ∨ k = 5 ∨ k = 6 ∨ k = 7 := by omega
    rcases hk' with rfl | rfl | rfl | rfl | rfl | rfl | rfl | rfl <;> rw [mu_own] <;> (try rw [if_neg (by omega)]) <;> (try rw [mu_own]) <;> rw [← ht6, ← ht5, ← ht] <;> simp only [mu_own] <;> rfl
  · intro o ho
    rw [mu_row ho, mu_row ho, ← ht6, mu_row ho, ← ht5, mu_row ho, ← ht, mu_row ho, mu_row ho, mu_row ho, mu_row ho]
theorem e_looks {s : MS} {p q : Nat} {sip many : Int32} (hp : p < 8) (hq : q < 8) : ∃ τ, f_X12_looks (nN p) (nN q) sip many s = some (0, τ) ∧ Lk τ (min p q) (max p q) sip many ∧ (∀ k, (k < 18 ∨ 21 < k) → τ 171 k = s 171 k) ∧ (∀ o, o ≠ 171 → τ o = s o) := by
  simp only [f_X12_looks, ltM_s, mnI_nN (show p < 2147483648 by omega) (show q < 2147483648 by omega), mxI_nN (show p < 2147483648 by omega) (show q < 2147483648 by omega)]
  refine ⟨_, rfl, ⟨?_, ?_, ?_, ?_⟩, ?_, ?_⟩
  · simp only [mu_own]; rfl
  · simp only [mu_own]; rfl
  · simp only [mu_own]; rfl
  · simp only [mu_own]; rfl
  · intro k hk
    rw [mu_at, if_neg (by omega), mu_at, if_neg (by omega), mu_at, if_neg (by omega), mu_at, if_neg (by omega)]
  · intro o ho
    rw [mu_row ho, mu_row ho, mu_row ho, mu_row ho]
/-! what a sip binds, how long, and what is suspected -/
def bnS (S : (Nat → Int32) → Int32 → Int32) (V : HV) (p q : Nat) (sip many : Int32) : Int32 := mnI 9 (V 0 3 + S (FV V p q sip many) 0)
def lsS (S : (Nat → Int32) → Int32 → Int32) (V : HV) (p q : Nat) (sip many : Int32) : Int32 := V 0 4 + S (FV V p q sip many) 1
theorem e_bindsBy {σ s : MS} {n h p q : Nat} {sip many : Int32} {S : (Nat → Int32) → Int32 → Int32} (hS : LawF σ n S) (hr : ∀ k, k < 5 → s (30 + k) = σ (30 + k)) (hh : h + 8 < 30) (hp : p < 8) (hq : q < 8) : ∃ τ, f_X6_bindsBy n 30 h (nN p) (nN q) sip many s = some (bnS S (hv s h) p q sip many, τ) ∧ (∀ o, o ≠ 35 → o ≠ 36 → τ o = s o) := by
  obtain ⟨t1, a1, a2, a3⟩ := e_consider (s := s) (h := h) (sip := sip) (many := many) hh hp hq
  obtain ⟨t2, b1, b2⟩ := hS.2.1 t1 (FV (hv s h) p q sip many) 0 (fun k hk => by rw [a3 _ (by omega)]; exact hr k hk) a2 (FV_67 _ _ _ _ _)
  refine ⟨t2, ?_, fun o h1 h2 => by rw [b2 o h2, a3 o h1]⟩
  have e3 : t1 h 3 = hv s h 0 3 := by rw [a3 h (by omega)]; exact (hv_0 s h 3 (by omega)).symm
  simp only [f_X6_bindsBy, a1, bnd_s, b1, e3]
  rfl
theorem e_lastsFor {σ s : MS} {n h p q : Nat} {sip many : Int32} {S : (Nat → Int32) → Int32 → Int32} (hS : LawF σ n S) (hr : ∀ k, k < 5 → s (30 + k) = σ (30 + k)) (hh : h + 8 < 30) (hp : p < 8) (hq : q < 8) : ∃ τ, f_X6_lastsFor n 30 h (nN p) (nN q) sip many s = some (lsS S (hv s h) p q sip many, τ) ∧ (∀ o, o ≠ 35 → o ≠ 36 → τ o = s o) := by
  obtain ⟨t1, a1, a2, a3⟩ := e_consider (s := s) (h := h) (sip := sip) (many := many) hh hp hq
  obtain ⟨t2, b1, b2⟩ := hS.2.1 t1 (FV (hv s h) p q sip many) 1 (fun k hk => by rw [a3 _ (by omega)]; exact hr k hk) a2 (FV_67 _ _ _ _ _)
  refine ⟨t2, ?_, fun o h1 h2 => by rw [b2 o h2, a3 o h1]⟩
  have e3 : t1 h 4 = hv s h 0 4 := by rw [a3 h (by omega)]; exact (hv_0 s h 4 (by omega)).symm
  simp only [f_X6_lastsFor, a1, bnd_s, b1, e3]
  rfl
def suS (σ : MS) (S : (Nat → Int32) → Int32 → Int32) (V : HV) (p q : Nat) : Int32 := if σ 172 2 = 1 then S (FV V p q 0 0) 2 else 5
theorem e_suspectsBy {σ s : MS} {n h p q : Nat} {S : (Nat → Int32) → Int32 → Int32} (hS : LawF σ n S) (hr : ∀ k, k < 5 → s (30 + k) = σ (30 + k)) (hh : h + 8 < 30) (hp : p < 8) (hq : q < 8) : ∃ τ, f_X6_suspectsBy n 30 h (nN p) (nN q) s = some (suS σ S (hv s h) p q, τ) ∧ (∀ o, o ≠ 35 → o ≠ 36 → τ o = s o) := by
  have s0 : s 30 0 = σ 30 0 := by rw [hr 0 (by omega)]
  unfold suS
  rcases hS.2.2.2 with ⟨c1, c2⟩ | ⟨c1, c2⟩
  · refine ⟨s, ?_, fun _ _ _ => rfl⟩
    simp only [f_X6_suspectsBy, s0, c1, if_true, c2, if_false]
  · obtain ⟨t1, a1, a2, a3⟩ := e_consider (s := s) (h := h) (sip := 0) (many := 0) hh hp hq
    obtain ⟨t2, b1, b2⟩ := hS.2.1 t1 (FV (hv s h) p q 0 0) 2 (fun k hk => by rw [a3 _ (by omega)]; exact hr k hk) a2 (FV_67 _ _ _ _ _)
    refine ⟨t2, ?_, fun o h1 h2 => by rw [b2 o h2, a3 o h1]⟩
    simp only [f_X6_suspectsBy, s0, c1, if_false, a1, bnd_s, b1, c2, if_true]
theorem m_bindsBy {σ s : MS} {n p q : Nat} {sip many : Int32} {S : (Nat → Int32) → Int32 → Int32} (hS : LawF σ n S) (hw : ∀ k, k < 1323 → (k = 2 ∨ 474 ≤ k) → s 172 k = σ 172 k) (hLk : Lk s p q sip many) (hp : p < 8) (hq : q < 8) : ∃ τ, f_X12_bindsBy n s = some (bnS S (rv (s 172)) p q sip many, τ) ∧ (∀ o, o ≠ 179 → τ o = s o) := by
  obtain ⟨τ, h1, h2⟩ := hS.2.2.1 s p q sip many 0 hw hLk hp hq
  refine ⟨τ, ?_, h2⟩
  simp only [f_X12_bindsBy, h1, bnd_s]
  rfl
theorem m_lastsFor {σ s : MS} {n p q : Nat} {sip many : Int32} {S : (Nat → Int32) → Int32 → Int32} (hS : LawF σ n S) (hw : ∀ k, k < 1323 → (k = 2 ∨ 474 ≤ k) → s 172 k = σ 172 k) (hLk : Lk s p q sip many) (hp : p < 8) (hq : q < 8) : ∃ τ, f_X12_lastsFor n s = some (lsS S (rv (s 172)) p q sip many, τ) ∧ (∀ o, o ≠ 179 → τ o = s o) := by
  obtain ⟨τ, h1, h2⟩ := hS.2.2.1 s p q sip many 1 hw hLk hp hq
  refine ⟨τ, ?_, h2⟩
  simp only [f_X12_lastsFor, h1, bnd_s]
  rfl
theorem m_suspectsBy {σ s : MS} {n p q : Nat} {S : (Nat → Int32) → Int32 → Int32} (hS : LawF σ n S) (hw : ∀ k, k < 1323 → (k = 2 ∨ 474 ≤ k) → s 172 k = σ 172 k) (hLk : Lk s p q 0 0) (hp : p < 8) (hq : q < 8) : ∃ τ, f_X12_suspectsBy n s = some (suS σ S (rv (s 172)) p q, τ) ∧ (∀ o, o ≠ 179 → τ o = s o) := by
  have s2 : s 172 2 = σ 172 2 := hw 2 (by omega) (by omega)
  unfold suS
  rcases hS.2.2.2 with ⟨c1, c2⟩ | ⟨c1, c2⟩
  · refine ⟨s, ?_, fun _ _ => rfl⟩
    simp only [f_X12_suspectsBy, J_X12_suspectsBy_19, s2, c2, if_false]
  · obtain ⟨τ, h1, h2⟩ := hS.2.2.1 s p q 0 0 2 hw hLk hp hq
    refine ⟨τ, ?_, h2⟩
    simp only [f_X12_suspectsBy, J_X12_suspectsBy_19, s2, c2, if_true, h1, bnd_s]
