/-! layer 2: acts are remembered -/
def newA (a c : Nat) : Nat := if c < 12 then a else (a + 1) % 12
def newC (c : Nat) : Nat := if c < 12 then c + 1 else 12
/-- the program has remembered its house -/
def Rem (σ τ : MS) (a c : Nat) : Prop := τ 0 15 = nN (newA a c) ∧ τ 0 16 = nN (newC c) ∧ (∀ k, k ≠ 15 → k ≠ 16 → τ 0 k = σ 0 k) ∧
  (∀ k i, k < 8 → i < rng k → τ (63 + 9 * ((newA a c + newC c - 1) % 12) + k) i = σ (3 + k) i) ∧ (∀ i, i < 60 → τ (63 + 9 * ((newA a c + newC c - 1) % 12) + 8) i = σ 11 i) ∧
  (∀ o, o ≠ 0 → (o < 63 + 9 * ((newA a c + newC c - 1) % 12) ∨ 63 + 9 * ((newA a c + newC c - 1) % 12) + 8 < o) → τ o = σ o)
theorem J_rem {σ : MS} {a m : Nat} (ha : a < 12) (hm : 1 ≤ m) (hm12 : m ≤ 12) (h1 : σ 0 15 = nN a) (h2 : σ 0 16 = nN m) : ∃ τ, J_X11_remember_35 σ = some (0, τ) ∧ Bec σ τ (63 + 9 * ((a + m - 1) % 12)) 3 := by
  have e : nN a + nN m - 1 = nN (a + m - 1) := by rw [nN_add, l1, nN_sub (by omega)]
  have hp := Nat.mod_lt (a + m - 1) (show 0 < 12 by omega)
  obtain ⟨τ, h3, h4⟩ := e_become σ (h0 := 63 + 9 * ((a + m - 1) % 12)) (h1 := 3) (Or.inr (by omega))
  refine ⟨τ, ?_, h4⟩
  simp only [J_X11_remember_35, h1, h2, e]
  rw [l12, remI_nN (by omega) (by omega), inb_nN (by omega) hp, ix_nN (by omega), it_t, h3, bnd_s]
theorem e_remember {σ : MS} {a c : Nat} (ha : a < 12) (hc : c ≤ 12) (h1 : σ 0 15 = nN a) (h2 : σ 0 16 = nN c) : ∃ τ, f_X11_remember σ = some (0, τ) ∧ Rem σ τ a c := by
  unfold f_X11_remember
  simp only [h1, h2, ltM_s]
  by_cases hc12 : c < 12
  · have ea : newA a c = a := if_pos hc12
    have ec : newC c = c + 1 := if_pos hc12
    rw [l12, it_le (by omega) (by omega), if_neg (by omega), nN_s]
    have m15 : mu σ 0 16 (nN (c + 1)) 0 15 = nN a := by rw [mu_at, if_neg (by omega)]; exact h1
    have m16 : mu σ 0 16 (nN (c + 1)) 0 16 = nN (c + 1) := by rw [mu_own]; rfl
    obtain ⟨τ, h3, h4, h5, h6⟩ := J_rem (σ := mu σ 0 16 (nN (c + 1))) ha (by omega) (by omega) m15 m16
    refine ⟨τ, h3, ?_⟩
    have r0 : τ 0 = mu σ 0 16 (nN (c + 1)) 0 := h6 0 (by omega)
    unfold Rem
    rw [ea, ec]
    refine ⟨by rw [r0]; exact m15, by rw [r0]; exact m16, ?_, ?_, ?_, ?_⟩
    · intro k k1 k2
      rw [r0, mu_at, if_neg (by omega)]
    · intro k i hk hi
      rw [h4 k i hk hi, mu_row (by omega)]
    · intro i hi
      rw [h5 i hi, mu_row (by omega)]
    · intro o ho ho2
      rw [h6 o ho2, mu_row ho]
  · have e12 : c = 12 := by omega
    subst e12
    have ea : newA a 12 = (a + 1) % 12 := if_neg (by omega)
    have ec : newC 12 = 12 := if_neg (by omega)
    have hm := Nat.mod_lt (a + 1) (show 0 < 12 by omega)
    rw [l12, it_le (by omega) (by omega), if_pos (by omega), nN_s, remI_nN (by omega) (by omega)]
    have m15 : mu σ 0 15 (nN ((a + 1) % 12)) 0 15 = nN ((a + 1) % 12) := by rw [mu_own]; rfl
    have m16 : mu σ 0 15 (nN ((a + 1) % 12)) 0 16 = nN 12 := by rw [mu_at, if_neg (by omega)]; exact h2
    obtain ⟨τ, h3, h4, h5, h6⟩ := J_rem (σ := mu σ 0 15 (nN ((a + 1) % 12))) hm (by omega) (by omega) m15 m16
    refine ⟨τ, h3, ?_⟩
    have r0 : τ 0 = mu σ 0 15 (nN ((a + 1) % 12)) 0 := h6 0 (by omega)
    unfold Rem
    rw [ea, ec]
    refine ⟨by rw [r0]; exact m15, by rw [r0]; exact m16, ?_, ?_, ?_, ?_⟩
    · intro k k1 k2
      rw [r0, mu_at, if_neg (by omega)]
    · intro k i hk hi
      rw [h4 k i hk hi, mu_row (by omega)]
    · intro i hi
      rw [h5 i hi, mu_row (by omega)]
    · intro o ho ho2
      rw [h6 o ho2, mu_row ho]
/-- the reference has remembered its world -/
def MRem (σ τ : MS) (c : Nat) : Prop := τ 171 7 = nN (newC c) ∧ (∀ k, k ≠ 7 → τ 171 k = σ 171 k) ∧ (∀ o, o ≠ 171 → o ≠ 176 → τ o = σ o) ∧
  (∀ k, k < 474 → τ 176 (474 * (newC c - 1) + k) = σ 172 k) ∧ (∀ i k, i + 1 < newC c → k < 474 → τ 176 (474 * i + k) = σ 176 (474 * (i + (c + 1 - newC c)) + k))
theorem J_mrem {σ : MS} {n m : Nat} (hn : 6000 ≤ n) (hm : 1 ≤ m) (hm12 : m ≤ 12) (h : σ 171 7 = nN m) : J_X12_remembers_53 n σ = some (0, rsw σ 176 (fun k => if 474 * (m - 1) ≤ k ∧ k < 474 * (m - 1) + 474 then σ 172 (0 + (k - 474 * (m - 1))) else σ 176 k)) := by
  rw [← cp_fold (by omega)]
  unfold J_X12_remembers_53
  refine itr_0P (fun (s : MS) i => (i, s)) 474 (fun i s => mu s 176 (474 * (m - 1) + i) (s 172 (0 + i))) (fun s => ((0 : Int32), s)) (fun _ s => s 171 7 = nN m) (by omega) σ h ?_ ?_
  · intro i s hi hs
    refine ⟨?_, by rw [mu_row (show 171 ≠ 176 by omega)]; exact hs⟩
    have e : 474 * (nN m - 1) + nN i = nN (474 * (m - 1) + i) := by rw [l1, nN_sub hm, l474, nN_mul, nN_add]
    have hlt : 474 * (m - 1) ≤ 474 * 11 := Nat.mul_le_mul_left 474 (by omega)
    simp (disch := omega) only [L_X12_remembers_55, L_X12_remembers_11, J_X12_remembers_53, l474, le_f, if_false, hs]
    rw [← l474, e]
    simp (disch := omega) only [le_f, le_t, lt_f, lt_t, if_false, if_true, bnd_s, ite_bI, ok_bI, ok_0, ok_1, ltM_s, nN_s, Option.map_some, inb_nN, ix_nN, it_t, it_f, true_or, or_true, Nat.zero_add]
  · intro s _
    simp (disch := omega) only [L_X12_remembers_55, L_X12_remembers_11, J_X12_remembers_53, l474, le_f, le_t, lt_f, lt_t, if_false, if_true, bnd_s, ite_bI, ok_bI, ok_0, ok_1, ltM_s, nN_s, Option.map_some, inb_nN, ix_nN, it_t, it_f, true_or, or_true]
theorem e_remembers {σ : MS} {n c : Nat} (hn : 6000 ≤ n) (hc : c ≤ 12) (h : σ 171 7 = nN c) : ∃ τ, f_X12_remembers n σ = some (0, τ) ∧ MRem σ τ c := by
  unfold f_X12_remembers
  simp only [h]
  by_cases hc12 : c < 12
  · have ec : newC c = c + 1 := if_pos hc12
    rw [l12, it_eq (by omega) (by omega), if_neg (by omega), nN_s, ltM_s]
    have m7 : mu σ 171 7 (nN (c + 1)) 171 7 = nN (c + 1) := by rw [mu_own]; rfl
    rw [J_mrem hn (by omega) (by omega) m7]
    refine ⟨_, rfl, ?_⟩
    unfold MRem
    rw [ec]
    refine ⟨?_, ?_, ?_, ?_, ?_⟩
    · rw [rsw_row (by omega)]
      exact m7
    · intro k hk
      rw [rsw_row (by omega), mu_at, if_neg (by omega)]
    · intro o h1 h2
      rw [rsw_row h2, mu_row h1]
    · intro k hk
      rw [rsw_own]
      rw [if_pos (by omega), mu_row (show 172 ≠ 171 by omega)]
      congr 1
      omega
    · intro i k hi hk
      rw [rsw_own, if_neg (by omega), mu_row (show 176 ≠ 171 by omega)]
      congr 1
      omega
  · have e12 : c = 12 := by omega
    subst e12
    have ec : newC 12 = 12 := if_neg (by omega)
    rw [l12, it_eq (by omega) (by omega), if_pos rfl]
    have l5214 : (5214 : Int32) = nN 5214 := rfl
    have key : itr (L_X12_remembers_11 n σ) n (0, σ) = some (0, rsw (fR 5214 (fun i s => mu s 176 i (s 176 (i + 474))) σ) 176 (fun k => if 474 * (12 - 1) ≤ k ∧ k < 474 * (12 - 1) + 474 then (fR 5214 (fun i s => mu s 176 i (s 176 (i + 474))) σ) 172 (0 + (k - 474 * (12 - 1))) else (fR 5214 (fun i s => mu s 176 i (s 176 (i + 474))) σ) 176 k)) := by
      refine itr_0P (fun (s : MS) i => (i, s)) 5214 (fun i s => mu s 176 i (s 176 (i + 474))) (fun s => ((0 : Int32), rsw s 176 (fun k => if 474 * (12 - 1) ≤ k ∧ k < 474 * (12 - 1) + 474 then s 172 (0 + (k - 474 * (12 - 1))) else s 176 k))) (fun _ s => s 171 7 = nN 12) (by omega) σ h ?_ ?_
      · intro i s hi hs
        refine ⟨?_, by rw [mu_row (show 171 ≠ 176 by omega)]; exact hs⟩
        simp (disch := omega) only [L_X12_remembers_11, l5214, l474, nN_add, le_f, le_t, lt_f, lt_t, if_false, if_true, bnd_s, ite_bI, ok_bI, ok_0, ok_1, ltM_s, nN_s, Option.map_some, inb_nN, ix_nN, it_t, it_f, true_or, or_true]
      · intro s hs
        simp (disch := omega) only [L_X12_remembers_11, l5214, le_t, if_true]
        rw [J_mrem hn (by omega) (by omega) hs]
        rfl
    rw [key, sh_fold (by omega)]
    refine ⟨_, rfl, ?_⟩
    unfold MRem
    rw [ec]
    refine ⟨?_, ?_, ?_, ?_, ?_⟩
    · rw [rsw_row (by omega), rsw_row (by omega)]
      exact h
    · intro k hk
      rw [rsw_row (by omega), rsw_row (by omega)]
    · intro o h1 h2
      rw [rsw_row h2, rsw_row h2]
    · intro k hk
      rw [rsw_own]
      rw [if_pos (by omega), rsw_row (show 172 ≠ 176 by omega)]
      rw [show 0 + (474 * (12 - 1) + k - 474 * (12 - 1)) = k by omega]
    · intro i k hi hk
      rw [rsw_own, if_neg (by omega), rsw_own, if_pos (by omega)]
      rw [show 474 * i + k + 474 = 474 * (i + (12 + 1 - 12)) + k by omega]
/-- nothing that counts has changed but the house -/
def OffH (s t : MS) : Prop := (∀ o, es o = true → (o < 3 ∨ 11 < o) → t o = s o) ∧ t 1 1 = s 1 1 ∧ t 171 6 = s 171 6 ∧ t 171 7 = s 171 7 ∧ t 171 9 = s 171 9 ∧ t 171 14 = s 171 14
/-- nothing that counts has changed but the world -/
def OffW (s t : MS) : Prop := (∀ o, es o = true → o ≠ 172 → t o = s o) ∧ (∀ k, k < 1323 → (k = 2 ∨ 474 ≤ k) → t 172 k = s 172 k) ∧ t 1 1 = s 1 1 ∧ t 171 6 = s 171 6 ∧ t 171 7 = s 171 7 ∧ t 171 9 = s 171 9 ∧ t 171 14 = s 171 14
theorem Inv_act {j a c : Nat} {σ τ1 τ3 τ4 υ : MS} (hI : Inv j σ) (ha : a < 12) (hc : c ≤ 12) (h15 : σ 0 15 = nN a) (h16 : σ 0 16 = nN c)
    (h1 : Rem σ τ1 a c) (h2 : OffH τ1 τ3) (h4 : MRem τ3 τ4 c) (h5 : OffW τ4 υ) (hHR : HR (rows υ 3) (υ 172) (3840 * (j + 1))) : Inv (j + 1) υ := by
  obtain ⟨r1, r2, r3, r4, r5, r6⟩ := h1
  obtain ⟨a1, a2, a3, a4, a5, a6⟩ := h2
  obtain ⟨m1, m2, m3, m4, m5⟩ := h4
  obtain ⟨w1, w2, w3, w4, w5, w6, w7⟩ := h5
  have hA : newA a c < 12 := by
    unfold newA
    split
    · exact ha
    · exact Nat.mod_lt _ (by omega)
  have hC : 1 ≤ newC c ∧ newC c ≤ 12 ∧ newC c ≤ c + 1 := by
    unfold newC
    split <;> omega
  have hp := Nat.mod_lt (newA a c + newC c - 1) (show 0 < 12 by omega)
  -- a row that counts, from the end back to the beginning
  have back : ∀ o, es o = true → o ≠ 172 → o ≠ 176 → (o < 3 ∨ 11 < o) → υ o = τ1 o := by
    intro o ho n1 n2 n3
    rw [w1 o ho n1, m3 o (by intro h; rw [h] at ho; revert ho; decide) n2, a1 o ho n3]
  have back2 : ∀ o, es o = true → o ≠ 172 → o ≠ 176 → o ≠ 0 → (o < 3 ∨ 11 < o) → (o < 63 ∨ 170 < o) → υ o = σ o := by
    intro o ho n1 n2 n3 n4 n5
    rw [back o ho n1 n2 n4, r6 o n3 (by omega)]
  have v0 : υ 0 = τ1 0 := back 0 (es_t (by omega)) (by omega) (by omega) (by omega)
  have v172 : ∀ k, k < 1323 → (k = 2 ∨ 474 ≤ k) → υ 172 k = σ 172 k := by
    intro k hk hk2
    rw [w2 k hk hk2, m3 172 (by omega) (by omega), a1 172 (es_t (by omega)) (by omega), r6 172 (by omega) (by omega)]
  have t172 : τ3 172 = σ 172 := by rw [a1 172 (es_t (by omega)) (by omega), r6 172 (by omega) (by omega)]
  have t176 : τ3 176 = σ 176 := by rw [a1 176 (es_t (by omega)) (by omega), r6 176 (by omega) (by omega)]
  obtain ⟨i1, i2, i3, ⟨a', c', k1, k2, k3, k4, k5, k6⟩, ⟨L, l1, l2, l3, l4⟩, i6⟩ := hI
  have ea : a' = a := by
    rw [k3, nN_eq (by omega) (by omega)] at h15
    exact h15
  have ec : c' = c := by
    rw [k4, nN_eq (by omega) (by omega)] at h16
    exact h16
  subst ea
  subst ec
  refine ⟨hHR, ?_, ?_, ⟨newA a' c', newC c', hA, hC.2.1, by rw [v0]; exact r1, by rw [v0]; exact r2, by rw [w5]; exact m1, ?_⟩, ⟨L, l1, ?_, ?_, ?_⟩, ?_⟩
  · exact LWR_same i2 (fun k hk => back2 (30 + k) (es_t (by omega)) (by omega) (by omega) (by omega) (by omega) (by omega)) v172
  · have e17 : υ 0 17 = σ 0 17 := by rw [v0, r3 17 (by omega) (by omega)]
    have e6 : υ 171 6 = σ 171 6 := by rw [w4, m2 6 (by omega), a3, r6 171 (by omega) (by omega)]
    have e173 : υ 173 = σ 173 := back2 173 (es_t (by omega)) (by omega) (by omega) (by omega) (by omega) (by omega)
    rw [e17, e6, e173]
    rcases i3 with h | ⟨p1, p2, p3, p4⟩
    · exact Or.inl h
    · refine Or.inr ⟨p1, p2, HR_mono (HR_same p3 (fun k hk => back2 (21 + k) (es_t (by omega)) (by omega) (by omega) (by omega) (by omega) (by omega)) (fun _ _ => rfl)) (by omega), LWR_same p4 (fun k hk => back2 (44 + k) (es_t (by omega)) (by omega) (by omega) (by omega) (by omega) (by omega)) (fun _ _ _ => rfl)⟩
  · intro i hi
    have hm := Nat.mod_lt (newA a' c' + i) (show 0 < 12 by omega)
    have e176 : υ 176 = τ4 176 := w1 176 (es_t (by omega)) (by omega)
    have e2 : υ 172 2 = σ 172 2 := v172 2 (by omega) (by omega)
    by_cases hlast : i + 1 = newC c'
    · -- the newest
      have ei : (newA a' c' + i) % 12 = (newA a' c' + newC c' - 1) % 12 := by
        congr 1
        omega
      rw [ei]
      refine ⟨?_, ?_⟩
      · refine HR_mono (HR_same2 i1 ?_ ?_ ?_) (by omega)
        · intro k x hk hx
          show υ (63 + 9 * ((newA a' c' + newC c' - 1) % 12) + k) x = σ (3 + k) x
          rw [back _ (es_t (by omega)) (by omega) (by omega) (by omega)]
          exact r4 k x hk hx
        · intro x hx
          show υ (63 + 9 * ((newA a' c' + newC c' - 1) % 12) + 8) x = σ (3 + 8) x
          rw [back _ (es_t (by omega)) (by omega) (by omega) (by omega)]
          exact r5 x hx
        · intro k hk
          have hii : i = newC c' - 1 := by omega
          show υ 176 (474 * i + k) = σ 172 k
          rw [e176, hii, m4 k hk, t172]
      · have hii : i = newC c' - 1 := by omega
        rw [e176, e2, hii, m4 2 (by omega), t172]
    · -- an older one
      have hold : i + (c' + 1 - newC c') < c' := by omega
      obtain ⟨q1, q2⟩ := k6 (i + (c' + 1 - newC c')) hold
      have eidx : (newA a' c' + i) % 12 = (a' + (i + (c' + 1 - newC c'))) % 12 := by
        unfold newA newC
        by_cases d : c' < 12
        · rw [if_pos d, if_pos d]
          congr 1
          omega
        · rw [if_neg d, if_neg d]
          omega
      have hne : (newA a' c' + i) % 12 ≠ (newA a' c' + newC c' - 1) % 12 := by omega
      rw [eidx]
      rw [eidx] at hne hm
      refine ⟨?_, ?_⟩
      · refine HR_mono (HR_same q1 ?_ ?_) (by omega)
        · intro k hk
          show υ (63 + 9 * ((a' + (i + (c' + 1 - newC c'))) % 12) + k) = σ (63 + 9 * ((a' + (i + (c' + 1 - newC c'))) % 12) + k)
          rw [back _ (es_t (by omega)) (by omega) (by omega) (by omega), r6 _ (by omega) (by omega)]
        · intro k hk
          show υ 176 (474 * i + k) = σ 176 (474 * (i + (c' + 1 - newC c')) + k)
          rw [e176, m5 i k (by omega) hk, t176]
      · rw [e176, e2, m5 i 2 (by omega) (by omega), t176]
        exact q2
  · rw [w3, m3 1 (by omega) (by omega), a2, r6 1 (by omega) (by omega)]
    exact l2
  · rw [w6, m2 9 (by omega), a5, r6 171 (by omega) (by omega)]
    exact l3
  · intro i hi
    rw [back2 2 (es_t (by omega)) (by omega) (by omega) (by omega) (by omega) (by omega), back2 177 (es_t (by omega)) (by omega) (by omega) (by omega) (by omega) (by omega)]
    exact l4 i hi
  · rw [v0, r3 18 (by omega) (by omega), w7, m2 14 (by omega), a6, r6 171 (by omega) (by omega)]
    exact i6
