/-! layer 2: wash, go, clear, wed, strew -/
theorem HR_upd {H H' : Nat → Nat → Int32} {w w' : Nat → Int32} {B : Nat} (h : HR H w B) (hV : hvr H' = rv w') (hG : ∃ N, GV (rv w') N) (h7 : w' 7 = w 7) (h8 : w' 8 = w 8) (hR : ∀ i, i < 60 → H' 8 i = H 8 i) (hw : ∀ k, 234 ≤ k → k < 474 → w' k = w k) : HR H' w' B := by
  obtain ⟨h1, N, f, h2, h3, h4, h5, h6⟩ := h
  obtain ⟨N', hN'⟩ := hG
  refine ⟨hV, N', f, hN', by rw [h7]; exact h3, h4, by rw [h8]; exact h5, ?_⟩
  intro ago ha hb
  obtain ⟨d, a, b, r, c1, c2, c3, c4, c5, c6, c7, c8, c9⟩ := h6 ago ha hb
  exact ⟨d, a, b, r, c1, c2, c3, c4, by rw [hR _ (Nat.mod_lt _ (by omega))]; exact c5, by rw [hw _ (by omega) (by omega)]; exact c6, by rw [hw _ (by omega) (by omega)]; exact c7, by rw [hw _ (by omega) (by omega)]; exact c8, by rw [hw _ (by omega) (by omega)]; exact c9⟩
theorem Rem_keep {σ τ : MS} {a c o : Nat} (h : Rem σ τ a c) (ho : o ≠ 0) (h2 : o < 63 ∨ 170 < o) : τ o = σ o := by
  have hp := Nat.mod_lt (newA a c + newC c - 1) (show 0 < 12 by omega)
  exact h.2.2.2.2.2 o ho (by omega)
theorem act_fin {j a c : Nat} {σ τ1 t2 τ4 υ : MS} {v : Int32} (hI : Inv j σ) (ha : a < 12) (hc : c ≤ 12) (h15 : σ 0 15 = nN a) (h16 : σ 0 16 = nN c) (h1 : Rem σ τ1 a c) (h2 : ∀ o, (o < 3 ∨ 11 < o) → t2 o = τ1 o) (h8 : t2 11 = τ1 11) (h4 : MRem (mu (mu t2 183 0 v) 171 0 0) τ4 c) (h5 : ∀ o, o ≠ 172 → υ o = τ4 o) (h6 : ∀ k, (k = 2 ∨ k = 7 ∨ k = 8 ∨ 234 ≤ k) → υ 172 k = τ4 172 k) (hV : hv t2 3 = rv (υ 172)) (hG : ∃ N, GV (rv (υ 172)) N) : υ 171 0 = 0 ∧ υ 183 0 = v ∧ Inv (j + 1) υ := by
  have q171 : ∀ k, k ≠ 7 → υ 171 k = (mu (mu t2 183 0 v) 171 0 0) 171 k := fun k hk => by rw [h5 171 (by omega), h4.2.1 k hk]
  have qrow : ∀ o, o ≠ 172 → o ≠ 171 → o ≠ 176 → υ o = (mu (mu t2 183 0 v) 171 0 0) o := fun o n1 n2 n3 => by rw [h5 o n1, h4.2.2.1 o n2 n3]
  refine ⟨by rw [q171 0 (by omega), mu_own]; rfl, by rw [qrow 183 (by omega) (by omega) (by omega), mu_row (by omega), mu_own]; rfl, ?_⟩
  refine Inv_act (τ3 := mu (mu t2 183 0 v) 171 0 0) hI ha hc h15 h16 h1 ?_ h4 ?_ ?_
  · refine ⟨?_, ?_, ?_, ?_, ?_, ?_⟩
    · intro o ho h3
      have n1 : o ≠ 171 := by intro h; rw [h] at ho; revert ho; decide
      have n2 : o ≠ 183 := by intro h; rw [h] at ho; revert ho; decide
      rw [mu_row n1, mu_row n2, h2 o h3]
    · rw [mu_row (by omega), mu_row (by omega), h2 1 (by omega)]
    · rw [mu_at, if_neg (by omega), mu_row (by omega), h2 171 (by omega)]
    · rw [mu_at, if_neg (by omega), mu_row (by omega), h2 171 (by omega)]
    · rw [mu_at, if_neg (by omega), mu_row (by omega), h2 171 (by omega)]
    · rw [mu_at, if_neg (by omega), mu_row (by omega), h2 171 (by omega)]
  · refine ⟨fun o _ hn => h5 o hn, fun k hk hk2 => h6 k (by omega), by rw [h5 1 (by omega)], by rw [h5 171 (by omega)], by rw [h5 171 (by omega)], by rw [h5 171 (by omega)], by rw [h5 171 (by omega)]⟩
  · have e172 : τ4 172 = σ 172 := by rw [h4.2.2.1 172 (by omega) (by omega), mu_row (by omega), mu_row (by omega), h2 172 (by omega), Rem_keep h1 (by omega) (by omega)]
    have hh : ∀ k, k < 9 → υ (3 + k) = t2 (3 + k) := by
      intro k hk
      rw [qrow (3 + k) (by omega) (by omega) (by omega), mu_row (by omega), mu_row (by omega)]
    refine HR_mono (HR_upd hI.1 ?_ hG ?_ ?_ ?_ ?_) (by omega)
    · have : hv υ 3 = hv t2 3 := hv_rows (fun k hk => hh k (by omega))
      rw [← hV, ← this]
      rfl
    · rw [h6 7 (by omega), e172]
    · rw [h6 8 (by omega), e172]
    · intro i hi
      show υ (3 + 8) i = σ (3 + 8) i
      rw [hh 8 (by omega)]
      show t2 11 i = σ 11 i
      rw [h8, Rem_keep h1 (by omega) (by omega)]
    · intro k k1 k2
      rw [h6 k (by omega), e172]
theorem s_act {j : Nat} {σ : MS} (hI : Inv j σ) (A : Option (Int32 × MS)) (M : MS → Option (Int32 × MS))
    (h : (∃ v t2 υ, A = some (0, mu t2 183 0 v) ∧ M (mu t2 183 0 v) = some (v, υ) ∧ υ 171 0 = 0 ∧ υ 183 0 = v ∧ Inv (j + 1) υ) ∨ (∃ c b, c ≠ 0 ∧ A = some (c, σ) ∧ M σ = some (b, mu (mu σ 171 0 0) 171 0 c))) :
    ∃ τ, (A.bind (fun q => (M q.2).bind (fun m => cmpL q.1 m))) = some τ ∧ Inv (j + 1) τ := by
  rcases h with ⟨v, t2, υ, h1, h2, h3, h4, h5⟩ | ⟨c, b, h0, h1, h2⟩
  · rw [h1]
    simp only [bnd_s, h2]
    exact ⟨υ, cmp_ok h3 (fun _ => h4), h5⟩
  · rw [h1]
    simp only [bnd_s, h2]
    obtain ⟨a1, a2⟩ := sm_ex σ c
    exact q_step hI a1 a2 (fun h => absurd h h0)
theorem Rem_g {σ τ : MS} {a c N : Nat} (h : Rem σ τ a c) (g : GH σ 3 N) : hv τ 3 = hv σ 3 ∧ GH τ 3 N := by
  have e : hv τ 3 = hv σ 3 := hv_rows (fun k hk => Rem_keep h (by omega) (by omega))
  exact ⟨e, by unfold GH; rw [e]; exact g⟩
theorem Inv_past {j : Nat} {σ : MS} (h : Inv j σ) : ∃ a c, a < 12 ∧ c ≤ 12 ∧ σ 0 15 = nN a ∧ σ 0 16 = nN c ∧ σ 171 7 = nN c := by
  obtain ⟨a, c, k1, k2, k3, k4, k5, -⟩ := h.2.2.2.1
  exact ⟨a, c, k1, k2, k3, k4, k5⟩
/-- the reference, about to remember -/
theorem pre_mrem {σ τ1 t2 : MS} {a c N n : Nat} {v : Int32} (hn : 6000 ≤ n) (hc : c ≤ 12) (h1 : Rem σ τ1 a c) (h2 : ∀ o, (o < 3 ∨ 11 < o) → t2 o = τ1 o) (h7 : σ 171 7 = nN c) (gw : GW σ N) :
    GW (mu (mu t2 183 0 v) 171 0 0) N ∧ ∃ τ4, f_X12_remembers n (mu (mu t2 183 0 v) 171 0 0) = some (0, τ4) ∧ MRem (mu (mu t2 183 0 v) 171 0 0) τ4 c ∧ τ4 172 = σ 172 := by
  have r172 : mu (mu t2 183 0 v) 171 0 0 172 = σ 172 := by rw [mu_row (by omega), mu_row (by omega), h2 172 (by omega), Rem_keep h1 (by omega) (by omega)]
  have r7 : mu (mu t2 183 0 v) 171 0 0 171 7 = nN c := by rw [mu_at, if_neg (by omega), mu_row (by omega), h2 171 (by omega), Rem_keep h1 (by omega) (by omega)]; exact h7
  obtain ⟨τ4, h3, h4⟩ := e_remembers hn hc r7
  exact ⟨gw.row r172, τ4, h3, h4, by rw [h4.2.2.1 172 (by omega) (by omega), r172]⟩
