theorem s_47 {j n : Nat} {σ : MS} {x1 x2 x3 x4 x5 : Int32} (hn : 6000 ≤ n) (hI : Inv j σ) : ∃ τ, step_47 n x1 x2 x3 x4 x5 σ = some τ ∧ Inv (j + 1) τ := by
  have hI' := hI
  obtain ⟨i1, i2, i3, ⟨a, c, k1, k2, k3, k4, k5, k6⟩, ⟨L, l1', l2, l3, l4⟩, i6⟩ := hI
  unfold step_47
  rcases i3 with ⟨h17, h6⟩ | ⟨h17, h6, p3, p4⟩
  · simp only [f_X11_back, h17, if_true, bnd_s, e_back _ hn, h6]
    exact ⟨_, rfl, Inv_mono (Inv_same hI' (Sm_thr σ 0)) (by omega)⟩
  · obtain ⟨τ1, b1, b2⟩ := e_become σ (h0 := 3) (h1 := 21) (by omega)
    obtain ⟨τ2, c1, c2⟩ := e_lbecome τ1 (h0 := 30) (h1 := 44) (by omega)
    have ecls : f_X11_back σ = some (1, mu τ2 0 16 0) := by
      simp only [f_X11_back, h17, one_ne0, if_false, b1, c1, bnd_s, ltM_s]
    rw [ecls]
    have r171 : mu τ2 0 16 0 171 6 = 1 := by rw [mu_row (by omega), c2.2.2.2 171 (by omega), b2.2.2 171 (by omega)]; exact h6
    simp only [bnd_s, e_back _ hn, r171, one_ne0, if_false, if_true]
    refine ⟨_, rfl, ?_⟩
    have r172 : mu τ2 0 16 0 172 = σ 172 := by rw [mu_row (by omega), c2.2.2.2 172 (by omega), b2.2.2 172 (by omega)]
    have r173 : mu τ2 0 16 0 173 = σ 173 := by rw [mu_row (by omega), c2.2.2.2 173 (by omega), b2.2.2 173 (by omega)]
    rw [r172, r173]
    generalize hυ : mu (rsw (mu (mu τ2 0 16 0) 171 0 0) 172 (fun k => if k < 1323 then σ 173 k else σ 172 k)) 171 7 0 = υ
    have vrow : ∀ o, o ≠ 171 → o ≠ 172 → o ≠ 0 → (o < 3 ∨ 11 < o) → (o < 30 ∨ 34 < o) → υ o = σ o := by
      intro o n1 n2 n3 n4 n5
      rw [← hυ, mu_row n1, rsw_row n2, mu_row n1, mu_row n3, c2.2.2.2 o (by omega), b2.2.2 o (by omega)]
    have v0 : ∀ k, k ≠ 16 → υ 0 k = σ 0 k := by
      intro k hk
      rw [← hυ, mu_row (by omega), rsw_row (by omega), mu_row (by omega), mu_at, if_neg (by omega), c2.2.2.2 0 (by omega), b2.2.2 0 (by omega)]
    have v171 : ∀ k, k ≠ 7 → k ≠ 0 → υ 171 k = σ 171 k := by
      intro k n1 n2
      rw [← hυ, mu_at, if_neg (by omega), rsw_row (by omega), mu_at, if_neg (by omega), mu_row (by omega), c2.2.2.2 171 (by omega), b2.2.2 171 (by omega)]
    have v172 : υ 172 = fun k => if k < 1323 then σ 173 k else σ 172 k := by rw [← hυ, mu_row (by omega), rsw_own]
    refine ⟨?_, ?_, Or.inr ⟨?_, ?_, ?_, ?_⟩, ⟨a, 0, k1, by omega, ?_, ?_, ?_, fun i hi => by omega⟩, ⟨L, l1', ?_, ?_, ?_⟩, ?_⟩
    · refine HR_mono (HR_same2 p3 ?_ ?_ ?_) (by omega)
      · intro k i hk hi
        show υ (3 + k) i = σ (21 + k) i
        rw [← hυ, mu_row (by omega), rsw_row (by omega), mu_row (by omega), mu_row (by omega), c2.2.2.2 (3 + k) (by omega), b2.1 k i hk hi]
      · intro i hi
        show υ (3 + 8) i = σ (21 + 8) i
        rw [← hυ, mu_row (by omega), rsw_row (by omega), mu_row (by omega), mu_row (by omega), c2.2.2.2 (3 + 8) (by omega), b2.2.1 i hi]
      · intro k hk
        rw [v172]
        exact if_pos (by omega)
    · refine LWR_same2 p4 ?_ ?_ ?_ ?_
      · show υ (30 + 0) 0 = σ (44 + 0) 0
        rw [← hυ, mu_row (by omega), rsw_row (by omega), mu_row (by omega), mu_row (by omega)]
        show τ2 30 0 = σ 44 0
        rw [c2.1, b2.2.2 44 (by omega)]
      · intro l hl
        obtain ⟨d1, d2, d3⟩ := c2.2.1 l hl
        refine ⟨?_, ?_, ?_⟩
        · show υ (30 + 1) l = σ (44 + 1) l
          rw [← hυ, mu_row (by omega), rsw_row (by omega), mu_row (by omega), mu_row (by omega), d1, b2.2.2 (44 + 1) (by omega)]
        · show υ (30 + 2) l = σ (44 + 2) l
          rw [← hυ, mu_row (by omega), rsw_row (by omega), mu_row (by omega), mu_row (by omega), d2, b2.2.2 (44 + 2) (by omega)]
        · show υ (30 + 3) l = σ (44 + 3) l
          rw [← hυ, mu_row (by omega), rsw_row (by omega), mu_row (by omega), mu_row (by omega), d3, b2.2.2 (44 + 3) (by omega)]
      · intro i hi
        show υ (30 + 4) i = σ (44 + 4) i
        rw [← hυ, mu_row (by omega), rsw_row (by omega), mu_row (by omega), mu_row (by omega), c2.2.2.1 i hi, b2.2.2 (44 + 4) (by omega)]
      · intro k hk _
        rw [v172]
        exact if_pos (by omega)
    · rw [v0 17 (by omega)]; exact h17
    · rw [v171 6 (by omega) (by omega)]; exact h6
    · rw [vrow 173 (by omega) (by omega) (by omega) (by omega) (by omega)]
      exact HR_mono (HR_same p3 (fun k hk => vrow (21 + k) (by omega) (by omega) (by omega) (by omega) (by omega)) (fun _ _ => rfl)) (by omega)
    · rw [vrow 173 (by omega) (by omega) (by omega) (by omega) (by omega)]
      exact LWR_same p4 (fun k hk => vrow (44 + k) (by omega) (by omega) (by omega) (by omega) (by omega)) (fun _ _ _ => rfl)
    · rw [v0 15 (by omega)]; exact k3
    · rw [← hυ, mu_row (by omega), rsw_row (by omega), mu_row (by omega), mu_own]
      rfl
    · rw [← hυ, mu_own]
      rfl
    · rw [vrow 1 (by omega) (by omega) (by omega) (by omega) (by omega)]; exact l2
    · rw [v171 9 (by omega) (by omega)]; exact l3
    · intro i hi
      rw [vrow 2 (by omega) (by omega) (by omega) (by omega) (by omega), vrow 177 (by omega) (by omega) (by omega) (by omega) (by omega)]
      exact l4 i hi
    · rw [v0 18 (by omega), v171 14 (by omega) (by omega)]; exact i6
