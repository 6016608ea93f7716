/-! layer 2: would -/
theorem kb_row {σ : MS} (s : MS) (h175 : s 175 = fun k => if k < 474 then σ 172 k else σ 175 k) (hw : ∀ k, 474 ≤ k → s 172 k = σ 172 k) : (fun k => if k < 474 then s 175 k else s 172 k) = σ 172 := by
  funext k
  by_cases c : k < 474
  · rw [if_pos c, h175]
    exact if_pos c
  · rw [if_neg c]
    exact hw k (by omega)
theorem s_20 {j n : Nat} {σ : MS} {x1 x2 x3 x4 x5 : Int32} (hn : 6000 ≤ n) (hI : Inv j σ) : ∃ τ, step_20 n x1 x2 x3 x4 x5 σ = some τ ∧ Inv (j + 1) τ := by
  obtain ⟨N, e, gh, gw⟩ := Inv_v hI
  have h8 := gw.le8
  obtain ⟨S, hS⟩ := law_is hn hI.2.1
  obtain ⟨set, hset, hx⟩ := set_of x1 h8
  have hp28 := p28 h8
  unfold step_20
  refine s_act hI (f_L_would n x1 x2 σ) (fun s => f_X12_would n x1 x2 s) ?_
  cases hcup : cupB set x2
  · right
    refine ⟨1, 0, by decide, ?_, ?_⟩
    · simp only [f_L_would, f_X11_would, e_needCup gh hset hx, hcup, thn_l, thn_r, ltM_s, bnd_s, if_true, if_false, Bool.false_eq_true, Nat.reduceEqDiff, Nat.one_ne_zero]
    · simp only [f_X12_would, e_noCup (g_thr gw) hset hx, hcup, ltM_s, bnd_s, e_X12_throwsIf, thr_1, thr_0, ite_bI, if_true, if_false, Bool.false_eq_true, Bool.not_true, Bool.not_false, one_ne0]
  · left
    obtain ⟨k, hk, rfl⟩ := cup_t hcup
    obtain ⟨t2, a1, a2, a3, a4⟩ := e_pour (s := σ) (k := k) hn hS (fun _ _ => rfl) gh (show set < 256 by omega) hk false
    have a4' : ∀ o, o ≠ 35 → o ≠ 36 → t2 o = σ o := fun o o1 o2 => a4 o o1 o2 (Or.inl rfl)
    obtain ⟨s1, s2, s3⟩ := sh_all (S := S) (V0 := hv σ 3) (set := set) (k := k) (many := nN (bc set)) h8
    rw [← s1, e] at a1
    generalize hv1 : nN (pU N (shG S set k (nN (bc set)) true) (0, rv (σ 172))).1 = v at a1
    have st2 := Scr_c a4'
    generalize hm0 : mu (mu t2 183 0 v) 171 0 0 = m0
    have r172 : m0 172 = σ 172 := by rw [← hm0, mu_row (by omega), mu_row (by omega), a4' 172 (by omega) (by omega)]
    generalize hm1 : rsw m0 175 (fun k => if k < 474 then m0 172 k else m0 175 k) = m1
    have r172' : m1 172 = σ 172 := by rw [← hm1, rsw_row (by omega)]; exact r172
    obtain ⟨m2, b1, b2, b3, b4, b5, b6⟩ := m_shares (s := m1) (N := N) (set := set) (k := k) hn hS (fun k _ _ => by rw [r172']) (gw.row r172') (show set < 256 by omega) hk
    rw [r172', hv1] at b1
    have h175 : m2 175 = fun k => if k < 474 then m0 172 k else m0 175 k := by rw [b4 175 (by omega) (by omega) (by omega), ← hm1, rsw_own]
    have hrow := kb_row (σ := m0) m2 h175 (fun k hk => by rw [b6 k (by omega), r172', r172])
    generalize hυ : rsw m2 172 (fun k => if k < 474 then m2 175 k else m2 172 k) = υ
    have hυo : ∀ o, o ≠ 171 → o ≠ 175 → o ≠ 179 → υ o = m0 o := by
      intro o o1 o2 o3
      by_cases c : o = 172
      · rw [c, ← hυ, rsw_own, hrow]
      · rw [← hυ, rsw_row c, b4 o o1 c o3, ← hm1, rsw_row o2]
    have hυ171 : ∀ i, (i < 18 ∨ 21 < i) → υ 171 i = m0 171 i := by
      intro i hi
      rw [← hυ, rsw_row (by omega), b5 i hi, ← hm1, rsw_row (by omega)]
    have hsm : Sm m0 υ := ⟨fun o ho => hυo o (by rintro rfl; revert ho; decide) (by rintro rfl; revert ho; decide) (by rintro rfl; revert ho; decide), by rw [hυo 1 (by omega) (by omega) (by omega)], hυ171 6 (by omega), hυ171 7 (by omega), hυ171 9 (by omega), hυ171 14 (by omega)⟩
    have hfin := scr_fin (v := v) (υ := υ) hI (Scr_Sm st2) (by rw [hm0]; exact hsm) (by rw [hm0]; exact hυ171 0 (by omega)) (by rw [hm0]; exact hυo 183 (by omega) (by omega) (by omega))
    refine ⟨v, t2, υ, ?_, ?_, hfin⟩
    · have b0' : (0 : Int32) = bI false := rfl
      simp only [f_L_would, f_X11_would, e_needCup gh hset hx, hcup, e_X4_everybody gh, hx, thn_l, if_true, bnd_s]
      rw [b0', a1]
      rfl
    · simp only [f_X12_would, ltM_s, hm0, e_noCup (gw.row r172) hset hx, hcup, ltM_s, bnd_s, e_X12_throwsIf, thr_1, thr_0, ite_bI, if_true, if_false, Bool.false_eq_true, Bool.not_true, Bool.not_false, one_ne0, e_keepsAll m0 hn, hm1, e_X12_everybody (gw.row r172'), hx, b1, e_bringsBack m2 hn, hυ]
