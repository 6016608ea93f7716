/-! layer 2: share, would -/
theorem act_fin2 {j a c : Nat} {σ τ1 t2 τ4 υ : MS} {v : Int32} (hI : Inv j σ) (ha : a < 12) (hc : c ≤ 12) (h15 : σ 0 15 = nN a) (h16 : σ 0 16 = nN c) (h1 : Rem σ τ1 a c) (h2 : ∀ o, es o = true → (o < 3 ∨ 11 < o) → t2 o = τ1 o) (h2a : t2 1 = τ1 1) (h2b : t2 171 = τ1 171) (h4 : MRem (mu (mu t2 183 0 v) 171 0 0) τ4 c) (h5 : ∀ o, es o = true → o ≠ 172 → υ o = τ4 o) (h5a : υ 1 = τ4 1) (h5b : υ 183 = τ4 183) (h5c : ∀ k, k < 18 → υ 171 k = τ4 171 k) (h6 : ∀ k, k < 1323 → (k = 2 ∨ 474 ≤ k) → υ 172 k = τ4 172 k) (hHR : HR (rows t2 3) (υ 172) (3840 * (j + 1))) : υ 171 0 = 0 ∧ υ 183 0 = v ∧ Inv (j + 1) υ := by
  refine ⟨by rw [h5c 0 (by omega), h4.2.1 0 (by omega), mu_own]; rfl, by rw [h5b, h4.2.2.1 183 (by omega) (by omega), mu_row (by omega), mu_own]; rfl, ?_⟩
  refine Inv_act (τ3 := mu (mu t2 183 0 v) 171 0 0) hI ha hc h15 h16 h1 ?_ h4 ?_ ?_
  · refine ⟨?_, ?_, ?_, ?_, ?_, ?_⟩
    · intro o ho h3
      have n1 : o ≠ 171 := by intro h; rw [h] at ho; revert ho; decide
      have n2 : o ≠ 183 := by intro h; rw [h] at ho; revert ho; decide
      rw [mu_row n1, mu_row n2, h2 o ho h3]
    · rw [mu_row (by omega), mu_row (by omega), h2a]
    · rw [mu_at, if_neg (by omega), mu_row (by omega), h2b]
    · rw [mu_at, if_neg (by omega), mu_row (by omega), h2b]
    · rw [mu_at, if_neg (by omega), mu_row (by omega), h2b]
    · rw [mu_at, if_neg (by omega), mu_row (by omega), h2b]
  · exact ⟨fun o ho hn => h5 o ho hn, fun k hk hk2 => h6 k hk hk2, by rw [h5a], h5c 6 (by omega), h5c 7 (by omega), h5c 9 (by omega), h5c 14 (by omega)⟩
  · refine HR_same hHR (fun k hk => ?_) (fun _ _ => rfl)
    show υ (3 + k) = t2 (3 + k)
    rw [h5 (3 + k) (es_t (by omega)) (by omega), h4.2.2.1 (3 + k) (by omega) (by omega), mu_row (by omega), mu_row (by omega)]
theorem pre_mrem2 {σ τ1 t2 : MS} {a c N n : Nat} {v : Int32} (hn : 6000 ≤ n) (hc : c ≤ 12) (h1 : Rem σ τ1 a c) (h2 : t2 172 = τ1 172) (h2b : t2 171 = τ1 171) (h7 : σ 171 7 = nN c) (gw : GW σ N) :
    GW (mu (mu t2 183 0 v) 171 0 0) N ∧ ∃ τ4, f_X12_remembers n (mu (mu t2 183 0 v) 171 0 0) = some (0, τ4) ∧ MRem (mu (mu t2 183 0 v) 171 0 0) τ4 c ∧ τ4 172 = σ 172 := by
  have r172 : mu (mu t2 183 0 v) 171 0 0 172 = σ 172 := by rw [mu_row (by omega), mu_row (by omega), h2, Rem_keep h1 (by omega) (by omega)]
  have r7 : mu (mu t2 183 0 v) 171 0 0 171 7 = nN c := by rw [mu_at, if_neg (by omega), mu_row (by omega), h2b, Rem_keep h1 (by omega) (by omega)]; exact h7
  obtain ⟨τ4, h3, h4⟩ := e_remembers hn hc r7
  exact ⟨gw.row r172, τ4, h3, h4, by rw [h4.2.2.1 172 (by omega) (by omega), r172]⟩
theorem set_of (x : Int32) {N : Nat} (hN : N ≤ 8) : ∃ set, set < 2 ^ N ∧ x &&& nN (2 ^ N - 1) = nN set := by
  have hp := p28 hN
  have hpos := Nat.pow_pos (n := N) (show 0 < 2 by omega)
  refine ⟨(x &&& nN (2 ^ N - 1)).toBitVec.toNat, ?_, ?_⟩
  · rw [Int32.toBitVec_and, BitVec.toNat_and]
    have : (nN (2 ^ N - 1)).toBitVec.toNat = 2 ^ N - 1 := by
      rw [nN_bv, BitVec.toNat_ofNat]
      exact Nat.mod_eq_of_lt (by omega)
    rw [this]
    exact Nat.lt_of_le_of_lt Nat.and_le_right (by omega)
  · unfold nN
    rw [Int32.ofNat_bitVecToNat, Int32.ofBitVec_toBitVec]
def cupB (set : Nat) (y : Int32) : Bool := decide (2 ≤ bc set) && decide ((0 : Int32) ≤ y ∧ y ≤ 3)
theorem e_needCup {σ : MS} {N set : Nat} {x : Int32} (g : GH σ 3 N) (hs : set < 2 ^ N) (hx : x &&& nN (2 ^ N - 1) = nN set) (y : Int32) : f_X11_needCup x y σ = some (if cupB set y = true then .inl 0 else .inr 1, σ) := by
  have h8 := g.le8
  have hp := p28 h8
  have hb := bc_le set
  have e2 : decide ((2 : Int32) ≤ nN (bc set) ∧ nN (bc set) ≤ 8) = decide (2 ≤ bc set) := by
    apply decide_eq_decide.mpr
    rw [l2, l8, nN_le (by omega) (by omega), nN_le (by omega) (by omega)]
    omega
  simp only [f_X11_needCup, e_X4_everybody g, bnd_s, hx, e_bc σ (show set < 256 by omega), e_needNumber, e2]
  unfold cupB
  cases decide (2 ≤ bc set)
  · simp only [Bool.false_eq_true, if_false, thn_r, Bool.false_and]
  · simp only [if_true, thn_l, Bool.true_and, e_needNumber]
    cases decide ((0 : Int32) ≤ y ∧ y ≤ 3)
    · simp only [Bool.false_eq_true, if_false, thn_r]
    · simp only [if_true, thn_l]
theorem e_noCup {σ : MS} {N set : Nat} {x : Int32} (g : GW σ N) (hs : set < 2 ^ N) (hx : x &&& nN (2 ^ N - 1) = nN set) (y : Int32) : f_X12_noCup x y σ = some (bI (!cupB set y)) := by
  have h8 := g.le8
  have hp := p28 h8
  have hb := bc_le set
  have e2 : (nN (bc set) < (2 : Int32)) = (bc set < 2) := by rw [l2, nN_lt (by omega) (by omega)]
  simp only [f_X12_noCup, J_X12_noCup_27, J_X12_noCup_22, e_X12_everybody g, bnd_s, hx, e_bc σ (show set < 256 by omega), e_X12_in, e2, ite_bI, ok_0, ok_1, true_or, or_true, if_true]
  unfold cupB
  by_cases c : bc set < 2
  · have : ¬ 2 ≤ bc set := by omega
    simp only [c, if_true, decide_eq_false this, Bool.false_and]
    rfl
  · have : 2 ≤ bc set := by omega
    simp only [c, if_false, decide_eq_true this, Bool.true_and]
    cases decide ((0 : Int32) ≤ y ∧ y ≤ 3) <;> rfl
theorem cup_t {set : Nat} {y : Int32} (h : cupB set y = true) : ∃ k, k ≤ 3 ∧ y = nN k := by
  unfold cupB at h
  rw [Bool.and_eq_true] at h
  exact in_k (m := 3) (by omega) h.2
theorem s_9 {j n : Nat} {σ : MS} {x1 x2 x3 x4 x5 : Int32} (hn : 6000 ≤ n) (hI : Inv j σ) : ∃ τ, step_9 n x1 x2 x3 x4 x5 σ = some τ ∧ Inv (j + 1) τ := by
  obtain ⟨N, e, gh, gw⟩ := Inv_v hI
  have h8 := gw.le8
  obtain ⟨a, c, ha, hc, h15, h16, h7⟩ := Inv_past hI
  obtain ⟨S, hS⟩ := law_is hn hI.2.1
  obtain ⟨set, hset, hx⟩ := set_of x1 h8
  have hp28 := p28 h8
  unfold step_9
  refine s_act hI (f_L_share n x1 x2 σ) (fun s => f_X12_share n x1 x2 s) ?_
  cases hcup : cupB set x2
  · right
    refine ⟨1, 0, by decide, ?_, ?_⟩
    · simp only [f_L_share, f_X11_share, e_needCup gh hset hx, hcup, thn_l, thn_r, ltM_s, bnd_s, if_true, if_false, Bool.false_eq_true, Nat.reduceEqDiff, Nat.one_ne_zero]
    · simp only [f_X12_share, e_noCup (g_thr gw) hset hx, hcup, ltM_s, bnd_s, e_X12_throwsIf, thr_1, thr_0, ite_bI, if_true, if_false, Bool.false_eq_true, Bool.not_true, Bool.not_false, one_ne0]
  · left
    obtain ⟨k, hk, rfl⟩ := cup_t hcup
    obtain ⟨τ1, hr1, hr⟩ := e_remember ha hc h15 h16
    obtain ⟨ev, gh1⟩ := Rem_g hr gh
    obtain ⟨t2, a1, a2, a3, a4⟩ := e_pour (s := τ1) (k := k) hn hS (fun k hk => Rem_keep hr (by omega) (by omega)) gh1 (show set < 256 by omega) hk true
    rw [ev, e] at a1 a2 a3
    generalize hAn : (pU N (shG S set k (nN (bc set)) true) (0, rv (σ 172))) = An at a1 a2 a3
    have t172 : t2 172 = τ1 172 := a4 172 (by omega) (by omega) (Or.inr (by omega))
    have t171 : t2 171 = τ1 171 := a4 171 (by omega) (by omega) (Or.inr (by omega))
    obtain ⟨gw', τ4, hm1, hm2, hm3⟩ := pre_mrem2 (t2 := t2) (v := nN An.1) hn hc hr t172 t171 h7 gw
    obtain ⟨υ, b1, b2, b3, b4, b5, b6⟩ := m_shares (s := τ4) (N := N) (set := set) (k := k) hn hS (fun k _ _ => by rw [hm3]) (gw.row hm3) (show set < 256 by omega) hk
    rw [hm3, hAn] at b1 b2 b3
    have hfin := act_fin2 (υ := υ) (v := nN An.1) hI ha hc h15 h16 hr
      (fun o ho h3 => a4 o (by rintro rfl; revert ho; decide) (by rintro rfl; revert ho; decide) (Or.inr (by omega)))
      (a4 1 (by omega) (by omega) (Or.inr (by omega))) t171 hm2
      (fun o ho hn => b4 o (by rintro rfl; revert ho; decide) hn (by rintro rfl; revert ho; decide)) (b4 1 (by omega) (by omega) (by omega)) (b4 183 (by omega) (by omega) (by omega))
      (fun k hk => b5 k (by omega)) (fun k _ hk => b6 k (by omega))
      (HR_mono (HR_upd hI.1 (show hvr (rows t2 3) = rv (υ 172) by rw [b2, ← a2]; rfl) ⟨N, by rw [b2]; exact b3⟩ (by rw [b6 7 (by omega), hm3]) (by rw [b6 8 (by omega), hm3])
        (fun i hi => by
          show t2 11 i = σ 11 i
          rw [a4 11 (by omega) (by omega) (Or.inr (by omega)), Rem_keep hr (by omega) (by omega)])
        (fun k k1 k2 => by rw [b6 k (by omega), hm3])) (by omega))
    refine ⟨nN An.1, t2, υ, ?_, ?_, hfin.1, hfin.2.1, hfin.2.2⟩
    · have b1' : (1 : Int32) = bI true := rfl
      simp only [f_L_share, f_X11_share, e_needCup gh hset hx, hcup, hr1, e_X4_everybody gh1, hx, thn_l, thn_r, ltM_s, bnd_s, if_true, if_false, Bool.false_eq_true, Nat.reduceEqDiff, Nat.one_ne_zero]
      rw [b1', a1]
      rfl
    · simp only [f_X12_share, e_noCup gw' hset hx, hcup, hm1, e_X12_everybody (gw.row hm3), hx, b1, ltM_s, bnd_s, e_X12_throwsIf, thr_1, thr_0, ite_bI, if_true, if_false, Bool.false_eq_true, Bool.not_true, Bool.not_false, one_ne0]
