/-! layer 2: wed, strew -/
theorem mu_same (σ : MS) (o k : Nat) : mu σ o k (σ o k) = σ := by
  funext a j
  rw [mu_at]
  by_cases c : a = o ∧ j = k
  · rw [if_pos c, c.1, c.2]
  · rw [if_neg c]
theorem s_13 {j n : Nat} {σ : MS} {x1 x2 x3 x4 x5 : Int32} (hn : 6000 ≤ n) (hI : Inv j σ) : ∃ τ, step_13 n x1 x2 x3 x4 x5 σ = some τ ∧ Inv (j + 1) τ := by
  obtain ⟨N, e, gh, gw⟩ := Inv_v hI
  have h8 := gw.le8
  obtain ⟨a, c, ha, hc, h15, h16, h7⟩ := Inv_past hI
  have gw2 : GV (rv (σ 172)) N := gw
  obtain ⟨-, -, -, -, -, -, -, ⟨mt1, mt2⟩, -⟩ := gw2
  have hcases : (∃ t2 υ b, f_L_wed x1 x2 σ = some (0, t2) ∧ f_X12_wed n x1 x2 t2 = some (b, υ) ∧ υ 171 0 = 0 ∧ Inv (j + 1) υ) ∨ (∃ k b, f_L_wed x1 x2 σ = some (k, σ) ∧ f_X12_wed n x1 x2 σ = some (b, mu (mu σ 171 0 0) 171 0 k)) := by
    cases hxy : (isP N x1 && isP N x2)
    · right
      refine ⟨1, 0, ?_, ?_⟩
      · simp only [f_L_wed, f_X11_wed, J_X11_wed_32, e_needTwo gh, hxy, thn_l, thn_r, ltM_s, bnd_s, if_true, if_false, Bool.false_eq_true, Nat.reduceEqDiff, Nat.one_ne_zero]
      · simp only [f_X12_wed, J_X12_wed_68, J_X12_wed_61, J_X12_wed_56, J_X12_wed_30, e_X12_noBoth (g_thr gw), hxy, ltM_s, bnd_s, e_X12_throwsIf, thr_1, thr_0, ite_bI, if_true, if_false, Bool.false_eq_true, Bool.not_true, Bool.not_false, one_ne0]
    · by_cases ce : x1 = x2
      · have c' : (x1 = x2) = True := eq_true ce
        right
        refine ⟨2, 0, ?_, ?_⟩
        · simp only [f_L_wed, f_X11_wed, J_X11_wed_32, e_needTwo gh, hxy, c', thn_l, thn_r, ltM_s, bnd_s, if_true, if_false, Bool.false_eq_true, Nat.reduceEqDiff, Nat.one_ne_zero]
        · simp only [f_X12_wed, J_X12_wed_68, J_X12_wed_61, J_X12_wed_56, J_X12_wed_30, e_X12_noBoth (g_thr gw), hxy, c', ltM_s, bnd_s, e_X12_throwsIf, thr_1, thr_0, ite_bI, if_true, if_false, Bool.false_eq_true, Bool.not_true, Bool.not_false, one_ne0]
      · have hx := hxy
        rw [Bool.and_eq_true] at hx
        obtain ⟨p, hp, rfl⟩ := isP_t hx.1
        obtain ⟨q, hq, rfl⟩ := isP_t hx.2
        have hpq : p ≠ q := fun h => ce (by rw [h])
        have vp : σ 5 p = rv (σ 172) 2 p := by rw [← e]; exact (hv_at (σ := σ) (h := 3) (k := 2) (show p < 8 by omega)).symm
        have vq : σ 5 q = rv (σ 172) 2 q := by rw [← e]; exact (hv_at (σ := σ) (h := 3) (k := 2) (show q < 8 by omega)).symm
        have z1 : ((0 : Int32) ≤ -1) = False := by decide
        rcases mt1 p hp with mp | ⟨mp', mp, mp2, mp3⟩
        · rcases mt1 q hq with mq | ⟨mq', mq, mq2, mq3⟩
          · left
            obtain ⟨τ1, hr1, hr⟩ := e_remember ha hc h15 h16
            obtain ⟨ev, gh1⟩ := Rem_g hr gh
            obtain ⟨t2, ht1, ht2, ht3⟩ := e_X4_marry (σ := τ1) (h := 3) (show p < 8 by omega) (show q < 8 by omega)
            obtain ⟨gw', τ4, hm1, hm2, hm3⟩ := pre_mrem (t2 := t2) (v := t2 183 0) hn hc hr (fun o ho => ht3 o (by omega)) h7 gw
            obtain ⟨υ, hb1, hb2, hb3, hb4⟩ := e_X12_weds (σ := τ4) (show p < 8 by omega) (show q < 8 by omega)
            rw [hm3] at hb2
            have hfin := act_fin (υ := υ) (v := t2 183 0) hI ha hc h15 h16 hr (fun o ho => ht3 o (by omega)) (ht3 11 (by omega)) hm2 hb3 (fun k hk => hb4 k (by omega)) (by rw [ht2, hb2, ev, e]) ⟨N, by rw [hb2]; exact GV_weds gw hp hq hpq mp mq⟩
            rw [mu_same] at gw' hm1
            have r172 : mu t2 171 0 0 172 = σ 172 := by rw [mu_row (by omega), ht3 172 (by omega), Rem_keep hr (by omega) (by omega)]
            refine ⟨t2, υ, 0, ?_, ?_, hfin.1, hfin.2.2⟩
            · simp (disch := omega) only [f_L_wed, f_X11_wed, J_X11_wed_32, e_needTwo gh, hxy, ce, inb_nN, ix_nN, vp, vq, mp, mq, hr1, ht1, thn_l, thn_r, ltM_s, bnd_s, if_true, if_false, Bool.false_eq_true, Nat.reduceEqDiff, Nat.one_ne_zero]
            · simp (disch := omega) only [f_X12_wed, J_X12_wed_68, J_X12_wed_61, J_X12_wed_56, J_X12_wed_30, e_X12_noBoth gw', hxy, ce, e_X12_of1, r172, mp, mq, z1, m1lt0, hm1, hb1, ltM_s, bnd_s, e_X12_throwsIf, thr_1, thr_0, ite_bI, if_true, if_false, Bool.false_eq_true, Bool.not_true, Bool.not_false, one_ne0]
          · right
            refine ⟨3, 0, ?_, ?_⟩
            · simp (disch := omega) only [f_L_wed, f_X11_wed, J_X11_wed_32, e_needTwo gh, hxy, ce, inb_nN, ix_nN, vp, vq, mp, mq, nN_m1, thn_l, thn_r, ltM_s, bnd_s, if_true, if_false, Bool.false_eq_true, Nat.reduceEqDiff, Nat.one_ne_zero]
            · simp (disch := omega) only [f_X12_wed, J_X12_wed_68, J_X12_wed_61, J_X12_wed_56, J_X12_wed_30, e_X12_noBoth (g_thr gw), hxy, ce, e_X12_of1, thr0, mp, mq, z1, nN_lt0, ltM_s, bnd_s, e_X12_throwsIf, thr_1, thr_0, ite_bI, if_true, if_false, Bool.false_eq_true, Bool.not_true, Bool.not_false, one_ne0]
        · right
          refine ⟨3, 0, ?_, ?_⟩
          · simp (disch := omega) only [f_L_wed, f_X11_wed, J_X11_wed_32, e_needTwo gh, hxy, ce, inb_nN, ix_nN, vp, mp, nN_m1, thn_l, thn_r, ltM_s, bnd_s, if_true, if_false, Bool.false_eq_true, Nat.reduceEqDiff, Nat.one_ne_zero]
          · simp (disch := omega) only [f_X12_wed, J_X12_wed_68, J_X12_wed_61, J_X12_wed_56, J_X12_wed_30, e_X12_noBoth (g_thr gw), hxy, ce, e_X12_of1, thr0, mp, nN_0le, ltM_s, bnd_s, e_X12_throwsIf, thr_1, thr_0, ite_bI, if_true, if_false, Bool.false_eq_true, Bool.not_true, Bool.not_false, one_ne0]
  unfold step_13
  rcases hcases with ⟨t2, υ, b, h1, h2, h3, h4⟩ | ⟨k, b, h1, h2⟩
  · rw [h1]
    simp only [bnd_s, h2, f_X12_thrown, h3, if_true]
    exact ⟨υ, rfl, h4⟩
  · obtain ⟨a1, a2⟩ := sm_ex σ k
    rw [h1]
    simp only [bnd_s, h2, f_X12_thrown, a2, if_true]
    exact ⟨_, rfl, Inv_mono (Inv_same hI a1) (by omega)⟩
def strB (t r : Nat) (b : Bool) : Nat := if b = true then t ||| 2 ^ r else t &&& (255 ^^^ 2 ^ r)
theorem str_ok : ∀ t, t < 64 → ∀ r, r < 6 → strB t r true < 64 ∧ strB t r false < 64 ∧ decide (strB t r true = t) = t.testBit r ∧ decide (strB t r false = t) = !t.testBit r := by decide +kernel
theorem str_lt {t r : Nat} (ht : t < 64) (hr : r < 6) (b : Bool) : strB t r b < 64 := by
  obtain ⟨h1, h2, -⟩ := str_ok t ht r hr
  cases b
  · exact h2
  · exact h1
theorem str_eq {t r : Nat} (ht : t < 64) (hr : r < 6) (b : Bool) : (strB t r b = t) = (t.testBit r = b) := by
  obtain ⟨-, -, h3, h4⟩ := str_ok t ht r hr
  cases b
  · apply propext
    constructor
    · intro h
      rw [decide_eq_true h] at h4
      cases hb : t.testBit r
      · rfl
      · rw [hb] at h4
        cases h4
    · intro h
      rw [h] at h4
      exact of_decide_eq_true h4
  · apply propext
    constructor
    · intro h
      rw [decide_eq_true h] at h3
      exact h3.symm
    · intro h
      rw [h] at h3
      exact of_decide_eq_true h3
theorem flr_new {t r : Nat} (ht : t < 64) (hr : r < 6) (b : Bool) : (if b = true then nN t ||| shlI 1 (nN r) else nN t &&& (shlI 1 (nN r) ^^^ -1)) = nN (strB t r b) := by
  have hp : 2 ^ r < 256 := by
    have H : ∀ r, r < 6 → 2 ^ r < 256 := by decide +kernel
    exact H r hr
  rw [shl1 (by omega), nN_or, nN_diff (by omega) hp]
  cases b <;> rfl
theorem flr_f {t r : Nat} (ht : t < 64) (hr : r < 6) : nN t &&& (shlI 1 (nN r) ^^^ -1) = nN (strB t r false) := flr_new ht hr false
theorem flr_t {t r : Nat} (ht : t < 64) (hr : r < 6) : nN t ||| shlI 1 (nN r) = nN (strB t r true) := flr_new ht hr true
theorem a_strew {j n : Nat} {σ : MS} {x1 : Int32} (hn : 6000 ≤ n) (hI : Inv j σ) (b : Bool) : (∃ v t2 υ, (v = 0 ∨ v = 1) ∧ f_L_strew x1 (bI b) σ = some (0, mu t2 183 0 v) ∧ f_X12_strew n x1 (bI b) (mu t2 183 0 v) = some (v, υ) ∧ υ 171 0 = 0 ∧ υ 183 0 = v ∧ Inv (j + 1) υ) ∨ (f_L_strew x1 (bI b) σ = some (1, σ) ∧ f_X12_strew n x1 (bI b) σ = some (0, mu (mu σ 171 0 0) 171 0 1)) := by
  obtain ⟨N, e, gh, gw⟩ := Inv_v hI
  have h8 := gw.le8
  obtain ⟨a, c, ha, hc, h15, h16, h7⟩ := Inv_past hI
  cases hr2 : isR x1
  · right
    refine ⟨?_, ?_⟩
    · simp only [f_L_strew, J_L_strew_16, f_X11_strew, J_X11_strew_59, J_X11_strew_40, e_needRoom, hr2, thn_l, thn_r, ltM_s, bnd_s, if_true, if_false, Bool.false_eq_true, Nat.reduceEqDiff, Nat.one_ne_zero]
    · simp only [f_X12_strew, J_X12_strew_74, J_X12_strew_63, e_X12_noRoom, hr2, ltM_s, bnd_s, e_X12_throwsIf, thr_1, thr_0, ite_bI, if_true, if_false, Bool.false_eq_true, Bool.not_true, Bool.not_false, one_ne0]
  · left
    obtain ⟨r, hr6, rfl⟩ := isR_t hr2
    obtain ⟨τ1, hr1, hr⟩ := e_remember ha hc h15 h16
    obtain ⟨ev, gh1⟩ := Rem_g hr gh
    obtain ⟨hf, hf64⟩ := flN_is (V := rv (σ 172)) gw
    have hfl : τ1 3 2 = nN (flN (rv (σ 172))) := by
      have : τ1 3 2 = hv τ1 3 0 2 := (hv_0 τ1 3 2 (by omega)).symm
      rw [this, ev, e]
      exact hf
    generalize flN (rv (σ 172)) = t at hf hf64 hfl
    have ht3 : ∀ o, o ≠ 3 → (mu τ1 3 2 (nN (strB t r b))) o = τ1 o := fun o ho => mu_row ho
    have ht2 : hv (mu τ1 3 2 (nN (strB t r b))) 3 = vset (rv (σ 172)) 0 2 (nN (strB t r b)) := by rw [← e, ← ev]; exact hv_mu0 (by omega)
    have hlt := str_lt hf64 hr6 b
    have key : ∀ v, ∃ υ, (∃ τ4, f_X12_remembers n (mu (mu (mu τ1 3 2 (nN (strB t r b))) 183 0 v) 171 0 0) = some (0, τ4) ∧ τ4 172 = σ 172 ∧ υ = mu τ4 172 4 (nN (strB t r b))) ∧ υ 171 0 = 0 ∧ υ 183 0 = v ∧ Inv (j + 1) υ := by
      intro v
      obtain ⟨gw', τ4, hm1, hm2, hm3⟩ := pre_mrem (t2 := mu τ1 3 2 (nN (strB t r b))) (v := v) hn hc hr (fun o ho => ht3 o (by omega)) h7 gw
      have hb2 : rv (mu τ4 172 4 (nN (strB t r b)) 172) = vset (rv (σ 172)) 0 2 (nN (strB t r b)) := by
        rw [mu_rset, hm3]
        exact rv_set (k := 0) (i := 2) (by decide)
      refine ⟨mu τ4 172 4 (nN (strB t r b)), ⟨τ4, hm1, hm3, rfl⟩, ?_⟩
      exact act_fin (υ := mu τ4 172 4 (nN (strB t r b))) (v := v) hI ha hc h15 h16 hr (fun o ho => ht3 o (by omega)) (ht3 11 (by omega)) hm2 (fun o ho => mu_row ho) (fun k hk => by rw [mu_at, if_neg (by omega)]) (by rw [ht2, hb2]) ⟨N, by
        rw [hb2]
        have gw2 : GV (rv (σ 172)) N := gw
        obtain ⟨-, b1, b2, b3, b4, b5, -⟩ := gw2
        exact GV_0 gw (fun k i hk => by unfold vset; rw [if_neg (by omega)]) rfl b1 ⟨_, rfl, hlt⟩ b3 b4 b5⟩
    have gwt : ∀ s : MS, s 172 = σ 172 → f_X12_hasFlour (nN r) s = some (bI (t.testBit r)) := by
      intro s hs
      rw [e_X12_hasFlour (gw.row hs) (by omega)]
      unfold flourV
      rw [hs, hf]
      rw [show (nN t).toNatClampNeg = t from ix_nN (by omega)]
    have hrow : ∀ s : MS, s 172 = σ 172 → s 172 4 = nN t := fun s hs => by rw [hs]; exact hf
    obtain ⟨υ, ⟨τ4, k1, k2, k3⟩, k4, k5, k6⟩ := key (bI (!decide (t.testBit r = b)))
    refine ⟨bI (!decide (t.testBit r = b)), mu τ1 3 2 (nN (strB t r b)), υ, bI_ok _, ?_, ?_, k4, k5, k6⟩
    · have m2 : mu τ1 3 2 (nN (strB t r b)) 3 2 = nN (strB t r b) := by rw [mu_own]; rfl
      have hq : (nN (strB t r b) = nN t) = (t.testBit r = b) := by rw [nN_eq (by omega) (by omega)]; exact str_eq hf64 hr6 b
      cases b
      · have b0 : bI false = 0 := rfl
        simp only [f_L_strew, J_L_strew_16, f_X11_strew, J_X11_strew_59, J_X11_strew_40, e_needRoom, hr2, hr1, b0, hfl, flr_f hf64 hr6, m2, hq, ok_0, ok_1, true_or, or_true, thn_l, thn_r, ltM_s, bnd_s, if_true, if_false, Bool.false_eq_true, Nat.reduceEqDiff, Nat.one_ne_zero]
        cases t.testBit r <;> rfl
      · have b1 : (bI true = 0) = False := by decide
        simp only [f_L_strew, J_L_strew_16, f_X11_strew, J_X11_strew_59, J_X11_strew_40, e_needRoom, hr2, hr1, b1, hfl, flr_t hf64 hr6, m2, hq, ok_0, ok_1, true_or, or_true, thn_l, thn_r, ltM_s, bnd_s, if_true, if_false, Bool.false_eq_true, Nat.reduceEqDiff, Nat.one_ne_zero]
        cases t.testBit r <;> rfl
    · have hm4 := hrow τ4 k2
      rw [k3]
      cases b
      · have b0 : bI false = 0 := rfl
        simp only [f_X12_strew, J_X12_strew_74, J_X12_strew_63, e_X12_noRoom, hr2, k1, gwt τ4 k2, hm4, b0, flr_f hf64 hr6, bI_z, ok_0, ok_1, true_or, or_true, ltM_s, bnd_s, e_X12_throwsIf, thr_1, thr_0, ite_bI, if_true, if_false, Bool.false_eq_true, Bool.not_true, Bool.not_false, one_ne0]
        cases t.testBit r <;> rfl
      · have b1 : (bI true = 0) = False := by decide
        simp only [f_X12_strew, J_X12_strew_74, J_X12_strew_63, e_X12_noRoom, hr2, k1, gwt τ4 k2, hm4, b1, flr_t hf64 hr6, ok_0, ok_1, true_or, or_true, ltM_s, bnd_s, e_X12_throwsIf, thr_1, thr_0, ite_bI, if_true, if_false, Bool.false_eq_true, Bool.not_true, Bool.not_false, one_ne0]
        cases t.testBit r <;> rfl
theorem s_12 {j n : Nat} {σ : MS} {x1 x2 x3 x4 x5 : Int32} (hn : 6000 ≤ n) (hI : Inv j σ) : ∃ τ, step_12 n x1 x2 x3 x4 x5 σ = some τ ∧ Inv (j + 1) τ := by
  obtain ⟨N, e, gh, gw⟩ := Inv_v hI
  have h8 := gw.le8
  have fin : ∀ b : Bool, ∃ τ, (f_L_strew x1 (bI b) σ).bind (fun q => J_L_law__1039 n q.1 x1 x2 x3 x4 x5 (bI b) x1 q.2) = some τ ∧ Inv (j + 1) τ := by
    intro b
    rcases a_strew (x1 := x1) hn hI b with ⟨v, t2, υ, hv01, h1, h2, h3, h4, h5⟩ | ⟨h1, h2⟩
    · rw [h1]
      simp only [bnd_s, J_L_law__1039, h2, f_X12_thrown, h3, if_true, J_L_law__1073, J_L_law__1079, h4]
      rcases hv01 with rfl | rfl
      · simp only [if_true]
        exact ⟨υ, rfl, h5⟩
      · simp only [one_ne0, if_false, if_true]
        exact ⟨υ, rfl, h5⟩
    · obtain ⟨a1, a2⟩ := sm_ex σ 1
      rw [h1]
      simp only [bnd_s, J_L_law__1039, h2, f_X12_thrown, a2, if_true, one_ne0, if_false]
      exact ⟨_, rfl, Inv_mono (Inv_same hI a1) (by omega)⟩
  unfold step_12
  by_cases c : x2 = 0
  · simp only [J_L_law__1012, c, if_true]
    have := fin false
    rw [c] at this
    exact this
  · simp only [J_L_law__1012, c, if_false]
    exact fin true
