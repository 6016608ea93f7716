/-! layer 2: led, count -/
def ledG (w : Nat → Int32) (p i : Nat) (a : Int32 × Int32) : Int32 × Int32 := if w (235 + 4 * i) = nN p ∨ w (236 + 4 * i) = nN p then (a.1 + 1, w (237 + 4 * i)) else a
def ledV (w : Nat → Int32) (p m : Nat) : Int32 × Int32 := fD m (ledG w p) (0, -1)
theorem e_led {σ : MS} {n f p : Nat} {b : Bool} {w : Nat → Int32} (hn : 6000 ≤ n) (f1 : σ 3 7 = nN f) (hf : f < 2147483648) (f5 : LR (σ 11) w f) (hp : p < 8) : itr (L_X11_led_21 n (nN p) (bI b) σ) n (0, -1, nN (min f 60) - 1) = some (.inl (if b = true then (ledV w p (min f 60)).2 else (ledV w p (min f 60)).1), σ) := by
  have key := itr_dn (f := L_X11_led_21 n (nN p) (bI b) σ) (fun (a : Int32 × Int32) i => (a.1, a.2, i)) 0 (ledG w p) (fun a => (Sum.inl (if b = true then a.2 else a.1), σ)) (fun i _ => i ≤ min f 60) ?_ ?_ (min f 60) n (0, -1) (by omega) (Nat.le_refl _)
  · rw [Nat.zero_add] at key
    exact key.1
  · intro i a hi
    refine ⟨?_, by omega⟩
    obtain ⟨d, a1, b1, r, c1, c2, c3, c4, c5, c6, c7, c8, c9⟩ := f5 i (by omega) (by omega)
    have i0 : (nN i < 0) = False := nN_lt0 (by omega)
    have p1 : f_X4_rowPart (nN (512 * d + 64 * a1 + 8 * b1 + r)) 1 σ = some (nN a1) := e_rowPart (w := 1) c1 c2 c3 c4 (by omega)
    have p2 : f_X4_rowPart (nN (512 * d + 64 * a1 + 8 * b1 + r)) 2 σ = some (nN b1) := e_rowPart (w := 2) c1 c2 c3 c4 (by omega)
    have p3 : f_X4_rowPart (nN (512 * d + 64 * a1 + 8 * b1 + r)) 3 σ = some (nN r) := e_rowPart (w := 3) c1 c2 c3 c4 (by omega)
    rw [Nat.zero_add]
    simp only [L_X11_led_21, J_X11_led_73, J_X11_led_57, i0, if_false, e_rowOf f1 hf (show i < f by omega), c5, f_X4_rowHas, J_X4_rowHas_23, J_X4_rowHas_18, p1, p2, p3, bnd_s, nN_p1]
    unfold ledG
    rw [c7, c8, c9]
    by_cases d1 : nN a1 = nN p
    · simp [d1]
    · by_cases d2 : nN b1 = nN p
      · simp [d1, d2]
      · simp [d1, d2]
  · intro a _
    simp only [nN_z1, L_X11_led_21, J_X11_led_73, J_X11_led_57, m1lt0, if_true, ite_bI]
    cases b <;> rfl
theorem e_led2 {σ : MS} {n m p : Nat} {b : Bool} (hn : 6000 ≤ n) (hm : m ≤ 60) (f4 : σ 172 8 = nN m) : itr (L_X12_led_36 n (nN p) (bI b) σ) n (0, -1, (σ 172 8) - 1) = some (if b = true then (ledV (σ 172) p m).2 else (ledV (σ 172) p m).1, σ) := by
  have key := itr_dn (f := L_X12_led_36 n (nN p) (bI b) σ) (fun (a : Int32 × Int32) i => (a.1, a.2, i)) 0 (ledG (σ 172) p) (fun a => (if b = true then a.2 else a.1, σ)) (fun i _ => i ≤ m) ?_ ?_ m n (0, -1) (by omega) (Nat.le_refl _)
  · rw [Nat.zero_add] at key
    rw [f4]
    exact key.1
  · intro i a hi
    refine ⟨?_, by omega⟩
    have i0 : (nN i < 0) = False := nN_lt0 (by omega)
    have p1 : f_X12_ofLog (nN i) 1 σ = some (σ 172 (235 + 4 * i)) := by
      have := e_ofLog (σ := σ) (ago := i) (w := 1) (by omega) (by omega)
      rw [show 234 + 4 * i + 1 = 235 + 4 * i by omega] at this
      exact this
    have p2 : f_X12_ofLog (nN i) 2 σ = some (σ 172 (236 + 4 * i)) := by
      have := e_ofLog (σ := σ) (ago := i) (w := 2) (by omega) (by omega)
      rw [show 234 + 4 * i + 2 = 236 + 4 * i by omega] at this
      exact this
    have p3 : f_X12_ofLog (nN i) 3 σ = some (σ 172 (237 + 4 * i)) := by
      have := e_ofLog (σ := σ) (ago := i) (w := 3) (by omega) (by omega)
      rw [show 234 + 4 * i + 3 = 237 + 4 * i by omega] at this
      exact this
    rw [Nat.zero_add]
    simp only [L_X12_led_36, J_X12_led_94, J_X12_led_78, J_X12_led_66, i0, if_false, p1, p2, p3, bnd_s, nN_p1]
    unfold ledG
    by_cases d1 : σ 172 (235 + 4 * i) = nN p
    · simp [d1]
    · by_cases d2 : σ 172 (236 + 4 * i) = nN p
      · simp [d1, d2]
      · simp [d1, d2]
  · intro a _
    simp only [nN_z1, L_X12_led_36, J_X12_led_94, J_X12_led_78, J_X12_led_66, m1lt0, if_true, ite_bI]
    cases b <;> rfl
theorem a_led {j n : Nat} {σ : MS} {x1 : Int32} (hn : 6000 ≤ n) (hj : j ≤ 600) (hI : Inv j σ) (b : Bool) : Agr σ (f_L_led n x1 (bI b) σ) (fun s => f_X12_led n x1 (bI b) s) := by
  obtain ⟨N, e, gh, gw⟩ := Inv_v hI
  have h8 := gw.le8
  obtain ⟨f, f1, f2, f3, f4, f5⟩ := Inv_log hI
  have hf : f < 2147483648 := by omega
  cases hx : isP N x1
  · right
    refine ⟨1, 0, by decide, ?_, ?_⟩
    · simp only [f_L_led, f_X11_led, e_needPerson gh, hx, thn_l, thn_r, ltM_s, bnd_s, if_true, if_false, Bool.false_eq_true, Nat.reduceEqDiff, Nat.one_ne_zero]
    · simp only [f_X12_led, e_X12_noPerson (g_thr gw), hx, ltM_s, bnd_s, e_X12_throwsIf, thr_1, thr_0, ite_bI, if_true, if_false, Bool.false_eq_true, Bool.not_true, Bool.not_false, one_ne0]
  · left
    obtain ⟨p, hp, rfl⟩ := isP_t hx
    refine ⟨if b = true then (ledV (σ 172) p (min f 60)).2 else (ledV (σ 172) p (min f 60)).1, ?_, ?_⟩
    · simp only [f_L_led, f_X11_led, e_needPerson gh, hx, e_rows f1 hf, e_led hn f1 hf f5 (show p < 8 by omega), thn_l, thn_r, ltM_s, bnd_s, if_true, if_false, Bool.false_eq_true, Nat.reduceEqDiff, Nat.one_ne_zero]
    · have hrow : ∀ v, mu (mu σ 183 0 v) 171 0 0 172 = σ 172 := fun v => by rw [thr0, out_row]
      have k := fun v => e_led2 (σ := mu (mu σ 183 0 v) 171 0 0) (p := p) (b := b) hn (show min f 60 ≤ 60 by omega) (by rw [hrow]; exact f4)
      simp only [hrow] at k
      simp only [f_X12_led, e_X12_noPerson (g_thr (g_out gw _)), hx, ltM_s, bnd_s, e_X12_throwsIf, thr_1, thr_0, ite_bI, if_true, if_false, Bool.false_eq_true, Bool.not_true, Bool.not_false, one_ne0, hrow, k]
theorem s_42 {j n : Nat} {σ : MS} {x1 x2 x3 x4 x5 : Int32} (hn : 6000 ≤ n) (hj : j ≤ 600) (hI : Inv j σ) : ∃ τ, step_42 n x1 x2 x3 x4 x5 σ = some τ ∧ Inv (j + 1) τ := by
  obtain ⟨N, e, gh, gw⟩ := Inv_v hI
  have h8 := gw.le8
  unfold step_42
  by_cases c : x2 = 0
  · simp only [J_L_law__2677, J_L_law__2704, c, if_true]
    exact s_thr hI (f_L_led n x1 0 σ) (fun s => f_X12_led n x1 0 s) (a_led hn hj hI false)
  · simp only [J_L_law__2677, J_L_law__2704, c, if_false]
    exact s_thr hI (f_L_led n x1 1 σ) (fun s => f_X12_led n x1 1 s) (a_led hn hj hI true)
theorem s_48 {j n : Nat} {σ : MS} {x1 x2 x3 x4 x5 : Int32} (hn : 6000 ≤ n) (hj : j ≤ 600) (hI : Inv j σ) : ∃ τ, step_48 n x1 x2 x3 x4 x5 σ = some τ ∧ Inv (j + 1) τ := by
  obtain ⟨N, e, gh, gw⟩ := Inv_v hI
  have h8 := gw.le8
  obtain ⟨f, f1, f2, f3, f4, f5⟩ := Inv_log hI
  have hf : f < 2147483648 := by omega
  have hrow : mu σ 171 0 0 172 = σ 172 := thr0 σ
  have sc : ∀ i, i < 8 → σ 3 i = rv (σ 172) 0 i := by
    intro i hi
    rw [← e]
    exact (hv_0 σ 3 i hi).symm
  have z0 : σ 3 0 = σ 172 0 := sc 0 (by omega)
  have z1 : σ 3 1 = σ 172 1 := sc 1 (by omega)
  have z2 : σ 3 2 = σ 172 4 := sc 2 (by omega)
  have z3 : σ 3 3 = σ 172 5 := sc 3 (by omega)
  have z4 : σ 3 4 = σ 172 6 := sc 4 (by omega)
  have z5 : σ 3 5 = σ 172 3 := sc 5 (by omega)
  have hl : (σ 172 2 = 1 ∧ σ 30 0 = σ 172 474) ∨ (¬ σ 172 2 = 1 ∧ σ 30 0 = -1) := by
    rcases hI.2.1 with ⟨h1, h2⟩ | ⟨L, st, op, ar, h1, h2, h3, h4, -⟩
    · right
      exact ⟨by rw [h2]; decide, h1⟩
    · left
      have h2' : σ 30 0 = nN L := h2
      exact ⟨h3, by rw [h2', h4]⟩
  have hp : σ 0 16 = σ 171 7 := by
    obtain ⟨a, c, k1, k2, k3, k4, k5, -⟩ := hI.2.2.2.1
    rw [k4, k5]
  have h7 : mu σ 171 0 0 171 7 = σ 171 7 := by rw [mu_at, if_neg (by omega)]
  unfold step_48
  have key : ∀ v, f_X11_count n x1 σ = some v → f_X12_count n x1 σ = some (v, mu σ 171 0 0) → ∃ τ, ((f_X11_count n x1 σ).bind (fun q => (f_X12_count n x1 σ).bind (fun m => if q = m.1 then some m.2 else none))) = some τ ∧ Inv (j + 1) τ := fun v h1 h2 => s_val hI h1 h2
  by_cases hk : ∃ k, k ≤ 12 ∧ x1 = nN k
  · obtain ⟨k, hk, rfl⟩ := hk
    have hin : ∀ (s : MS) (m : Nat), m ≤ 6 → f_X12_in (nN m) 0 6 s = some 1 := by
      intro s m hm
      rw [e_X12_in, l6, in_dec hm (by omega)]
      rfl
    have hk' : k = 0 ∨ k = 1 ∨ k = 2 ∨ k = 3 ∨ k = 4 ∨ k = 5 ∨ k = 6 ∨ k = 7 ∨ k = 8 ∨ k = 9 ∨ k = 10 ∨ k = 11 ∨ k = 12 := by omega
    rcases hk' with h | h | h | h | h | h | h | h | h | h | h | h | h <;> subst h
    · have ek : nN 0 = (0 : Int32) := rfl
      have hi := fun s => hin s 0 (by omega)
      have hb : inb (0 : Int32) 2172 = true := by decide
      have hx : ix (0 : Int32) = 0 := by decide
      rw [ek] at key hi ⊢
      refine key (σ 172 0) ?_ ?_
      · simp only [f_X11_count, ne_0_1, ne_0_2, ne_0_3, ne_0_4, ne_0_5, ne_0_6, ne_0_7, ne_0_8, ne_0_9, ne_0_10, ne_0_11, ne_0_12, if_true, if_false, z0]
      · simp only [f_X12_count, J_X12_count_143, J_X12_count_86, ne_0_1, ne_0_2, ne_0_3, ne_0_4, ne_0_5, ne_0_6, ne_0_7, ne_0_8, ne_0_9, ne_0_10, ne_0_11, ne_0_12, hi, hb, hx, hrow, ltM_s, bnd_s, if_true, if_false, one_ne0]
    · have ek : nN 1 = (1 : Int32) := rfl
      have hi := fun s => hin s 1 (by omega)
      have hb : inb (1 : Int32) 2172 = true := by decide
      have hx : ix (1 : Int32) = 1 := by decide
      rw [ek] at key hi ⊢
      refine key (σ 172 1) ?_ ?_
      · simp only [f_X11_count, ne_1_0, ne_1_2, ne_1_3, ne_1_4, ne_1_5, ne_1_6, ne_1_7, ne_1_8, ne_1_9, ne_1_10, ne_1_11, ne_1_12, if_true, if_false, z1]
      · simp only [f_X12_count, J_X12_count_143, J_X12_count_86, ne_1_0, ne_1_2, ne_1_3, ne_1_4, ne_1_5, ne_1_6, ne_1_7, ne_1_8, ne_1_9, ne_1_10, ne_1_11, ne_1_12, hi, hb, hx, hrow, ltM_s, bnd_s, if_true, if_false, one_ne0]
    · have ek : nN 2 = (2 : Int32) := rfl
      rw [ek] at key ⊢
      refine key (σ 30 0) ?_ ?_
      · simp only [f_X11_count, ne_2_0, ne_2_1, ne_2_3, ne_2_4, ne_2_5, ne_2_6, ne_2_7, ne_2_8, ne_2_9, ne_2_10, ne_2_11, ne_2_12, if_true, if_false, bnd_s]
      · simp only [f_X12_count, J_X12_count_143, J_X12_count_86, if_true, ltM_s, hrow]
        rcases hl with ⟨h1, h2⟩ | ⟨h1, h2⟩
        · simp only [h1, if_true, h2]
        · simp only [h1, if_false, h2]
    · have ek : nN 3 = (3 : Int32) := rfl
      have hi := fun s => hin s 3 (by omega)
      have hb : inb (3 : Int32) 2172 = true := by decide
      have hx : ix (3 : Int32) = 3 := by decide
      rw [ek] at key hi ⊢
      refine key (σ 172 3) ?_ ?_
      · simp only [f_X11_count, ne_3_0, ne_3_1, ne_3_2, ne_3_4, ne_3_5, ne_3_6, ne_3_7, ne_3_8, ne_3_9, ne_3_10, ne_3_11, ne_3_12, if_true, if_false, z5]
      · simp only [f_X12_count, J_X12_count_143, J_X12_count_86, ne_3_0, ne_3_1, ne_3_2, ne_3_4, ne_3_5, ne_3_6, ne_3_7, ne_3_8, ne_3_9, ne_3_10, ne_3_11, ne_3_12, hi, hb, hx, hrow, ltM_s, bnd_s, if_true, if_false, one_ne0]
    · have ek : nN 4 = (4 : Int32) := rfl
      have hi := fun s => hin s 4 (by omega)
      have hb : inb (4 : Int32) 2172 = true := by decide
      have hx : ix (4 : Int32) = 4 := by decide
      rw [ek] at key hi ⊢
      refine key (σ 172 4) ?_ ?_
      · simp only [f_X11_count, ne_4_0, ne_4_1, ne_4_2, ne_4_3, ne_4_5, ne_4_6, ne_4_7, ne_4_8, ne_4_9, ne_4_10, ne_4_11, ne_4_12, if_true, if_false, z2]
      · simp only [f_X12_count, J_X12_count_143, J_X12_count_86, ne_4_0, ne_4_1, ne_4_2, ne_4_3, ne_4_5, ne_4_6, ne_4_7, ne_4_8, ne_4_9, ne_4_10, ne_4_11, ne_4_12, hi, hb, hx, hrow, ltM_s, bnd_s, if_true, if_false, one_ne0]
    · have ek : nN 5 = (5 : Int32) := rfl
      have hi := fun s => hin s 5 (by omega)
      have hb : inb (5 : Int32) 2172 = true := by decide
      have hx : ix (5 : Int32) = 5 := by decide
      rw [ek] at key hi ⊢
      refine key (σ 172 5) ?_ ?_
      · simp only [f_X11_count, ne_5_0, ne_5_1, ne_5_2, ne_5_3, ne_5_4, ne_5_6, ne_5_7, ne_5_8, ne_5_9, ne_5_10, ne_5_11, ne_5_12, if_true, if_false, z3]
      · simp only [f_X12_count, J_X12_count_143, J_X12_count_86, ne_5_0, ne_5_1, ne_5_2, ne_5_3, ne_5_4, ne_5_6, ne_5_7, ne_5_8, ne_5_9, ne_5_10, ne_5_11, ne_5_12, hi, hb, hx, hrow, ltM_s, bnd_s, if_true, if_false, one_ne0]
    · have ek : nN 6 = (6 : Int32) := rfl
      have hi := fun s => hin s 6 (by omega)
      have hb : inb (6 : Int32) 2172 = true := by decide
      have hx : ix (6 : Int32) = 6 := by decide
      rw [ek] at key hi ⊢
      refine key (σ 172 6) ?_ ?_
      · simp only [f_X11_count, ne_6_0, ne_6_1, ne_6_2, ne_6_3, ne_6_4, ne_6_5, ne_6_7, ne_6_8, ne_6_9, ne_6_10, ne_6_11, ne_6_12, if_true, if_false, z4]
      · simp only [f_X12_count, J_X12_count_143, J_X12_count_86, ne_6_0, ne_6_1, ne_6_2, ne_6_3, ne_6_4, ne_6_5, ne_6_7, ne_6_8, ne_6_9, ne_6_10, ne_6_11, ne_6_12, hi, hb, hx, hrow, ltM_s, bnd_s, if_true, if_false, one_ne0]
    · have ek : nN 7 = (7 : Int32) := rfl
      rw [ek] at key ⊢
      refine key (susV (hv σ 3) N) ?_ ?_
      · simp only [f_X11_count, ne_7_0, ne_7_1, ne_7_2, ne_7_3, ne_7_4, ne_7_5, ne_7_6, ne_7_8, ne_7_9, ne_7_10, ne_7_11, ne_7_12, if_true, if_false, bnd_s, e_X4_allSuspicion hn gh]
      · simp only [f_X12_count, J_X12_count_143, J_X12_count_86, ne_7_0, ne_7_1, ne_7_2, ne_7_3, ne_7_4, ne_7_5, ne_7_6, ne_7_8, ne_7_9, ne_7_10, ne_7_11, ne_7_12, hrow, ltM_s, bnd_s, if_true, if_false, e_X12_suspectedOfAll hn (g_thr gw), e]
    · have ek : nN 8 = (8 : Int32) := rfl
      rw [ek] at key ⊢
      refine key (cplV (hv σ 3) N) ?_ ?_
      · simp only [f_X11_count, ne_8_0, ne_8_1, ne_8_2, ne_8_3, ne_8_4, ne_8_5, ne_8_6, ne_8_7, ne_8_9, ne_8_10, ne_8_11, ne_8_12, if_true, if_false, bnd_s, e_X4_couples hn gh]
      · simp only [f_X12_count, J_X12_count_143, J_X12_count_86, ne_8_0, ne_8_1, ne_8_2, ne_8_3, ne_8_4, ne_8_5, ne_8_6, ne_8_7, ne_8_9, ne_8_10, ne_8_11, ne_8_12, hrow, ltM_s, bnd_s, if_true, if_false, e_X12_pairsWed hn (g_thr gw), e]
    · have ek : nN 9 = (9 : Int32) := rfl
      rw [ek] at key ⊢
      refine key (nN (cD N (holdsV (hv σ 3)))) ?_ ?_
      · simp only [f_X11_count, ne_9_0, ne_9_1, ne_9_2, ne_9_3, ne_9_4, ne_9_5, ne_9_6, ne_9_7, ne_9_8, ne_9_10, ne_9_11, ne_9_12, if_true, if_false, bnd_s, e_X10_holding hn gh]
      · simp only [f_X12_count, J_X12_count_143, J_X12_count_86, ne_9_0, ne_9_1, ne_9_2, ne_9_3, ne_9_4, ne_9_5, ne_9_6, ne_9_7, ne_9_8, ne_9_10, ne_9_11, ne_9_12, hrow, ltM_s, bnd_s, if_true, if_false, e_X12_bondsThatHold hn (g_thr gw), e]
    · have ek : nN 10 = (10 : Int32) := rfl
      rw [ek] at key ⊢
      refine key (σ 172 7) ?_ ?_
      · simp only [f_X11_count, ne_10_0, ne_10_1, ne_10_2, ne_10_3, ne_10_4, ne_10_5, ne_10_6, ne_10_7, ne_10_8, ne_10_9, ne_10_11, ne_10_12, if_true, if_false, bnd_s, f1, f2]
      · simp only [f_X12_count, J_X12_count_143, J_X12_count_86, ne_10_0, ne_10_1, ne_10_2, ne_10_3, ne_10_4, ne_10_5, ne_10_6, ne_10_7, ne_10_8, ne_10_9, ne_10_11, ne_10_12, hrow, ltM_s, bnd_s, if_true, if_false, e]
    · have ek : nN 11 = (11 : Int32) := rfl
      rw [ek] at key ⊢
      refine key (σ 172 8) ?_ ?_
      · simp only [f_X11_count, ne_11_0, ne_11_1, ne_11_2, ne_11_3, ne_11_4, ne_11_5, ne_11_6, ne_11_7, ne_11_8, ne_11_9, ne_11_10, ne_11_12, if_true, if_false, bnd_s, e_rows f1 hf, f4]
      · simp only [f_X12_count, J_X12_count_143, J_X12_count_86, ne_11_0, ne_11_1, ne_11_2, ne_11_3, ne_11_4, ne_11_5, ne_11_6, ne_11_7, ne_11_8, ne_11_9, ne_11_10, ne_11_12, hrow, ltM_s, bnd_s, if_true, if_false, e]
    · have ek : nN 12 = (12 : Int32) := rfl
      rw [ek] at key ⊢
      refine key (σ 171 7) ?_ ?_
      · simp only [f_X11_count, ne_12_0, ne_12_1, ne_12_2, ne_12_3, ne_12_4, ne_12_5, ne_12_6, ne_12_7, ne_12_8, ne_12_9, ne_12_10, ne_12_11, if_true, if_false, bnd_s, hp]
      · simp only [f_X12_count, J_X12_count_143, J_X12_count_86, ne_12_0, ne_12_1, ne_12_2, ne_12_3, ne_12_4, ne_12_5, ne_12_6, ne_12_7, ne_12_8, ne_12_9, ne_12_10, ne_12_11, hrow, ltM_s, bnd_s, if_true, if_false, h7, e]
  · have nk : ∀ k : Nat, k ≤ 12 → ¬ x1 = nN k := fun k h1 h2 => hk ⟨k, h1, h2⟩
    have n0 : ¬ x1 = 0 := nk 0 (by omega)
    have n1 : ¬ x1 = 1 := nk 1 (by omega)
    have n2 : ¬ x1 = 2 := nk 2 (by omega)
    have n3 : ¬ x1 = 3 := nk 3 (by omega)
    have n4 : ¬ x1 = 4 := nk 4 (by omega)
    have n5 : ¬ x1 = 5 := nk 5 (by omega)
    have n6 : ¬ x1 = 6 := nk 6 (by omega)
    have n7 : ¬ x1 = 7 := nk 7 (by omega)
    have n8 : ¬ x1 = 8 := nk 8 (by omega)
    have n9 : ¬ x1 = 9 := nk 9 (by omega)
    have n10 : ¬ x1 = 10 := nk 10 (by omega)
    have n11 : ¬ x1 = 11 := nk 11 (by omega)
    have n12 : ¬ x1 = 12 := nk 12 (by omega)
    have hin : f_X12_in x1 0 6 (mu σ 171 0 0) = some 0 := by
      rw [e_X12_in]
      cases hd : decide ((0 : Int32) ≤ x1 ∧ x1 ≤ 6)
      · rfl
      · obtain ⟨k, h1, h2⟩ := in_k (m := 6) (by omega) hd
        exact absurd h2 (nk k (by omega))
    refine key (-1) ?_ ?_
    · simp only [f_X11_count, n0, n1, n2, n3, n4, n5, n6, n7, n8, n9, n10, n11, n12, if_false]
    · simp only [f_X12_count, J_X12_count_143, J_X12_count_86, n0, n1, n2, n3, n4, n5, n6, n7, n8, n9, n10, n11, n12, if_false, if_true, ltM_s, bnd_s, hin]
