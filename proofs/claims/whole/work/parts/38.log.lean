/-! layer 2: division and shifts of small numbers; the log -/
theorem nN_div {a c : Nat} (ha : a < 2147483648) (hc : c < 2147483648) : nN a / nN c = nN (a / c) := by
  have h1 : a / c ≤ a := Nat.div_le_self a c
  rw [← Int32.toInt_inj, nN_toInt (by omega)]
  rw [Int32.toInt_div_of_ne_right _ _ (by
    intro h
    rw [nN_m1 hc] at h
    exact h), nN_toInt ha, nN_toInt hc]
  exact (Int.ofNat_tdiv a c).symm
theorem remI_nN {a c : Nat} (ha : a < 2147483648) (hc : c < 2147483648) : remI (nN a) (nN c) = nN (a % c) := by
  unfold remI
  rw [nN_div ha hc, nN_mul, nN_sub (Nat.div_mul_le_self a c)]
  congr 1
  have := Nat.div_add_mod a c
  have h2 : c * (a / c) = a / c * c := Nat.mul_comm _ _
  omega
theorem ush_nN {R k : Nat} (hk : k < 31) (h : R < 2147483648) : ushI (nN R) (nN k) = nN (R / 2 ^ k) := by
  apply Int32.toBitVec.inj
  apply BitVec.eq_of_toNat_eq
  have hle : R / 2 ^ k ≤ R := Nat.div_le_self _ _
  have e2 : (nN (R / 2 ^ k)).toBitVec.toNat = R / 2 ^ k := by
    rw [nN_bv, BitVec.toNat_ofNat]
    exact Nat.mod_eq_of_lt (by omega)
  rw [e2]
  have e1 : (ushI (nN R) (nN k)).toBitVec.toNat = (UInt32.ofNat R >>> (UInt32.ofNat k &&& UInt32.ofNat 31)).toNat := rfl
  rw [e1, UInt32.toNat_shiftRight, UInt32.toNat_and, UInt32.toNat_ofNat', UInt32.toNat_ofNat', UInt32.toNat_ofNat']
  have k1 : R % 2 ^ 32 = R := Nat.mod_eq_of_lt (by omega)
  have k2 : (k % 2 ^ 32 &&& 31 % 2 ^ 32) % 32 = k := by
    have H : ∀ k, k < 31 → (k % 2 ^ 32 &&& 31 % 2 ^ 32) % 32 = k := by decide +kernel
    exact H k hk
  rw [k1, k2, Nat.shiftRight_eq_div_pow]
theorem and7 (x : Nat) : nN x &&& 7 = nN (x % 8) := by
  rw [l7, nN_and]
  congr 1
  exact Nat.and_two_pow_sub_one_eq_mod x 3
/-- a part of a row -/
def part (d a b r w : Nat) : Nat := if w = 0 then d else if w = 1 then a else if w = 2 then b else r
theorem e_rowPart {σ : MS} {d a b r w : Nat} (hd : d ≤ 9999) (ha : a < 8) (hb : b < 8) (hr : r < 6) (hw : w ≤ 3) : f_X4_rowPart (nN (512 * d + 64 * a + 8 * b + r)) (nN w) σ = some (nN (part d a b r w)) := by
  have hw' : w = 0 ∨ w = 1 ∨ w = 2 ∨ w = 3 := by omega
  have p9 : (9 : Int32) = nN 9 := rfl
  rcases hw' with h | h | h | h <;> subst h
  · have z : nN 0 = (0 : Int32) := rfl
    simp only [f_X4_rowPart, J_X4_rowPart_22, z, if_true]
    rw [p9, ush_nN (by omega) (by omega)]
    have : (512 * d + 64 * a + 8 * b + r) / 2 ^ 9 = d := by omega
    rw [this]
    rfl
  · have z : (nN 1 = (0 : Int32)) = False := by decide
    have q : (9 : Int32) - 3 * nN 1 = nN 6 := by decide
    simp only [f_X4_rowPart, J_X4_rowPart_22, z, if_false, q]
    rw [ush_nN (by omega) (by omega), and7]
    have : (512 * d + 64 * a + 8 * b + r) / 2 ^ 6 % 8 = a := by omega
    rw [this]
    rfl
  · have z : (nN 2 = (0 : Int32)) = False := by decide
    have q : (9 : Int32) - 3 * nN 2 = nN 3 := by decide
    simp only [f_X4_rowPart, J_X4_rowPart_22, z, if_false, q]
    rw [ush_nN (by omega) (by omega), and7]
    have : (512 * d + 64 * a + 8 * b + r) / 2 ^ 3 % 8 = b := by omega
    rw [this]
    rfl
  · have z : (nN 3 = (0 : Int32)) = False := by decide
    have q : (9 : Int32) - 3 * nN 3 = nN 0 := by decide
    simp only [f_X4_rowPart, J_X4_rowPart_22, z, if_false, q]
    rw [ush_nN (by omega) (by omega), and7]
    have : (512 * d + 64 * a + 8 * b + r) / 2 ^ 0 % 8 = r := by omega
    rw [this]
    rfl
theorem Inv_log {j : Nat} {σ : MS} (h : Inv j σ) : ∃ f, σ 3 7 = nN f ∧ σ 172 7 = nN f ∧ f ≤ 3840 * j ∧ σ 172 8 = nN (min f 60) ∧ LR (σ 11) (σ 172) f := by
  obtain ⟨⟨h1, N, f, h2, h3, h4, h5, h6⟩, -⟩ := h
  refine ⟨f, ?_, h3, h4, h5, h6⟩
  have := congrFun (congrFun h1 0) 7
  exact this.trans h3
theorem e_rows {σ : MS} {f : Nat} (h : σ 3 7 = nN f) (hf : f < 2147483648) : f_X4_rows 3 σ = some (nN (min f 60)) := by
  simp only [f_X4_rows, h]
  rw [l60, mnI_nN hf (by omega)]
theorem e_rowOf {σ : MS} {f ago : Nat} (h : σ 3 7 = nN f) (hf : f < 2147483648) (ha : ago < f) : f_X4_rowOf 3 (nN ago) σ = some (σ 11 ((f - 1 - ago) % 60)) := by
  have e : nN f - 1 - nN ago = nN (f - 1 - ago) := by rw [l1, nN_sub (by omega), nN_sub (by omega)]
  have hm := Nat.mod_lt (f - 1 - ago) (show 0 < 60 by omega)
  simp only [f_X4_rowOf, h, e]
  rw [l60, remI_nN (by omega) (by omega), inb_nN (by omega) hm, ix_nN (by omega)]
  rfl
theorem e_ofLog {σ : MS} {ago w : Nat} (ha : ago < 60) (hw : w ≤ 3) : f_X12_ofLog (nN ago) (nN w) σ = some (σ 172 (234 + 4 * ago + w)) := by
  have e : (234 : Int32) + 4 * nN ago + nN w = nN (234 + 4 * ago + w) := by rw [l234, l4, nN_mul, nN_add, nN_add]
  simp only [f_X12_ofLog, e]
  rw [inb_nN (by omega) (by omega), ix_nN (by omega)]
  rfl
theorem s_43 {j n : Nat} {σ : MS} {x1 x2 x3 x4 x5 : Int32} (hn : 6000 ≤ n) (hj : j ≤ 600) (hI : Inv j σ) : ∃ τ, step_43 n x1 x2 x3 x4 x5 σ = some τ ∧ Inv (j + 1) τ := by
  obtain ⟨f, f1, f2, f3, f4, f5⟩ := Inv_log hI
  have hf : f < 2147483648 := by omega
  unfold step_43
  refine s_thr hI (f_L_log x1 x2 σ) (fun s => f_X12_log x1 x2 s) ?_
  cases hw : decide ((0 : Int32) ≤ x2 ∧ x2 ≤ 3)
  · right
    refine ⟨1, 0, by decide, ?_, ?_⟩
    · have hc : x2 < 0 ∨ ¬ x2 ≤ 3 := by
        have := of_decide_eq_false hw
        by_cases c : x2 < 0
        · exact Or.inl c
        · right
          intro h
          exact this ⟨by rw [← Int32.not_lt]; exact c, h⟩
      simp only [f_L_log, f_X11_log, J_X11_log_32, J_X11_log_9]
      rcases hc with c | c
      · simp only [c, if_true, thn_r]
      · simp only [c, if_false, ite_self, thn_r, if_true]
    · simp only [f_X12_log, J_X12_log_56, J_X12_log_20, e_X12_in, hw, ltM_s, bnd_s, e_X12_throwsIf, thr_1, thr_0, ite_bI, if_true, if_false, Bool.false_eq_true, one_ne0]
  · left
    obtain ⟨w, hw3, rfl⟩ := in_k (m := 3) (by omega) hw
    have w0 : (nN w < 0) = False := nN_lt0 (by omega)
    have w3 : (nN w ≤ 3) = True := by rw [l3, nN_le (by omega) (by omega)]; exact eq_true hw3
    by_cases ca : ∃ ago, x1 = nN ago ∧ ago < min f 60
    · obtain ⟨ago, rfl, hago⟩ := ca
      obtain ⟨d, a, b, r, c1, c2, c3, c4, c5, c6, c7, c8, c9⟩ := f5 ago (by omega) (by omega)
      refine ⟨nN (part d a b r w), ?_, ?_⟩
      · have a0 : (nN ago < 0) = False := nN_lt0 (by omega)
        have a1 : (nN ago < nN (min f 60)) = True := lt_t hago (by omega)
        simp only [f_L_log, f_X11_log, J_X11_log_32, J_X11_log_9, w0, w3, if_false, if_true, a0, e_rows f1 hf, bnd_s, a1, e_rowOf f1 hf (show ago < f by omega), c5, e_rowPart c1 c2 c3 c4 hw3, thn_l, ltM_s]
      · have hrow : ∀ v, mu (mu σ 183 0 v) 171 0 0 172 = σ 172 := fun v => by rw [thr0, out_row]
        have e1 : nN (min f 60) - 1 = nN (min f 60 - 1) := by rw [l1, nN_sub (by omega)]
        have hin : decide ((0 : Int32) ≤ nN ago ∧ nN ago ≤ nN (min f 60 - 1)) = true := in_dec (by omega) (by omega)
        simp only [f_X12_log, J_X12_log_56, J_X12_log_20, e_X12_in, hw, ltM_s, bnd_s, e_X12_throwsIf, thr_1, thr_0, ite_bI, if_true, if_false, Bool.false_eq_true, one_ne0, hrow, f4, e1, hin, e_ofLog (show ago < 60 by omega) hw3]
        have : σ 172 (234 + 4 * ago + w) = nN (part d a b r w) := by
          have hw' : w = 0 ∨ w = 1 ∨ w = 2 ∨ w = 3 := by omega
          rcases hw' with h | h | h | h <;> subst h
          · exact c6
          · have : 234 + 4 * ago + 1 = 235 + 4 * ago := by omega
            rw [this]
            exact c7
          · have : 234 + 4 * ago + 2 = 236 + 4 * ago := by omega
            rw [this]
            exact c8
          · have : 234 + 4 * ago + 3 = 237 + 4 * ago := by omega
            rw [this]
            exact c9
        rw [this]
    · refine ⟨-1, ?_, ?_⟩
      · simp only [f_L_log, f_X11_log, J_X11_log_32, J_X11_log_9, w0, w3, if_false, if_true, e_rows f1 hf, bnd_s]
        by_cases c : x1 < 0
        · simp only [c, if_true, thn_l, ltM_s]
        · have c' : (0 : Int32) ≤ x1 := by rw [← Int32.not_lt]; exact c
          have d : ¬ x1 < nN (min f 60) := by
            intro hd
            apply ca
            rw [Int32.le_iff_toInt_le] at c'
            have z : (0 : Int32).toInt = 0 := rfl
            rw [z] at c'
            obtain ⟨k, hk, -, -, hk2⟩ := nN_of (x := x1) (a := 0) (b := x1.toInt) (by omega) c' (by omega)
            subst hk
            rw [nN_lt (by omega) (by omega)] at hd
            exact ⟨k, rfl, hd⟩
          simp only [c, d, if_false, thn_l, ltM_s]
      · have hrow : ∀ v, mu (mu σ 183 0 v) 171 0 0 172 = σ 172 := fun v => by rw [thr0, out_row]
        have hin : decide ((0 : Int32) ≤ x1 ∧ x1 ≤ nN (min f 60) - 1) = false := by
          apply decide_eq_false
          rintro ⟨h1, h2⟩
          apply ca
          rw [Int32.le_iff_toInt_le] at h1 h2
          have z : (0 : Int32).toInt = 0 := rfl
          rw [z] at h1
          have hs : (nN (min f 60) - 1).toInt = ((min f 60 : Nat) : Int) - 1 := by
            have H : ∀ k, k < 61 → (nN k - 1).toInt = (k : Int) - 1 := by decide +kernel
            exact H _ (by omega)
          rw [hs] at h2
          obtain ⟨k, hk, -, hk1, hk2⟩ := nN_of (x := x1) (a := 0) (b := x1.toInt) (by omega) h1 (by omega)
          exact ⟨k, hk, by omega⟩
        simp only [f_X12_log, J_X12_log_56, J_X12_log_20, e_X12_in, hw, ltM_s, bnd_s, e_X12_throwsIf, thr_1, thr_0, ite_bI, if_true, if_false, Bool.false_eq_true, one_ne0, hrow, f4, hin]
