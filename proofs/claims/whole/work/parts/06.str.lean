theorem tabout (x : Int32) (lo hi : Int) (_h1 : -2147483648 ≤ lo) (_h2 : hi ≤ 2147483647) (h : ∀ k : Int, lo ≤ k → k ≤ hi → x ≠ Int32.ofInt k) : x.toInt < lo ∨ hi < x.toInt := by
  by_cases h3 : x.toInt < lo
  · exact Or.inl h3
  · by_cases h4 : hi < x.toInt
    · exact Or.inr h4
    · exact absurd (Int32.ofInt_toInt x).symm (h x.toInt (by omega) (by omega))
def m_J0_coder_7d493 : MD := (yJ0_coder_7d493, cJ0_coder_7d493, 1, some .byte, 0, 0, 0, 0)
def m_J0_isLatin1_aae02 : MD := (yJ0_isLatin1_aae02, cJ0_isLatin1_aae02, 1, some .boolean, 0, 0, 0, 0)
def m_J0_length_8abf5 : MD := (yJ0_length_8abf5, cJ0_length_8abf5, 1, some .int, 1, 20, 0, 0)
def m_J3_checkIndex_8e157 : MD := (yJ3_checkIndex_8e157, cJ3_checkIndex_8e157, 3, some .int, 0, 0, 0, 0)
def m_J0_checkIndex_df160 : MD := (yJ0_checkIndex_df160, cJ0_checkIndex_df160, 2, none, 1, 22, 0, 0)
def m_J1_charAt_3b067 : MD := (yJ1_charAt_3b067, cJ1_charAt_3b067, 2, some .char, 2, 43, 0, 0)
def m_J0_charAt_5068e : MD := (yJ0_charAt_5068e, cJ0_charAt_5068e, 2, some .char, 3, 64, 0, 0)
theorem cs_coder (w : TG) (z : Nat) (k_z : z < 33) (σ : MS) : MC m_J0_coder_7d493 w [.ref (wS w z)] σ ((some (0 : Int32)).map (fun r => (r, σ))) := by
  refine V_methp (by decide +kernel) (Nat.le_of_ble_eq_true rfl) (by intro v hv; simp only [List.mem_cons, List.not_mem_nil, or_false] at hv; subst hv; rfl) (fun g x => ?_)
  show VV m_J0_coder_7d493 w g 0 0 (QM m_J0_coder_7d493 w g x) (fun b : Int32 => (b, σ) = x) 0 [some (.ref (wS w z))] [] σ (if (1 : Int32) = 0 then none else some 0)
  refine V_compact (pc := 0) dJ0_coder_7d493_0 rfl (gm (by decide +kernel) (by decide +kernel)) ?_
  refine V_if_eq (pc := 3) (tgt := 13) dJ0_coder_7d493_3 (by decide) V_none ?_
  refine V_aload_n (pc := 6) dJ0_coder_7d493_6 rfl rfl ?_
  refine V_scod (pc := 7) dJ0_coder_7d493_7 rfl k_z (gm (by decide +kernel) (by decide +kernel)) ?_
  refine V_goto (pc := 10) (tgt := 14) dJ0_coder_7d493_10 (by decide) ?_
  exact V_iretz (pc := 14) dJ0_coder_7d493_14 rfl rfl (hk := fun h => h)
theorem cs_isLatin1 (w : TG) (z : Nat) (k_z : z < 33) (σ : MS) : MC m_J0_isLatin1_aae02 w [.ref (wS w z)] σ ((some (1 : Int32)).map (fun r => (r, σ))) := by
  refine V_methp (by decide +kernel) (Nat.le_of_ble_eq_true rfl) (by intro v hv; simp only [List.mem_cons, List.not_mem_nil, or_false] at hv; subst hv; rfl) (fun g x => ?_)
  show VV m_J0_isLatin1_aae02 w g 0 0 (QM m_J0_isLatin1_aae02 w g x) (fun b : Int32 => (b, σ) = x) 0 [some (.ref (wS w z))] [] σ (if (1 : Int32) = 0 then none else (if (0 : Int32) = 0 then some 1 else none))
  refine V_compact (pc := 0) dJ0_isLatin1_aae02_0 rfl (gm (by decide +kernel) (by decide +kernel)) ?_
  refine V_if_eq (pc := 3) (tgt := 17) dJ0_isLatin1_aae02_3 (by decide) V_none ?_
  refine V_aload_n (pc := 6) dJ0_isLatin1_aae02_6 rfl rfl ?_
  refine V_scod (pc := 7) dJ0_isLatin1_aae02_7 rfl k_z (gm (by decide +kernel) (by decide +kernel)) ?_
  refine V_if_ne (pc := 10) (tgt := 17) dJ0_isLatin1_aae02_10 (by decide) V_none ?_
  refine V_iconst (pc := 13) (v := 1) dJ0_isLatin1_aae02_13 rfl ?_
  refine V_goto (pc := 14) (tgt := 18) dJ0_isLatin1_aae02_14 (by decide) ?_
  exact V_iretz (pc := 18) dJ0_isLatin1_aae02_18 rfl rfl (hk := fun h => h)
theorem cw_J0_335 : cwp RJ0 335 m_J0_coder_7d493 0 := ⟨goodIn_of _ (by decide +kernel), by decide +kernel, by decide +kernel, by decide +kernel⟩
theorem cw_J0_492 : cwp RJ0 492 m_J0_isLatin1_aae02 0 := ⟨goodIn_of _ (by decide +kernel), by decide +kernel, by decide +kernel, by decide +kernel⟩
theorem cs_J0_1059 : csp RJ0 1059 m_J3_checkIndex_8e157 3 := ⟨goodIn_of _ (by decide +kernel), by decide +kernel, by decide +kernel, by decide +kernel⟩
theorem cs_J1_9 : csp RJ1 9 m_J0_checkIndex_df160 2 := ⟨goodIn_of _ (by decide +kernel), by decide +kernel, by decide +kernel, by decide +kernel⟩
theorem cs_J0_495 : csp RJ0 495 m_J1_charAt_3b067 2 := ⟨goodIn_of _ (by decide +kernel), by decide +kernel, by decide +kernel, by decide +kernel⟩
def sln (z : Nat) : Int32 := Int32.ofNat (stL.getD z 0)
def sch (z : Nat) (k : Int32) : Int32 := i2c ((stB.getD z []).getD (ix k) 0 &&& 255)
def fs_length (z : Nat) : Option Int32 := some (sln z)
def fs_charAt (z : Nat) (k : Int32) : Option Int32 := if inb k (stL.getD z 0) then some (sch z k) else none
theorem sln_shr : ∀ z : Nat, z < 33 → shrI (sln z) 0 = sln z := by decide +kernel
theorem sch_narrow : ∀ z : Nat, z < 33 → ∀ j : Nat, j < 64 → narrow .char (.int (i2c ((stB.getD z []).getD j 0 &&& 255))) = .int (i2c ((stB.getD z []).getD j 0 &&& 255)) := by decide +kernel
theorem stL_lt : ∀ z : Nat, z < 33 → stL.getD z 0 < 64 := by decide +kernel
theorem cs_length (w : TG) (z : Nat) (k_z : z < 33) (σ : MS) : MC m_J0_length_8abf5 w [.ref (wS w z)] σ ((fs_length z).map (fun r => (r, σ))) := by
  refine V_methp (by decide +kernel) (Nat.le_of_ble_eq_true rfl) (by intro v hv; simp only [List.mem_cons, List.not_mem_nil, or_false] at hv; subst hv; rfl) (fun g x => ?_)
  show VV m_J0_length_8abf5 w g 0 0 (QM m_J0_length_8abf5 w g x) (fun b : Int32 => (b, σ) = x) 0 [some (.ref (wS w z))] [] σ (some (sln z))
  rw [← sln_shr z k_z]
  show VV m_J0_length_8abf5 w g 0 0 (QM m_J0_length_8abf5 w g x) (fun b : Int32 => (b, σ) = x) 0 [some (.ref (wS w z))] [] σ ((some (0 : Int32)).bind (fun q => some (shrI (sln z) q)))
  refine V_aload_n (pc := 0) dJ0_length_8abf5_0 rfl rfl ?_
  refine V_sval (pc := 1) dJ0_length_8abf5_1 rfl k_z (gm (by decide +kernel) (by decide +kernel)) ?_
  refine V_slen (pc := 4) (v := sln z) dJ0_length_8abf5_4 k_z rfl ?_
  refine V_aload_n (pc := 5) dJ0_length_8abf5_5 rfl rfl ?_
  refine V_callT (pc := 6) (As := []) (rest := [.int (sln z)]) k_z rfl (cs_coder w z k_z σ) cw_J0_335 rfl rfl dJ0_length_8abf5_6 ⟨Nat.le_of_ble_eq_true rfl, Nat.le_of_ble_eq_true rfl⟩ rfl rfl (Nat.le_of_ble_eq_true rfl) (Nat.le_of_ble_eq_true rfl) (Nat.le_of_ble_eq_true rfl) rfl (fun q => ?_)
  refine V_ishr (pc := 9) dJ0_length_8abf5_9 ?_
  exact V_ireti (pc := 10) dJ0_length_8abf5_10 rfl (hk := fun h => h)
theorem cs_J3_check (w : TG) (i n : Int32) (r : Option Nat) (σ : MS) : MC m_J3_checkIndex_8e157 w [.int i, .int n, va_rf r] σ ((if i < 0 then none else (if i < n then some i else none)).map (fun r => (r, σ))) := by
  refine V_methp (by decide +kernel) (by cases r <;> exact Nat.le_of_ble_eq_true rfl) (by intro v hv; simp only [List.mem_cons, List.not_mem_nil, or_false] at hv; rcases hv with rfl | rfl | rfl <;> first | rfl | (cases r <;> rfl)) (fun g x => ?_)
  show VV m_J3_checkIndex_8e157 w g 0 0 (QM m_J3_checkIndex_8e157 w g x) (fun b : Int32 => (b, σ) = x) 0 [some (.int i), some (.int n), some (va_rf r)] [] σ (if i < 0 then none else (if i < n then some i else none))
  refine V_iload_n (pc := 0) dJ3_checkIndex_8e157_0 rfl rfl ?_
  refine V_if_lt (pc := 1) (tgt := 9) dJ3_checkIndex_8e157_1 (by decide) V_none ?_
  refine V_iload_n (pc := 4) dJ3_checkIndex_8e157_4 rfl rfl ?_
  refine V_iload_n (pc := 5) dJ3_checkIndex_8e157_5 rfl rfl ?_
  refine V_icmp_lt (pc := 6) (tgt := 16) dJ3_checkIndex_8e157_6 (by decide) ?_ V_none
  refine V_iload_n (pc := 16) dJ3_checkIndex_8e157_16 rfl rfl ?_
  exact V_ireti (pc := 17) dJ3_checkIndex_8e157_17 rfl (hk := fun h => h)
theorem cs_J0_check (w : TG) (i n : Int32) (σ : MS) : MC m_J0_checkIndex_df160 w [.int i, .int n] σ ((if i < 0 then none else (if i < n then some i else none)).bind (fun _ => some (0, σ))) := by
  refine V_meth (by decide +kernel) (Nat.le_of_ble_eq_true rfl) (by intro v hv; simp only [List.mem_cons, List.not_mem_nil, or_false] at hv; rcases hv with rfl | rfl <;> rfl) (fun g x => ?_)
  show VV m_J0_checkIndex_df160 w g 0 0 (QM m_J0_checkIndex_df160 w g x) (fun b : Int32 × MS => b = x) 0 [some (.int i), some (.int n)] [] σ ((if i < 0 then none else (if i < n then some i else none)).bind (fun _ => some (0, σ)))
  refine V_iload_n (pc := 0) dJ0_checkIndex_df160_0 rfl rfl ?_
  refine V_iload_n (pc := 1) dJ0_checkIndex_df160_1 rfl rfl ?_
  refine V_formatter (pc := 2) dJ0_checkIndex_df160_2 rfl (gm (by decide +kernel) (by decide +kernel)) (fun r => ?_)
  refine V_callSpi (pc := 5) (As := [.int i, .int n, va_rf r]) (rest := []) (cs_J3_check w i n r σ) cs_J0_1059 rfl rfl dJ0_checkIndex_df160_5 ⟨Nat.le_of_ble_eq_true rfl, Nat.le_of_ble_eq_true rfl⟩ rfl rfl (Nat.le_of_ble_eq_true rfl) (Nat.le_of_ble_eq_true rfl) (Nat.le_of_ble_eq_true rfl) rfl (fun q => ?_)
  refine V_pop (pc := 8) dJ0_checkIndex_df160_8 rfl ?_
  exact V_ret (pc := 9) dJ0_checkIndex_df160_9 rfl (hk := fun h => h)
theorem inb_pos {i : Int32} {n : Nat} (h : inb i n = true) : ¬ i < 0 := fun h2 => inb_in h (Or.inl h2)
theorem inb_lt {i : Int32} {n : Nat} (h : inb i n = true) (hn : n < 2 ^ 31) : i < Int32.ofNat n := by
  have h1 := of_decide_eq_true h
  rw [Int32.lt_iff_toInt_lt, show (Int32.ofNat n).toInt = (n : Int) from nI_toInt hn]
  exact h1.2
theorem inb_ix {i : Int32} {n : Nat} (h : inb i n = true) : ix i < n := by
  have h1 := inb_in h
  simp only [vp_in, not_or] at h1
  exact Nat.lt_of_not_le h1.2
theorem cs_J1_charAt (w : TG) (z : Nat) (k_z : z < 33) (k : Int32) (hk : inb k (stL.getD z 0) = true) (σ : MS) : MC m_J1_charAt_3b067 w [.ref (wV w z), .int k] σ ((some (sch z k)).map (fun r => (r, σ))) := by
  refine V_methp (by decide +kernel) (Nat.le_of_ble_eq_true rfl) (by intro v hv; simp only [List.mem_cons, List.not_mem_nil, or_false] at hv; rcases hv with rfl | rfl <;> rfl) (fun g x => ?_)
  have hlt : k < sln z := inb_lt hk (by have := stL_lt z k_z; omega)
  have e : (some (sch z k) : Option Int32) = ((if k < 0 then none else (if k < sln z then some k else none)).bind (fun _ => some ((0 : Int32), σ))).bind (fun _ => some (sch z k)) := by
    rw [if_neg (inb_pos hk), if_pos hlt]
    rfl
  show VV m_J1_charAt_3b067 w g 0 0 (QM m_J1_charAt_3b067 w g x) (fun b : Int32 => (b, σ) = x) 0 [some (.ref (wV w z)), some (.int k)] [] σ (some (sch z k))
  rw [e]
  refine V_iload_n (pc := 0) dJ1_charAt_3b067_0 rfl rfl ?_
  refine V_aload_n (pc := 1) dJ1_charAt_3b067_1 rfl rfl ?_
  refine V_slen (pc := 2) (v := sln z) dJ1_charAt_3b067_2 k_z rfl ?_
  have hc := cs_J0_check w k (sln z) σ
  rw [if_neg (inb_pos hk), if_pos hlt] at hc ⊢
  have hgo : VV m_J1_charAt_3b067 w g 0 0 (QM m_J1_charAt_3b067 w g x) (fun b : Int32 => (b, σ) = x) 6 [some (.ref (wV w z)), some (.int k)] [] σ (some (sch z k)) := by
    refine V_aload_n (pc := 6) dJ1_charAt_3b067_6 rfl rfl ?_
    refine V_iload_n (pc := 7) dJ1_charAt_3b067_7 rfl rfl ?_
    refine V_sbyte (pc := 8) dJ1_charAt_3b067_8 k_z hk ?_
    refine V_sipush (pc := 9) (v := 255) dJ1_charAt_3b067_9 rfl ?_
    refine V_iand (pc := 12) dJ1_charAt_3b067_12 ?_
    refine V_i2c (pc := 13) dJ1_charAt_3b067_13 ?_
    exact V_iretz (pc := 14) dJ1_charAt_3b067_14 rfl (sch_narrow z k_z (ix k) (by have := stL_lt z k_z; have := inb_ix hk; omega)) (hk := fun h => h)
  rw [show ((some k : Option Int32).bind (fun _ => some ((0 : Int32), σ))).bind (fun _ => some (sch z k)) = (((some k : Option Int32).bind (fun _ => some ((0 : Int32), σ))).map (fun r => (r.1, r.2))).bind (fun r => @ite _ (r.2 = σ) (Classical.propDecidable _) (some (sch z k)) none) from by simp]
  rw [show ((some k : Option Int32).bind (fun _ => some ((0 : Int32), σ))).map (fun r => (r.1, r.2)) = (some k : Option Int32).bind (fun _ => some ((0 : Int32), σ)) from rfl]
  refine V_callSv (pc := 3) (As := [.int k, .int (sln z)]) (rest := []) hc cs_J1_9 rfl rfl dJ1_charAt_3b067_3 ⟨Nat.le_of_ble_eq_true rfl, Nat.le_of_ble_eq_true rfl⟩ rfl rfl (Nat.le_of_ble_eq_true rfl) (Nat.le_of_ble_eq_true rfl) (Nat.le_of_ble_eq_true rfl) rfl (fun q => ?_)
  by_cases hq : q.2 = σ
  · rw [if_pos hq, hq]
    exact hgo
  · rw [if_neg hq]
    exact V_none
theorem cs_charAt (w : TG) (z : Nat) (k : Int32) (k_z : z < 33) (σ : MS) : MC m_J0_charAt_5068e w [.ref (wS w z), .int k] σ ((fs_charAt z k).map (fun r => (r, σ))) := by
  by_cases hk : inb k (stL.getD z 0) = true
  · rw [show fs_charAt z k = some (sch z k) from by rw [fs_charAt, if_pos hk]]
    refine V_methp (by decide +kernel) (Nat.le_of_ble_eq_true rfl) (by intro v hv; simp only [List.mem_cons, List.not_mem_nil, or_false] at hv; rcases hv with rfl | rfl <;> rfl) (fun g x => ?_)
    show VV m_J0_charAt_5068e w g 0 0 (QM m_J0_charAt_5068e w g x) (fun b : Int32 => (b, σ) = x) 0 [some (.ref (wS w z)), some (.int k)] [] σ (some (sch z k))
    rw [show (some (sch z k) : Option Int32) = ((some (1 : Int32)).bind (fun q => if q = 0 then none else (some (sch z k)).bind (fun q => if q = sch z k then some q else none))) from by simp]
    refine V_aload_n (pc := 0) dJ0_charAt_5068e_0 rfl rfl ?_
    refine V_callT (pc := 1) (As := []) (rest := []) k_z rfl (cs_isLatin1 w z k_z σ) cw_J0_492 rfl rfl dJ0_charAt_5068e_1 ⟨Nat.le_of_ble_eq_true rfl, Nat.le_of_ble_eq_true rfl⟩ rfl rfl (Nat.le_of_ble_eq_true rfl) (Nat.le_of_ble_eq_true rfl) (Nat.le_of_ble_eq_true rfl) rfl (fun q => ?_)
    refine V_if_eq (pc := 4) (tgt := 16) dJ0_charAt_5068e_4 (by decide) V_none ?_
    refine V_aload_n (pc := 7) dJ0_charAt_5068e_7 rfl rfl ?_
    refine V_sval (pc := 8) dJ0_charAt_5068e_8 rfl k_z (gm (by decide +kernel) (by decide +kernel)) ?_
    refine V_iload_n (pc := 11) dJ0_charAt_5068e_11 rfl rfl ?_
    refine V_callSpi (pc := 12) (As := [.ref (wV w z), .int k]) (rest := []) (cs_J1_charAt w z k_z k hk σ) cs_J0_495 rfl rfl dJ0_charAt_5068e_12 ⟨Nat.le_of_ble_eq_true rfl, Nat.le_of_ble_eq_true rfl⟩ rfl rfl (Nat.le_of_ble_eq_true rfl) (Nat.le_of_ble_eq_true rfl) (Nat.le_of_ble_eq_true rfl) rfl (fun q2 => ?_)
    refine V_ite (fun h => ?_) (fun _ => V_none)
    exact V_iretz (pc := 15) dJ0_charAt_5068e_15 rfl (by rw [h]; exact sch_narrow z k_z (ix k) (by have := stL_lt z k_z; have := inb_ix hk; omega)) (hk := fun h => h)
  · rw [show fs_charAt z k = none from by rw [fs_charAt, if_neg hk]]
    intro l x _ hx
    cases hx
