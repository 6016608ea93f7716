/-! layer 2: counts of bonds, the last day, who is free, the hub -/
theorem sumbc {V : HV} {N : Nat} (g : GV V N) : sm N (fun p => bc (bndV V N p)) = 2 * cD N (holdsV V) := by
  have h8 := g.le8
  rw [← sm2 (holdsV V) N (fun p q hp hq => holds_sym g (by omega) (by omega))]
  apply sm_congr
  intro p hp
  unfold bndV
  rw [bc_mset _ N h8]
theorem cD_28 {V : HV} {N : Nat} (g : GV V N) : cD N (holdsV V) ≤ 32 := by
  have h8 := g.le8
  have h1 := sumbc g
  have h2 := sm_le (f := fun p => bc (bndV V N p)) (c := 8) (N := N) (fun i _ => bc_le _)
  have : N * 8 ≤ 8 * 8 := Nat.mul_le_mul_right 8 h8
  omega
theorem e_X10_holding {σ : MS} {n N : Nat} (hn : 6000 ≤ n) (g : GH σ 3 N) : f_X10_holding n σ = some (nN (cD N (holdsV (hv σ 3)))) := by
  have hN := g.ppl
  have h8 := g.le8
  have hd : nN (2 * cD N (holdsV (hv σ 3))) / 2 = nN (cD N (holdsV (hv σ 3))) := by
    have H : ∀ k, k < 33 → nN (2 * k) / 2 = nN k := by decide +kernel
    exact H _ (by have := cD_28 g; omega)
  rw [← hd, ← sumbc g]
  unfold f_X10_holding sm
  refine itr_0 (fun (a : Nat) i => (nN a, i)) N (fun p a => a + bc (bndV (hv σ 3) N p)) (fun a => nN a / 2) (by omega) 0 ?_ ?_
  · intro p a hp
    have := mset_256 (fun q => decide (q ≠ p) && holdsV (hv σ 3) p q) h8
    have hb : bndV (hv σ 3) N p < 256 := this
    simp (disch := omega) only [L_X10_holding_4, hN, le_f, le_t, lt_f, lt_t, if_false, if_true, bnd_s, ite_bI, ok_bI, ok_0, ok_1, ltM_s, nN_s, Option.map_some, inb_nN, ix_nN, it_t, it_f, true_or, or_true, e_X4_boundTo hn g, e_bc, nN_add]
  · intro a
    simp (disch := omega) only [L_X10_holding_4, hN, le_f, le_t, lt_f, lt_t, if_false, if_true, bnd_s, ite_bI, ok_bI, ok_0, ok_1, ltM_s, nN_s, Option.map_some, inb_nN, ix_nN, it_t, it_f, true_or, or_true]
theorem e_X12_bondsThatHold {σ : MS} {n N : Nat} (hn : 6000 ≤ n) (g : GW σ N) : f_X12_bondsThatHold n σ = some (nN (cD N (holdsV (rv (σ 172))))) := by
  have hN := e_X12_people g
  have h8 := g.le8
  have z : (0 : Int32) = nN 0 := rfl
  unfold f_X12_bondsThatHold cD pD
  refine itr_0 (fun (a : Nat) i => (nN a, i)) N (fun p a => fR p (fun q a => a + (holdsV (rv (σ 172)) p q).toNat) a) (fun a => nN a) (by omega) 0 ?_ ?_
  · intro p a hp
    simp (disch := omega) only [L_X12_bondsThatHold_4, hN, le_f, le_t, lt_f, lt_t, if_false, if_true, bnd_s, ite_bI, ok_bI, ok_0, ok_1, ltM_s, nN_s, Option.map_some, inb_nN, ix_nN, it_t, it_f, true_or, or_true]
    refine itr_0 (fun (a : Nat) i => (nN a, i)) p (fun q a => a + (holdsV (rv (σ 172)) p q).toNat) (fun a => Sum.inl (nN a, nN (p + 1))) (by omega) a ?_ ?_
    · intro i a hi
      simp (disch := omega) only [L_X12_bondsThatHold_14, J_X12_bondsThatHold_34, le_f, le_t, lt_f, lt_t, if_false, if_true, bnd_s, ite_bI, ok_bI, ok_0, ok_1, ltM_s, nN_s, Option.map_some, inb_nN, ix_nN, it_t, it_f, true_or, or_true, e_X12_holds]
      cases holdsV (rv (σ 172)) p i
      · simp only [Bool.false_eq_true, if_false, z, nN_add]
        rfl
      · rfl
    · intro a
      simp (disch := omega) only [L_X12_bondsThatHold_14, J_X12_bondsThatHold_34, le_f, le_t, lt_f, lt_t, if_false, if_true, bnd_s, ite_bI, ok_bI, ok_0, ok_1, ltM_s, nN_s, Option.map_some, inb_nN, ix_nN, it_t, it_f, true_or, or_true]
  · intro a
    simp (disch := omega) only [L_X12_bondsThatHold_4, hN, le_f, le_t, lt_f, lt_t, if_false, if_true, bnd_s, ite_bI, ok_bI, ok_0, ok_1, ltM_s, nN_s, Option.map_some, inb_nN, ix_nN, it_t, it_f, true_or, or_true]
theorem e_X10_hidden {σ : MS} {n N : Nat} (hn : 6000 ≤ n) (g : GH σ 3 N) : f_X10_hidden n σ = some (nN (cD N (secV (hv σ 3)))) := by
  have hN := g.ppl
  have h8 := g.le8
  rw [← cU_cD (secV (hv σ 3)) (fun p q hp hq => sec_sym g hp hq)]
  unfold f_X10_hidden pU
  refine itr_0 (fun (a : Nat) i => (nN a, i)) N (fun p a => fR (N - (p + 1)) (fun i a => a + (secV (hv σ 3) p (p + 1 + i)).toNat) a) (fun a => nN a) (by omega) 0 ?_ ?_
  · intro p a hp
    simp (disch := omega) only [L_X10_hidden_4, hN, le_f, le_t, lt_f, lt_t, if_false, if_true, bnd_s, ite_bI, ok_bI, ok_0, ok_1, ltM_s, nN_s, Option.map_some, inb_nN, ix_nN, it_t, it_f, true_or, or_true]
    refine itr_up (fun (a : Nat) i => (nN a, i)) (p + 1) (N - (p + 1)) (fun i a => a + (secV (hv σ 3) p (p + 1 + i)).toNat) (fun a => Sum.inl (nN a, nN (p + 1))) (by omega) a ?_ ?_
    · intro i a hi
      simp (disch := omega) only [L_X10_hidden_19, J_X10_hidden_45, hN, le_f, le_t, lt_f, lt_t, if_false, if_true, bnd_s, ite_bI, ok_bI, ok_0, ok_1, ltM_s, nN_s, Option.map_some, inb_nN, ix_nN, it_t, it_f, true_or, or_true, e_X4_isSecret]
      cases secV (hv σ 3) p (p + 1 + i) <;> rfl
    · intro a
      simp (disch := omega) only [L_X10_hidden_19, J_X10_hidden_45, hN, le_f, le_t, lt_f, lt_t, if_false, if_true, bnd_s, ite_bI, ok_bI, ok_0, ok_1, ltM_s, nN_s, Option.map_some, inb_nN, ix_nN, it_t, it_f, true_or, or_true]
  · intro a
    simp (disch := omega) only [L_X10_hidden_4, hN, le_f, le_t, lt_f, lt_t, if_false, if_true, bnd_s, ite_bI, ok_bI, ok_0, ok_1, ltM_s, nN_s, Option.map_some, inb_nN, ix_nN, it_t, it_f, true_or, or_true]
theorem e_X12_secrets {σ : MS} {n N : Nat} (hn : 6000 ≤ n) (g : GW σ N) : f_X12_secrets n σ = some (nN (cD N (secV (rv (σ 172)))), mu σ 171 0 0) := by
  have h8 := g.le8
  obtain ⟨τ, hτ⟩ : ∃ τ, τ = mu σ 171 0 0 := ⟨_, rfl⟩
  have hrow : τ 172 = σ 172 := by rw [hτ]; exact thr0 σ
  have g' : GW τ N := g.row hrow
  have hN := e_X12_people g'
  have z : (0 : Int32) = nN 0 := rfl
  simp only [f_X12_secrets, ltM_s, ← hτ]
  unfold cD pD
  refine itr_0 (fun (a : Nat) i => (nN a, i)) N (fun p a => fR p (fun q a => a + (secV (rv (σ 172)) p q).toNat) a) (fun a => (nN a, τ)) (by omega) 0 ?_ ?_
  · intro p a hp
    simp (disch := omega) only [L_X12_secrets_9, hN, le_f, le_t, lt_f, lt_t, if_false, if_true, bnd_s, ite_bI, ok_bI, ok_0, ok_1, ltM_s, nN_s, Option.map_some, inb_nN, ix_nN, it_t, it_f, true_or, or_true]
    refine itr_0 (fun (a : Nat) i => (nN a, i)) p (fun q a => a + (secV (rv (σ 172)) p q).toNat) (fun a => Sum.inl (nN a, nN (p + 1))) (by omega) a ?_ ?_
    · intro i a hi
      simp (disch := omega) only [L_X12_secrets_19, J_X12_secrets_39, le_f, le_t, lt_f, lt_t, if_false, if_true, bnd_s, ite_bI, ok_bI, ok_0, ok_1, ltM_s, nN_s, Option.map_some, inb_nN, ix_nN, it_t, it_f, true_or, or_true, e_X12_isSecret, hrow]
      cases secV (rv (σ 172)) p i
      · simp only [Bool.false_eq_true, if_false, z, nN_add]
        rfl
      · rfl
    · intro a
      simp (disch := omega) only [L_X12_secrets_19, J_X12_secrets_39, le_f, le_t, lt_f, lt_t, if_false, if_true, bnd_s, ite_bI, ok_bI, ok_0, ok_1, ltM_s, nN_s, Option.map_some, inb_nN, ix_nN, it_t, it_f, true_or, or_true]
  · intro a
    simp (disch := omega) only [L_X12_secrets_9, hN, le_f, le_t, lt_f, lt_t, if_false, if_true, bnd_s, ite_bI, ok_bI, ok_0, ok_1, ltM_s, nN_s, Option.map_some, inb_nN, ix_nN, it_t, it_f, true_or, or_true]
/-! the last day -/
theorem mxI_toInt (a b : Int32) : (mxI a b).toInt = max a.toInt b.toInt := by
  unfold mxI
  split
  · rename_i h
    rw [Int32.lt_iff_toInt_lt] at h
    omega
  · rename_i h
    rw [Int32.lt_iff_toInt_lt] at h
    omega
theorem mnI_toInt (a b : Int32) : (mnI a b).toInt = min a.toInt b.toInt := by
  unfold mnI
  split
  · rename_i h
    rw [Int32.lt_iff_toInt_lt] at h
    omega
  · rename_i h
    rw [Int32.lt_iff_toInt_lt] at h
    omega
theorem mx_comm3 (a x y : Int32) : mxI (mxI a x) y = mxI (mxI a y) x := by
  rw [← Int32.toInt_inj, mxI_toInt, mxI_toInt, mxI_toInt, mxI_toInt]
  omega
def endG (V : HV) (p q : Nat) (a : Int32) : Int32 := if holdsV V p q = true then mxI a (V 7 (8 * p + q)) else a
def endV (V : HV) (N : Nat) : Int32 := pD N (endG V) (V 0 5)
theorem endU {V : HV} {N : Nat} (g : GV V N) (a : Int32) : pU N (endG V) a = pD N (endG V) a := by
  have h8 := g.le8
  rw [pU_pD (endG V) N a ?_]
  · apply pD_congr
    intro p q b hp hq
    unfold endG
    rw [holds_sym g (show q < 8 by omega) (show p < 8 by omega)]
    obtain ⟨-, -, -, -, -, -, -, -, -, -, -, -, ⟨-, h7⟩⟩ := g
    rw [h7 q p (by omega) (by omega)]
  · intro p q p' q' b _ _ _ _
    unfold endG
    split <;> split <;> first | rfl | exact mx_comm3 _ _ _
theorem day_nn {V : HV} {N : Nat} (g : GV V N) : (0 : Int32) ≤ V 0 5 := by
  obtain ⟨-, -, -, -, -, ⟨t, ht, h2⟩, -⟩ := g
  rw [ht, nN_0le (by omega)]
  trivial
theorem e_X10_lastDay {σ : MS} {n N : Nat} (hn : 6000 ≤ n) (g : GH σ 3 N) : f_X10_lastDay n σ = some (endV (hv σ 3) N) := by
  have hN := g.ppl
  have h8 := g.le8
  have e5 : hv σ 3 0 5 = σ 3 5 := rfl
  have hge : ∀ p q (a : Int32), (0 : Int32) ≤ a → (0 : Int32) ≤ endG (hv σ 3) p q a := by
    intro p q a ha
    unfold endG
    split
    · rw [Int32.le_iff_toInt_le] at ha ⊢
      rw [mxI_toInt]
      omega
    · exact ha
  unfold endV
  rw [← endU g]
  unfold f_X10_lastDay pU
  rw [← e5]
  refine itr_0P (fun (a : Int32) i => (a, i)) N (fun p a => fR (N - (p + 1)) (fun i a => endG (hv σ 3) p (p + 1 + i) a) a) (fun a => a) (fun _ a => (0 : Int32) ≤ a) (by omega) _ (day_nn g) ?_ ?_
  · intro p a hp ha
    constructor
    · simp (disch := omega) only [L_X10_lastDay_10, hN, le_f, le_t, lt_f, lt_t, if_false, if_true, bnd_s, ite_bI, ok_bI, ok_0, ok_1, ltM_s, nN_s, Option.map_some, inb_nN, ix_nN, it_t, it_f, true_or, or_true]
      refine itr_upP (fun (a : Int32) i => (a, i)) (p + 1) (N - (p + 1)) (fun i a => endG (hv σ 3) p (p + 1 + i) a) (fun a => Sum.inl (a, nN (p + 1))) (fun _ a => (0 : Int32) ≤ a) (by omega) a ha ?_ ?_
      · intro i a hi ha
        refine ⟨?_, hge _ _ _ ha⟩
        simp (disch := omega) only [L_X10_lastDay_25, hN, le_f, le_t, lt_f, lt_t, if_false, if_true, bnd_s, ite_bI, ok_bI, ok_0, ok_1, ltM_s, nN_s, Option.map_some, inb_nN, ix_nN, it_t, it_f, true_or, or_true, e_X4_heldTill]
        unfold endG tillV
        cases holdsV (hv σ 3) p (p + 1 + i)
        · have : mxI a (-1) = a := mx_l (by
            rw [Int32.le_iff_toInt_le] at ha ⊢
            have z : (0 : Int32).toInt = 0 := rfl
            rw [m1_toInt]
            omega)
          simp only [Bool.false_eq_true, if_false, this]
        · simp only [if_true]
      · intro a _
        simp (disch := omega) only [L_X10_lastDay_25, hN, le_f, le_t, lt_f, lt_t, if_false, if_true, bnd_s, ite_bI, ok_bI, ok_0, ok_1, ltM_s, nN_s, Option.map_some, inb_nN, ix_nN, it_t, it_f, true_or, or_true]
    · refine fR_inv (fun _ a => (0 : Int32) ≤ a) a ha ?_
      intro i b _ hb
      exact hge _ _ _ hb
  · intro a _
    simp (disch := omega) only [L_X10_lastDay_10, hN, le_f, le_t, lt_f, lt_t, if_false, if_true, bnd_s, ite_bI, ok_bI, ok_0, ok_1, ltM_s, nN_s, Option.map_some, inb_nN, ix_nN, it_t, it_f, true_or, or_true]
theorem e_X12_ends {σ : MS} {n N : Nat} (hn : 6000 ≤ n) (g : GW σ N) : f_X12_ends n σ = some (endV (rv (σ 172)) N, mu σ 171 0 0) := by
  have h8 := g.le8
  obtain ⟨τ, hτ⟩ : ∃ τ, τ = mu σ 171 0 0 := ⟨_, rfl⟩
  have hrow : τ 172 = σ 172 := by rw [hτ]; exact thr0 σ
  have g' : GW τ N := g.row hrow
  have hN := e_X12_people g'
  have e5 : τ 172 3 = rv (σ 172) 0 5 := by rw [hrow]; rfl
  simp only [f_X12_ends, ltM_s, ← hτ, e5]
  unfold endV pD
  refine itr_0 (fun (a : Int32) i => (a, i)) N (fun p a => fR p (fun q a => endG (rv (σ 172)) p q a) a) (fun a => (a, τ)) (by omega) _ ?_ ?_
  · intro p a hp
    simp (disch := omega) only [L_X12_ends_14, hN, le_f, le_t, lt_f, lt_t, if_false, if_true, bnd_s, ite_bI, ok_bI, ok_0, ok_1, ltM_s, nN_s, Option.map_some, inb_nN, ix_nN, it_t, it_f, true_or, or_true]
    refine itr_0 (fun (a : Int32) i => (a, i)) p (fun q a => endG (rv (σ 172)) p q a) (fun a => Sum.inl (a, nN (p + 1))) (by omega) a ?_ ?_
    · intro i a hi
      obtain ⟨h5, h6, h7⟩ := w_pair (σ := σ) (p := p) (q := i) (by omega) (by omega)
      simp (disch := omega) only [L_X12_ends_24, J_X12_ends_60, f_X12_both, le_f, le_t, lt_f, lt_t, if_false, if_true, bnd_s, ite_bI, ok_bI, ok_0, ok_1, ltM_s, nN_s, Option.map_some, inb_nN, ix_nN, it_t, it_f, true_or, or_true, e_X12_holds, i8', a170, hrow]
      unfold endG
      rw [h7]
      cases holdsV (rv (σ 172)) p i <;> rfl
    · intro a
      simp (disch := omega) only [L_X12_ends_24, J_X12_ends_60, le_f, le_t, lt_f, lt_t, if_false, if_true, bnd_s, ite_bI, ok_bI, ok_0, ok_1, ltM_s, nN_s, Option.map_some, inb_nN, ix_nN, it_t, it_f, true_or, or_true]
  · intro a
    simp (disch := omega) only [L_X12_ends_14, hN, le_f, le_t, lt_f, lt_t, if_false, if_true, bnd_s, ite_bI, ok_bI, ok_0, ok_1, ltM_s, nN_s, Option.map_some, inb_nN, ix_nN, it_t, it_f, true_or, or_true]
/-! the hub -/
def hubV (V : HV) (N : Nat) : Nat × Int32 := fR N (fun p a => if a.1 < bc (bndV V N p) then (bc (bndV V N p), nN p) else a) (0, -1)
theorem e_X10_centre {σ : MS} {n N : Nat} (hn : 6000 ≤ n) (g : GH σ 3 N) : f_X10_centre n σ = some (hubV (hv σ 3) N).2 := by
  have hN := g.ppl
  have h8 := g.le8
  unfold f_X10_centre hubV
  refine itr_0P (fun (a : Nat × Int32) i => (nN a.1, a.2, i)) N (fun p a => if a.1 < bc (bndV (hv σ 3) N p) then (bc (bndV (hv σ 3) N p), nN p) else a) (fun a => a.2) (fun _ a => a.1 ≤ 8) (by omega) (0, -1) (by decide) ?_ ?_
  · intro p a hp ha
    obtain ⟨a1, a2⟩ := a
    have hb : bndV (hv σ 3) N p < 256 := mset_256 _ h8
    have hc := bc_le (bndV (hv σ 3) N p)
    constructor
    · simp (disch := omega) only [L_X10_centre_6, J_X10_centre_41, hN, le_f, le_t, lt_f, lt_t, if_false, if_true, bnd_s, ite_bI, ok_bI, ok_0, ok_1, ltM_s, nN_s, Option.map_some, inb_nN, ix_nN, it_t, it_f, true_or, or_true, e_X4_boundTo hn g, e_bc]
      have ha' : a1 ≤ 8 := ha
      rw [it_le (by omega) (by omega)]
      by_cases c : a1 < bc (bndV (hv σ 3) N p)
      · rw [if_neg (by omega), if_pos c]
      · rw [if_pos (by omega), if_neg c]
    · show (if a1 < bc (bndV (hv σ 3) N p) then (bc (bndV (hv σ 3) N p), nN p) else (a1, a2)).1 ≤ 8
      split
      · exact hc
      · exact ha
  · intro a _
    simp (disch := omega) only [L_X10_centre_6, J_X10_centre_41, hN, le_f, le_t, lt_f, lt_t, if_false, if_true, bnd_s, ite_bI, ok_bI, ok_0, ok_1, ltM_s, nN_s, Option.map_some, inb_nN, ix_nN, it_t, it_f, true_or, or_true]
theorem e_X12_hub {σ : MS} {n N : Nat} (hn : 6000 ≤ n) (g : GW σ N) : f_X12_hub n σ = some ((hubV (rv (σ 172)) N).2, mu σ 171 0 0) := by
  have h8 := g.le8
  obtain ⟨τ, hτ⟩ : ∃ τ, τ = mu σ 171 0 0 := ⟨_, rfl⟩
  have hrow : τ 172 = σ 172 := by rw [hτ]; exact thr0 σ
  have g' : GW τ N := g.row hrow
  have hN := e_X12_people g'
  simp only [f_X12_hub, ltM_s, ← hτ]
  unfold hubV
  refine itr_0P (fun (a : Nat × Int32) i => (a.2, nN a.1, i)) N (fun p a => if a.1 < bc (bndV (rv (σ 172)) N p) then (bc (bndV (rv (σ 172)) N p), nN p) else a) (fun a => (a.2, τ)) (fun _ a => a.1 ≤ 8) (by omega) (0, -1) (by decide) ?_ ?_
  · intro p a hp ha
    obtain ⟨a1, a2⟩ := a
    have hb : bndV (rv (σ 172)) N p < 256 := mset_256 _ h8
    have hc := bc_le (bndV (rv (σ 172)) N p)
    constructor
    · simp (disch := omega) only [L_X12_hub_11, J_X12_hub_40, hN, le_f, le_t, lt_f, lt_t, if_false, if_true, bnd_s, ite_bI, ok_bI, ok_0, ok_1, ltM_s, nN_s, Option.map_some, inb_nN, ix_nN, it_t, it_f, true_or, or_true, e_X12_boundTo hn g', hrow, e_bc]
      have ha' : a1 ≤ 8 := ha
      rw [it_le (by omega) (by omega), mxI_nN (by omega) (by omega)]
      by_cases c : a1 < bc (bndV (rv (σ 172)) N p)
      · rw [if_neg (by omega), if_pos c, Nat.max_eq_right (by omega)]
      · rw [if_pos (by omega), if_neg c, Nat.max_eq_left (by omega)]
    · show (if a1 < bc (bndV (rv (σ 172)) N p) then (bc (bndV (rv (σ 172)) N p), nN p) else (a1, a2)).1 ≤ 8
      split
      · exact hc
      · exact ha
  · intro a _
    simp (disch := omega) only [L_X12_hub_11, J_X12_hub_40, hN, le_f, le_t, lt_f, lt_t, if_false, if_true, bnd_s, ite_bI, ok_bI, ok_0, ok_1, ltM_s, nN_s, Option.map_some, inb_nN, ix_nN, it_t, it_f, true_or, or_true]
