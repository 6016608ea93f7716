/-! layer 2: the law's cases that only ask -/
theorem q_step {j : Nat} {σ : MS} {k : Int32} {b : Int32} {m : MS} (hI : Inv j σ) (hs : Sm σ m) (h1 : m 171 0 = k) (h2 : k = 0 → m 183 0 = b) : ∃ τ, cmpL k (b, m) = some τ ∧ Inv (j + 1) τ :=
  ⟨m, cmp_ok h1 h2, Inv_mono (Inv_same hI hs) (by omega)⟩
theorem sm_ok (σ : MS) (v : Int32) : Sm σ (mu (mu σ 183 0 v) 171 0 0) ∧ (mu (mu σ 183 0 v) 171 0 0) 171 0 = 0 ∧ (mu (mu σ 183 0 v) 171 0 0) 183 0 = v := by
  refine ⟨Sm_trans (Sm_out σ v) (Sm_thr _ 0), by rw [mu_own]; rfl, ?_⟩
  rw [mu_at, if_neg (by omega), mu_own]
  rfl
theorem sm_ex (σ : MS) (c : Int32) : Sm σ (mu (mu σ 171 0 0) 171 0 c) ∧ (mu (mu σ 171 0 0) 171 0 c) 171 0 = c := by
  refine ⟨Sm_trans (Sm_thr σ 0) (Sm_thr _ c), by rw [mu_own]; rfl⟩
theorem out_row (σ : MS) (v : Int32) : mu σ 183 0 v 172 = σ 172 := mu_row (by omega)
/-- both ask only, and agree -/
theorem s_val {j : Nat} {σ : MS} {v : Int32} {F : Option Int32} {M : Option (Int32 × MS)} (hI : Inv j σ) (hF : F = some v) (hM : M = some (v, mu σ 171 0 0)) : ∃ τ, (F.bind (fun q => M.bind (fun m => if q = m.1 then some m.2 else none))) = some τ ∧ Inv (j + 1) τ := by
  rw [hF, hM]
  simp only [bnd_s, if_true]
  exact ⟨_, rfl, Inv_mono (Inv_same hI (Sm_thr σ 0)) (by omega)⟩
theorem g_out {σ : MS} {N : Nat} (g : GW σ N) (v : Int32) : GW (mu σ 183 0 v) N := g.row (out_row σ v)
theorem s_16 {j n : Nat} {σ : MS} {x1 x2 x3 x4 x5 : Int32} (hn : 6000 ≤ n) (hI : Inv j σ) : ∃ τ, step_16 n x1 x2 x3 x4 x5 σ = some τ ∧ Inv (j + 1) τ := by
  obtain ⟨N, e, gh, gw⟩ := Inv_v hI
  unfold step_16
  refine s_val hI (v := nN (cirV (hv σ 3) N)) ?_ ?_
  · simp only [f_X11_circles, e_X10_groups hn gh, bnd_s]
  · rw [e_X12_circles hn gw, e]
theorem s_17 {j n : Nat} {σ : MS} {x1 x2 x3 x4 x5 : Int32} (hn : 6000 ≤ n) (hI : Inv j σ) : ∃ τ, step_17 n x1 x2 x3 x4 x5 σ = some τ ∧ Inv (j + 1) τ := by
  obtain ⟨N, e, gh, gw⟩ := Inv_v hI
  unfold step_17
  refine s_val hI (v := endV (hv σ 3) N) ?_ ?_
  · simp only [f_X11_ends, e_X10_lastDay hn gh, bnd_s]
  · rw [e_X12_ends hn gw, e]
theorem s_19 {j n : Nat} {σ : MS} {x1 x2 x3 x4 x5 : Int32} (hn : 6000 ≤ n) (hI : Inv j σ) : ∃ τ, step_19 n x1 x2 x3 x4 x5 σ = some τ ∧ Inv (j + 1) τ := by
  obtain ⟨N, e, gh, gw⟩ := Inv_v hI
  unfold step_19
  refine s_val hI (v := nN (cD N (secV (hv σ 3)))) ?_ ?_
  · simp only [f_X11_secrets, e_X10_hidden hn gh, bnd_s]
  · rw [e_X12_secrets hn gw, e]
theorem s_28 {j n : Nat} {σ : MS} {x1 x2 x3 x4 x5 : Int32} (hn : 6000 ≤ n) (hI : Inv j σ) : ∃ τ, step_28 n x1 x2 x3 x4 x5 σ = some τ ∧ Inv (j + 1) τ := by
  obtain ⟨N, e, gh, gw⟩ := Inv_v hI
  unfold step_28
  refine s_val hI (v := (hubV (hv σ 3) N).2) ?_ ?_
  · simp only [f_X11_hub, e_X10_centre hn gh, bnd_s]
  · rw [e_X12_hub hn gw, e]
theorem s_26 {j n : Nat} {σ : MS} {x1 x2 x3 x4 x5 : Int32} (hn : 6000 ≤ n) (hI : Inv j σ) : ∃ τ, step_26 n x1 x2 x3 x4 x5 σ = some τ ∧ Inv (j + 1) τ := by
  obtain ⟨N, e, gh, gw⟩ := Inv_v hI
  obtain ⟨r, h1, h2⟩ := e_X10_cover hn gh
  obtain ⟨r', h3, h4⟩ := e_X12_tell hn gw
  rw [← e] at h4
  rw [← TL_one h2 h4] at h3
  unfold step_26
  refine s_val hI (v := nN r) ?_ ?_
  · simp only [f_X11_tell, h1, bnd_s]
  · exact h3
/-- one throws as the other does, or both answer alike -/
theorem s_thr {j : Nat} {σ : MS} (hI : Inv j σ) (A : Option (Int32 × MS)) (M : MS → Option (Int32 × MS))
    (h : (∃ v, A = some (0, mu σ 183 0 v) ∧ M (mu σ 183 0 v) = some (v, mu (mu σ 183 0 v) 171 0 0)) ∨ (∃ c b, c ≠ 0 ∧ A = some (c, σ) ∧ M σ = some (b, mu (mu σ 171 0 0) 171 0 c))) :
    ∃ τ, (A.bind (fun q => (M q.2).bind (fun m => cmpL q.1 m))) = some τ ∧ Inv (j + 1) τ := by
  rcases h with ⟨v, h1, h2⟩ | ⟨c, b, h0, h1, h2⟩
  · rw [h1]
    simp only [bnd_s, h2]
    obtain ⟨a1, a2, a3⟩ := sm_ok σ v
    exact q_step hI a1 a2 (fun _ => a3)
  · rw [h1]
    simp only [bnd_s, h2]
    obtain ⟨a1, a2⟩ := sm_ex σ c
    exact q_step hI a1 a2 (fun h => absurd h h0)
theorem s_22 {j n : Nat} {σ : MS} {x1 x2 x3 x4 x5 : Int32} (hn : 6000 ≤ n) (hI : Inv j σ) : ∃ τ, step_22 n x1 x2 x3 x4 x5 σ = some τ ∧ Inv (j + 1) τ := by
  obtain ⟨N, e, gh, gw⟩ := Inv_v hI
  have h8 := gw.le8
  unfold step_22
  refine s_thr hI (f_L_parts n x1 x2 σ) (fun s => f_X12_parts n x1 x2 s) ?_
  cases hxy : (isP N x1 && isP N x2)
  · right
    refine ⟨1, 0, by decide, ?_, ?_⟩
    · simp only [f_L_parts, f_X11_parts, e_needTwo gh, hxy, thn_l, thn_r, ltM_s, bnd_s, if_true, if_false, Bool.false_eq_true, Nat.reduceEqDiff, Nat.one_ne_zero]
    · simp only [e_X12_parts hn gw, hxy, if_false, Bool.false_eq_true]
  · by_cases c : x1 = x2
    · have c' : (x1 = x2) = True := eq_true c
      right
      refine ⟨2, 0, by decide, ?_, ?_⟩
      · simp only [f_L_parts, f_X11_parts, e_needTwo gh, hxy, c', thn_l, thn_r, ltM_s, bnd_s, if_true, if_false, Bool.false_eq_true, Nat.reduceEqDiff, Nat.one_ne_zero]
        first | done | rfl
      · simp only [e_X12_parts hn gw, hxy, if_true, c']
    · left
      have hx := hxy
      rw [Bool.and_eq_true] at hx
      obtain ⟨p, hp, rfl⟩ := isP_t hx.1
      obtain ⟨o, ho, rfl⟩ := isP_t hx.2
      refine ⟨nN (cutV (hv σ 3) N p o), ?_, ?_⟩
      · simp (disch := omega) only [f_L_parts, f_X11_parts, e_needTwo gh, hxy, c, e_X10_cut hn gh, thn_l, thn_r, ltM_s, bnd_s, if_true, if_false, Bool.false_eq_true, Nat.reduceEqDiff, Nat.one_ne_zero]
      · simp (disch := omega) only [e_X12_parts hn (g_out gw _), hxy, if_true, c, if_false, out_row, ix_nN, e]
theorem s_32 {j n : Nat} {σ : MS} {x1 x2 x3 x4 x5 : Int32} (hn : 6000 ≤ n) (hI : Inv j σ) : ∃ τ, step_32 n x1 x2 x3 x4 x5 σ = some τ ∧ Inv (j + 1) τ := by
  obtain ⟨N, e, gh, gw⟩ := Inv_v hI
  have h8 := gw.le8
  unfold step_32
  refine s_thr hI (f_L_unseen n x1 x2 σ) (fun s => f_X12_unseen n x1 x2 s) ?_
  cases hxy : (isP N x1 && isP N x2)
  · right
    refine ⟨1, 0, by decide, ?_, ?_⟩
    · simp only [f_L_unseen, f_X11_unseen, e_needTwo gh, hxy, thn_l, thn_r, ltM_s, bnd_s, if_true, if_false, Bool.false_eq_true, Nat.reduceEqDiff, Nat.one_ne_zero]
    · simp only [e_X12_unseen hn gw, hxy, if_false, Bool.false_eq_true]
  · by_cases c : x1 = x2
    · have c' : (x1 = x2) = True := eq_true c
      right
      refine ⟨2, 0, by decide, ?_, ?_⟩
      · simp only [f_L_unseen, f_X11_unseen, e_needTwo gh, hxy, c', thn_l, thn_r, ltM_s, bnd_s, if_true, if_false, Bool.false_eq_true, Nat.reduceEqDiff, Nat.one_ne_zero]
        first | done | rfl
      · simp only [e_X12_unseen hn gw, hxy, if_true, c']
    · left
      have hx := hxy
      rw [Bool.and_eq_true] at hx
      obtain ⟨p, hp, rfl⟩ := isP_t hx.1
      obtain ⟨o, ho, rfl⟩ := isP_t hx.2
      obtain ⟨hf, hf64⟩ := flN_is (V := hv σ 3) gh
      obtain ⟨ha, ha6⟩ := roN_is (V := hv σ 3) gh (show p < 8 by omega)
      obtain ⟨hb, hb6⟩ := roN_is (V := hv σ 3) gh (show o < 8 by omega)
      have ra : σ 4 p = nN (roN (hv σ 3) p) := (h_one (σ := σ) (h := 3) (show p < 8 by omega)).1.symm.trans ha
      have rb : σ 4 o = nN (roN (hv σ 3) o) := (h_one (σ := σ) (h := 3) (show o < 8 by omega)).1.symm.trans hb
      have hm := e_X3_meeting (σ := σ) hn hf hf64 ha6 hb6
      refine ⟨meetV (flN (hv σ 3)) (roN (hv σ 3) p) (roN (hv σ 3) o), ?_, ?_⟩
      · simp (disch := omega) only [f_L_unseen, f_X11_unseen, e_needTwo gh, hxy, c, inb_nN, ix_nN, ra, rb, hm, thn_l, thn_r, ltM_s, bnd_s, if_true, if_false, Bool.false_eq_true, Nat.reduceEqDiff, Nat.one_ne_zero]
      · simp (disch := omega) only [e_X12_unseen hn (g_out gw _), hxy, if_true, c, if_false, out_row, ix_nN, e]
