/-! layer 2: sums over days -/
theorem meet_ge {su : HV → Nat → Nat → Int32} {p q : Nat} {Z : ZS} : Z.1 ≤ (zMeet su p q Z).1 := by
  unfold zMeet
  split
  · split
    · show Z.1 ≤ Z.1 + 1
      omega
    · exact Nat.le_refl _
  · exact Nat.le_refl _
theorem fR_ge {α : Type} (m : α → Nat) {g : Nat → α → α} (h : ∀ i a, m a ≤ m (g i a)) : ∀ (N : Nat) (a : α), m a ≤ m (fR N g a) := by
  intro N
  induction N with
  | zero => intro a; exact Nat.le_refl _
  | succ k ih => intro a; rw [fR_s]; exact Nat.le_trans (ih a) (h k _)
theorem day_ge {su : HV → Nat → Nat → Int32} {N : Nat} {dr : Bool} {Z : ZS} : Z.1 ≤ (zDay su N dr Z).1 := by
  show Z.1 ≤ (zMeets su N (Z.1, zMoves N dr Z.2.1, Z.2.2)).1
  exact fR_ge (fun Z : ZS => Z.1) (fun p Z => fR_ge (fun Z : ZS => Z.1) (fun i Z => meet_ge) _ Z) N (Z.1, zMoves N dr Z.2.1, Z.2.2)
theorem dZ_s {su : HV → Nat → Nat → Int32} {N : Nat} {dr : Bool} {Z : ZS} {D : Nat} : (dZ su N dr (D + 1) Z).2 = zDay su N dr (dZ su N dr D Z).2 := rfl
theorem dZ_ge {su : HV → Nat → Nat → Int32} {N : Nat} {dr : Bool} {Z : ZS} : ∀ D, Z.1 ≤ (dZ su N dr D Z).2.1 := by
  intro D
  induction D with
  | zero => exact Nat.le_refl _
  | succ D ih => rw [dZ_s]; exact Nat.le_trans ih day_ge
/-- footprints of so many days -/
def prZ (su : HV → Nat → Nat → Int32) (N : Nat) (dr : Bool) (D : Nat) (Z : ZS) : Nat := (dZ su N dr D Z).2.1 - Z.1
theorem pr_s {su : HV → Nat → Nat → Int32} {N : Nat} {dr : Bool} {Z : ZS} {D : Nat} : nN (prZ su N dr D Z) + (nN (zDay su N dr (dZ su N dr D Z).2).1 - nN (dZ su N dr D Z).2.1) = nN (prZ su N dr (D + 1) Z) := by
  have h1 := dZ_ge (su := su) (N := N) (dr := dr) (Z := Z) D
  have h2 := day_ge (su := su) (N := N) (dr := dr) (Z := (dZ su N dr D Z).2)
  rw [nN_sub h2, nN_add]
  unfold prZ
  rw [dZ_s]
  congr 1
  omega
theorem bb_back {m0 s' : MS} {n : Nat} (hn : 6000 ≤ n) (ho : offM (rsw m0 175 (fun k => if k < 474 then m0 172 k else m0 175 k)) s') : ∃ υ, f_X12_bringsBack n s' = some (0, υ) ∧ υ 172 = m0 172 ∧ (∀ o, o ≠ 171 → o ≠ 175 → o ≠ 179 → υ o = m0 o) ∧ (∀ i, (i < 18 ∨ 21 < i) → υ 171 i = m0 171 i) := by
  have h175 : s' 175 = fun k => if k < 474 then m0 172 k else m0 175 k := by rw [ho.1 175 (by omega) (by omega) (by omega), rsw_own]
  have hrow := kb_row (σ := m0) s' h175 (fun k hk => by rw [ho.2.2 k (Or.inr hk), rsw_row (by omega)])
  have e := e_bringsBack s' hn
  rw [hrow] at e
  refine ⟨_, e, rsw_own _ _ _, fun o o1 o2 o3 => ?_, fun i hi => ?_⟩
  · by_cases c : o = 172
    · rw [c, rsw_own]
    · rw [rsw_row c, ho.1 o o1 c o3, rsw_row o2]
  · rw [rsw_row (by omega), ho.2.1 i hi, rsw_row (by omega)]
theorem CR_bec {σ τ : MS} {h0 h1 : Nat} {Z : ZS} (hc : CR σ h1 Z) (b : Bec σ τ h0 h1) : CR τ h0 Z := by
  refine ⟨?_, ?_⟩
  · rw [← hc.1]
    funext k i
    unfold hv
    by_cases c : i < rng k
    · rw [if_pos c, if_pos c, b.1 k i _ c]
      apply Classical.byContradiction
      intro hcc
      rw [rng_hi (by omega)] at c
      omega
    · rw [if_neg c, if_neg c]
  · intro ago a1 a2
    rw [b.2.1 _ (Nat.mod_lt _ (by omega))]
    exact hc.2 ago a1 a2
theorem Inv_Z {j : Nat} {σ : MS} (h : Inv j σ) : ∃ N Z, ZG N Z ∧ Z.1 ≤ 3840 * j ∧ CR σ 3 Z ∧ MR (σ 172) Z := by
  obtain ⟨N, Z, h1, h2, h3, h4, h5⟩ := HR_Z h.1
  exact ⟨N, Z, h1, h2, ⟨h3, h4⟩, h5⟩
theorem Inv_N {j N N' : Nat} {σ : MS} {Z : ZS} (g : ZG N' Z) (hm : MR (σ 172) Z) (gw : GW σ N) : N' = N := by
  have h1 := g.1.people
  have h2 : rv (σ 172) 0 0 = nN N := gw.people
  rw [hm.1, h1, nN_eq (by have := g.1.le8; omega) (by have := gw.le8; omega)] at h2
  exact h2
theorem offM_keep (m0 : MS) (r : Nat → Int32) : MR (m0 172) = MR (rsw m0 175 r 172) := by rw [rsw_row (by omega)]
/-- a loop of days that adds up footprints -/
theorem m_sum {σ s : MS} {n N D : Nat} {Z : ZS} {S : (Nat → Int32) → Int32 → Int32} {β : Type} {f : Int32 × Int32 × MS → Option ((Int32 × Int32 × MS) ⊕ β)} {R : β → Prop} (hn : 6000 ≤ n) (hS : LawF σ n S) (hw : ∀ k, (k = 2 ∨ 474 ≤ k) → s 172 k = σ 172 k) (g : ZG N Z) (hm : MR (s 172) Z) (hf : Z.1 < 1000000000) (hD : D ≤ 400)
    (hstep : ∀ (x : Int32) (i : Nat) (s' : MS) (v : Int32) (t : MS), i < D → f_X12_oneDay n 0 s' = some (v, t) → f (x, nN i, s') = some (.inl (x + v, nN (i + 1), t)))
    (hlast : ∀ (s' : MS), MR (s' 172) (dZ (suS σ S) N true D Z).2 → offM s s' → ∃ b, f (nN (prZ (suS σ S) N true D Z), nN D, s') = some (.inr b) ∧ R b) : ∃ b, itr f n (0, 0, s) = some b ∧ R b := by
  have hsu := su_ok hS
  refine itr_inv (fun i st => ∃ s', st = (nN (prZ (suS σ S) N true i Z), nN i, s') ∧ MR (s' 172) (dZ (suS σ S) N true i Z).2 ∧ offM s s') R D ?_ ?_ n 0 _ (by omega) (by omega) ⟨s, by unfold prZ; rw [show (dZ (suS σ S) N true 0 Z).2.1 - Z.1 = 0 from Nat.sub_self _]; rfl, hm, offM_refl s⟩
  · rintro i st hi ⟨s', rfl, hm', ho⟩
    left
    obtain ⟨g', hf'⟩ := dZ_g (dr := true) hsu g i
    obtain ⟨t, q1, q2, q3⟩ := m_day hn hS (fun k hk => by rw [ho.2.2 k hk]; exact hw k hk) g' hm' (by omega) true
    have q1' : f_X12_oneDay n 0 s' = some (nN (zDay (suS σ S) N true (dZ (suS σ S) N true i Z).2).1 - nN (dZ (suS σ S) N true i Z).2.1, t) := q1
    exact ⟨_, hstep _ i s' _ t hi q1', t, by rw [pr_s], q2, offM_trans ho q3⟩
  · rintro st ⟨s', rfl, hm', ho⟩
    exact hlast s' hm' ho
