/-! the law's loop -/
theorem V_slenL {y : MD} {w : TG} {g : VG} {kc ks : Nat} {Q : State → Prop} {β : Type} {κ : β → Prop} {pc : Nat} {vs : List (Option Value)} {rest : List Value} {σ : MS} {X : Option β} {b0 L : Nat} {xs : Nat → Int32} (hX : va_X b0 L xs (gS g) (gS g).heap) (hb0 : b0 < (gS g).heap.size) (hbA : ¬ wA w b0) (hd : decode y.2.1 pc = .ok (.arraylength, 1)) (kk : VV y w g kc ks Q κ (pc + 1) vs (.int (nI L) :: rest) σ X) : VV y w g kc ks Q κ pc vs (.ref b0 :: rest) σ X :=
  fun b hb hk ok H locs ls hP hS hl' => va_slen ok.1 ok.2.1 hX hb0 hbA hS hd (kk b hb hk ok H locs ls hP hS hl')
/-- one round of the law -/
def lawStep (n : Nat) (xs : Nat → Int32) (j : Nat) (σ : MS) : Option MS := stepOp n (xs (6 * j) &&& 63) (xs (6 * j + 1)) (xs (6 * j + 2)) (xs (6 * j + 3)) (xs (6 * j + 4)) (xs (6 * j + 5)) σ
def lawRun (n : Nat) (xs : Nat → Int32) : Nat → Nat → MS → Option MS
  | 0, _, σ => some σ
  | m + 1, j, σ => (lawStep n xs j σ).bind (fun s => lawRun n xs m (j + 1) s)
abbrev lawVs (w : TG) (b0 j : Nat) : List (Option Value) := [some (.ref b0), some (.ref (wB w + 0)), some (.ref (wB w + 171)), some (.ref (wB w + 183)), some (.int (nI (6 * j))), none, none]
theorem nI_addl (a c : Nat) : nI a + (Int32.ofNat c) = nI (a + c) := by
  rw [← nI_add]
  rfl
theorem inb_nI {k L : Nat} (h : k < L) (hL : L < 2 ^ 31) : inb (nI k) L = true := by
  refine decide_eq_true ?_
  rw [nI_toInt (by omega)]
  omega
theorem ix_nI {k : Nat} (h : k < 2 ^ 31) : ix (nI k) = k := nI_clamp h
theorem lawLen {L j : Nat} (hL : L ≤ 3072) (hj : j ≤ 600) : (nI L - 6 < nI (6 * j)) ↔ L < 6 * j + 6 := by
  rw [Int32.lt_iff_toInt_lt]
  have h1 : (nI (6 * j)).toInt = ((6 * j : Nat) : Int) := nI_toInt (by omega)
  have h2 : (nI L - 6).toInt = (L : Int) - 6 := by
    rw [Int32.toInt_sub, nI_toInt (by omega)]
    have : (6 : Int32).toInt = 6 := by decide
    rw [this]
    exact Int.bmod_eq_of_le (by omega) (by omega)
  rw [h1, h2]
  omega
theorem v_law {w : TG} {g : VG} {Q : State → Prop} (n b0 L : Nat) (xs : Nat → Int32) (hL : L ≤ 3072) (hX : va_X b0 L xs (gS g) (gS g).heap) (hb0 : b0 < (gS g).heap.size) (hbA : ¬ wA w b0) (ok : Okm m_L_law_ w g) (c0 s0 : Nat) (hc0 : c0 ≤ 1000) (hs0 : s0 ≤ 100000) (σ9 : MS)
    (hend : ∀ (j : Nat) (σ : MS), σ = σ9 → VH m_L_law_ w g (c0 + 20 * j) (s0 + 120 * j) Q 2901 (lawVs w b0 j) [] σ) :
    ∀ (m j : Nat) (σ : MS), 6 * (j + m) ≤ L → L < 6 * (j + m) + 6 → lawRun n xs m j σ = some σ9 → VH m_L_law_ w g (c0 + 20 * j) (s0 + 120 * j) Q 23 (lawVs w b0 j) [] σ := by
  intro m
  induction m with
  | zero =>
    intro j σ h1 h2 hr
    have hσ : σ = σ9 := Option.some.inj hr
    have key : VV m_L_law_ w g (c0 + 20 * j) (s0 + 120 * j) Q (fun _ : Unit => True) 23 (lawVs w b0 j) [] σ (if nI L - 6 < nI (6 * j) then some () else none) := by
      refine V_iload (pc := 23) dL_law__23 rfl ?_
      refine V_aload_n (pc := 25) dL_law__25 rfl rfl ?_
      refine V_slenL (pc := 26) hX hb0 hbA dL_law__26 ?_
      refine V_bipush (pc := 27) dL_law__27 bp_6 ?_
      refine V_isub (pc := 29) dL_law__29 ?_
      refine V_icmp_gt (pc := 30) (tgt := 2901) dL_law__30 (by decide +kernel) ?_ V_none
      exact V_back (fun _ => hend j σ hσ)
    exact key () (by rw [if_pos ((lawLen hL (by omega)).mpr (by omega))]) trivial ok
  | succ m ih =>
    intro j σ h1 h2 hr
    obtain ⟨s, hs, hr2⟩ := Option.bind_eq_some_iff.mp hr
    have hin : ∀ c : Nat, c < 6 → inb (nI (6 * j + c)) L = true := fun c hc => inb_nI (by omega) (by omega)
    have hix : ∀ c : Nat, c < 6 → ix (nI (6 * j + c)) = 6 * j + c := fun c hc => ix_nI (by omega)
    have e1 : nI (6 * j) + (1 : Int32) = nI (6 * j + 1) := nI_addl (6 * j) 1
    have e2 : nI (6 * j) + (2 : Int32) = nI (6 * j + 2) := nI_addl (6 * j) 2
    have e3 : nI (6 * j) + (3 : Int32) = nI (6 * j + 3) := nI_addl (6 * j) 3
    have e4 : nI (6 * j) + (4 : Int32) = nI (6 * j + 4) := nI_addl (6 * j) 4
    have e5 : nI (6 * j) + (5 : Int32) = nI (6 * j + 5) := nI_addl (6 * j) 5
    have key : VV m_L_law_ w g (c0 + 20 * j) (s0 + 120 * j) Q (fun s => VH m_L_law_ w g (c0 + 20 * j + 20) (s0 + 120 * j + 120) Q 2895 (lawVs w b0 j) [] s) 23 (lawVs w b0 j) [] σ (if nI L - 6 < nI (6 * j) then none else lawStep n xs j σ) := by
      refine V_iload (pc := 23) dL_law__23 rfl ?_
      refine V_aload_n (pc := 25) dL_law__25 rfl rfl ?_
      refine V_slenL (pc := 26) hX hb0 hbA dL_law__26 ?_
      refine V_bipush (pc := 27) dL_law__27 bp_6 ?_
      refine V_isub (pc := 29) dL_law__29 ?_
      refine V_icmp_gt (pc := 30) (tgt := 2901) dL_law__30 (by decide +kernel) V_none ?_
      refine V_aload_n (pc := 33) dL_law__33 rfl rfl ?_
      refine V_iload (pc := 34) dL_law__34 rfl ?_
      refine V_sld (pc := 36) (v := xs (6 * j)) hX hb0 hbA (hin 0 (by omega)) (congrArg xs (hix 0 (by omega))) dL_law__36 ?_
      refine V_bipush (pc := 37) dL_law__37 bp_63 ?_
      refine V_iand (pc := 39) dL_law__39 ?_
      exact v_switch w g (c0 + 20 * j) (s0 + 120 * j) Q n b0 L xs (nI (6 * j)) (xs (6 * j) &&& 63) (xs (6 * j + 1)) (xs (6 * j + 2)) (xs (6 * j + 3)) (xs (6 * j + 4)) (xs (6 * j + 5)) (by omega) (by omega) hX hb0 hbA (by rw [e1]; exact hin 1 (by omega)) (by rw [e1, hix 1 (by omega)]) (by rw [e2]; exact hin 2 (by omega)) (by rw [e2, hix 2 (by omega)]) (by rw [e3]; exact hin 3 (by omega)) (by rw [e3, hix 3 (by omega)]) (by rw [e4]; exact hin 4 (by omega)) (by rw [e4, hix 4 (by omega)]) (by rw [e5]; exact hin 5 (by omega)) (by rw [e5, hix 5 (by omega)]) σ
    have key2 : VV m_L_law_ w g (c0 + 20 * j + 20) (s0 + 120 * j + 120) Q (fun _ : Unit => True) 2895 (lawVs w b0 j) [] s (some ()) := by
      refine V_iincC (pc := 2895) (vs' := lawVs w b0 (j + 1)) dL_law__2895 (Nat.le_of_ble_eq_true rfl) rfl ic_6 ?_ ?_
      · show [some (Value.ref b0), some (.ref (wB w + 0)), some (.ref (wB w + 171)), some (.ref (wB w + 183)), some (.int (nI (6 * j) + 6)), none, none] = _
        rw [show nI (6 * j) + 6 = nI (6 * (j + 1)) from nI_addl (6 * j) 6]
      · refine V_goto (pc := 2898) (tgt := 23) dL_law__2898 (by decide +kernel) ?_
        exact V_back (fun _ => ih (j + 1) s (by omega) (by omega) hr2)
    exact key s (by rw [if_neg (fun h => by have := (lawLen hL (by omega)).mp h; omega)]; exact hs) (key2 () rfl trivial ok) ok
