/-! the law from its entry to its end -/
theorem v_law2 {w : TG} {g : VG} {Q : State → Prop} (n b0 L : Nat) (xs : Nat → Int32) (hL : L ≤ 3072) (hX : va_X b0 L xs (gS g) (gS g).heap) (hb0 : b0 < (gS g).heap.size) (hbA : ¬ wA w b0) (ok : Okm m_L_law_ w g) (c0 t0 : Nat) (hc0 : c0 ≤ 1000) (hs0 : t0 ≤ 100000) (σ9 : MS)
    (hend : ∀ (j : Nat) (σ : MS), j ≤ 600 → σ = σ9 → VH m_L_law_ w g (c0 + 20 * j) (t0 + 120 * j) Q 2901 (lawVs w b0 j) [] σ) :
    ∀ (m j : Nat) (σ : MS), 6 * (j + m) ≤ L → L < 6 * (j + m) + 6 → lawRun n xs m j σ = some σ9 → VH m_L_law_ w g (c0 + 20 * j) (t0 + 120 * j) Q 23 (lawVs w b0 j) [] σ := by
  intro m
  induction m with
  | zero =>
    intro j σ h1 h2 hr
    have hσ : σ = σ9 := Option.some.inj hr
    have key : VV m_L_law_ w g (c0 + 20 * j) (t0 + 120 * j) Q (fun _ : Unit => True) 23 (lawVs w b0 j) [] σ (if nI L - 6 < nI (6 * j) then some () else none) := by
      refine V_iload (pc := 23) dL_law__23 rfl ?_
      refine V_aload_n (pc := 25) dL_law__25 rfl rfl ?_
      refine V_slenL (pc := 26) hX hb0 hbA dL_law__26 ?_
      refine V_bipush (pc := 27) dL_law__27 bp_6 ?_
      refine V_isub (pc := 29) dL_law__29 ?_
      refine V_icmp_gt (pc := 30) (tgt := 2901) dL_law__30 (by decide +kernel) ?_ V_none
      exact V_back (fun _ => hend j σ (by omega) hσ)
    exact key () (by rw [if_pos ((lawLen hL (by omega)).mpr (by omega))]) trivial ok
  | succ m ih =>
    intro j σ h1 h2 hr
    obtain ⟨s, hs, hr2⟩ := Option.bind_eq_some_iff.mp hr
    have hin : ∀ c : Nat, c < 6 → inb (nI (6 * j + c)) L = true := fun c hc => inb_nI (by omega) (by omega)
    have hix : ∀ c : Nat, c < 6 → ix (nI (6 * j + c)) = 6 * j + c := fun c hc => ix_nI (by omega)
    have e1 : nI (6 * j) + (1 : Int32) = nI (6 * j + 1) := nI_addl (6 * j) 1
    have e2 : nI (6 * j) + (2 : Int32) = nI (6 * j + 2) := nI_addl (6 * j) 2
    have e3 : nI (6 * j) + (3 : Int32) = nI (6 * j + 3) := nI_addl (6 * j) 3
    have e4 : nI (6 * j) + (4 : Int32) = nI (6 * j + 4) := nI_addl (6 * j) 4
    have e5 : nI (6 * j) + (5 : Int32) = nI (6 * j + 5) := nI_addl (6 * j) 5
    have key : VV m_L_law_ w g (c0 + 20 * j) (t0 + 120 * j) Q (fun s => VH m_L_law_ w g (c0 + 20 * j + 20) (t0 + 120 * j + 120) Q 2895 (lawVs w b0 j) [] s) 23 (lawVs w b0 j) [] σ (if nI L - 6 < nI (6 * j) then none else lawStep n xs j σ) := by
      refine V_iload (pc := 23) dL_law__23 rfl ?_
      refine V_aload_n (pc := 25) dL_law__25 rfl rfl ?_
      refine V_slenL (pc := 26) hX hb0 hbA dL_law__26 ?_
      refine V_bipush (pc := 27) dL_law__27 bp_6 ?_
      refine V_isub (pc := 29) dL_law__29 ?_
      refine V_icmp_gt (pc := 30) (tgt := 2901) dL_law__30 (by decide +kernel) V_none ?_
      refine V_aload_n (pc := 33) dL_law__33 rfl rfl ?_
      refine V_iload (pc := 34) dL_law__34 rfl ?_
      refine V_sld (pc := 36) (v := xs (6 * j)) hX hb0 hbA (hin 0 (by omega)) (congrArg xs (hix 0 (by omega))) dL_law__36 ?_
      refine V_bipush (pc := 37) dL_law__37 bp_63 ?_
      refine V_iand (pc := 39) dL_law__39 ?_
      exact v_switch w g (c0 + 20 * j) (t0 + 120 * j) Q n b0 L xs (nI (6 * j)) (xs (6 * j) &&& 63) (xs (6 * j + 1)) (xs (6 * j + 2)) (xs (6 * j + 3)) (xs (6 * j + 4)) (xs (6 * j + 5)) (by omega) (by omega) hX hb0 hbA (by rw [e1]; exact hin 1 (by omega)) (by rw [e1, hix 1 (by omega)]) (by rw [e2]; exact hin 2 (by omega)) (by rw [e2, hix 2 (by omega)]) (by rw [e3]; exact hin 3 (by omega)) (by rw [e3, hix 3 (by omega)]) (by rw [e4]; exact hin 4 (by omega)) (by rw [e4, hix 4 (by omega)]) (by rw [e5]; exact hin 5 (by omega)) (by rw [e5, hix 5 (by omega)]) σ
    have key2 : VV m_L_law_ w g (c0 + 20 * j + 20) (t0 + 120 * j + 120) Q (fun _ : Unit => True) 2895 (lawVs w b0 j) [] s (some ()) := by
      refine V_iincC (pc := 2895) (vs' := lawVs w b0 (j + 1)) dL_law__2895 (Nat.le_of_ble_eq_true rfl) rfl ic_6 ?_ ?_
      · show [some (Value.ref b0), some (.ref (wB w + 0)), some (.ref (wB w + 171)), some (.ref (wB w + 183)), some (.int (nI (6 * j) + 6)), none, none] = _
        rw [show nI (6 * j) + 6 = nI (6 * (j + 1)) from nI_addl (6 * j) 6]
      · refine V_goto (pc := 2898) (tgt := 23) dL_law__2898 (by decide +kernel) ?_
        exact V_back (fun _ => ih (j + 1) s (by omega) (by omega) hr2)
    exact key s (by rw [if_neg (fun h => by have := (lawLen hL (by omega)).mp h; omega)]; exact hs) (key2 () rfl trivial ok) ok
section KN2
variable {y : MD} {w : TG} {g : VG} {kc ks : Nat} {Q : State → Prop} {pc : Nat} {vs : List (Option Value)} {rest : List Value} {es : List va_E}
theorem C_newlq {n : Int32} {N q : Nat} (hq : es.length = q) (hw : Cond.arrayClass .long ∈ gtb) (hd : decode y.2.1 pc = .ok (.newarray .long, 2)) (hn : ¬ n < 0) (hN : n.toNatClampNeg = N) (hN2 : N ≤ 100000) (hc : kc + 1 ≤ y.2.2.2.2.2.2.1) (hs : ks + N ≤ y.2.2.2.2.2.2.2) (k : VC y w g (kc + 1) (ks + N) Q (pc + 2) vs (.ref (wB w + q) :: rest) (es ++ [.inl (w.2.1.2.2.1, N, .inr (.inl (fun _ => 0)))])) : VC y w g kc ks Q pc vs (.int n :: rest) es := by
  subst hq
  exact C_newl hw hd hn hN hN2 hc hs k
end KN2
theorem bl_171 {w : TG} {e : va_E} : stg w e 170 ++ bk_X12 w 171 = stg w e 182 := by
  have h : bk_X12 w 171 = rg w 171 12 := rfl
  rw [h]
  exact stg_rg
theorem bl_183 {w : TG} {e : va_E} : stg w e 182 ++ [.inl (w.2.1.2.2.1, 1, .inr (.inl (fun _ => 0)))] = stg w e 183 := by
  have hf : (fun j => (s0 183 j).toInt64) = (fun _ => 0) := by
    funext j
    have : s0 183 j = 0 := rfl
    rw [this]
    decide +kernel
  have h : [.inl (w.2.1.2.2.1, 1, .inr (.inl (fun _ => 0)))] = rg w 183 1 := by
    show _ = [ent w s0 183]
    have e : ent w s0 183 = .inl (w.2.1.2.2.1, 1, .inr (.inl (fun j => (s0 183 j).toInt64))) := rfl
    rw [e, hf]
  rw [h]
  exact stg_rg
theorem wse_fin {w : TG} : wse w (stg w (ent w s0 0) 183) = wsp w s0 := by
  have e : stg w (ent w s0 0) 183 = (List.range 184).map (fun i => ent w s0 i) := by
    rw [show 184 = 183 + 1 from rfl, List.range_succ_eq_map, List.map_cons, List.map_map]
    rfl
  symm
  apply wse_ext
  · rw [e]; simp [wsp]
  · intro k x hx
    rw [e, List.getElem?_map] at hx
    by_cases c : k < 184
    · rw [List.getElem?_range c] at hx
      cases hx
      exact wsp_at c
    · rw [List.getElem?_eq_none (by simp; omega)] at hx
      cases hx
theorem whole_start {p : Program} {e : Env} {s : State} {m : MethodId} {below : List Frame} {meth : Method} {c : Code} (l : Launch) (hl : l.stackTraces = false) {b L : Nat} {xs : Nat → Int32} (hL : L ≤ 3072) (C0 : lw_At p s m meth c b L xs) : W p l e room_1 s m #[Value.ref b] below meth c s.heap [] 0 0 (lw_Z below #[Value.ref b] s) (entryFrame m ([Value.ref b] : List Value).toArray 7) := by
  obtain ⟨hx, hb, hr, hml, hown, hts, hX, hbl, hlocks, hgv⟩ := id C0
  have hg : ∀ t ∈ gtb, t.before #[Value.ref b] s = true := fun t ht => hts t (List.mem_filter.mp ht).1
  obtain ⟨c1, iS1, hKn1⟩ := u_known (C := RX1) (T := TX1) (N := 3) (n := 3) hg in_1 (hg _ nw2_1.1)
  obtain ⟨c2, iS2, hKn2⟩ := u_known (C := RX2) (T := TX2) (N := 5) (n := 5) hg in_2 (hg _ nw2_2.1)
  obtain ⟨c3, iS3, hKn3⟩ := u_known (C := RX3) (T := TX3) (N := 1) (n := 1) hg in_3 (hg _ nw2_3.1)
  obtain ⟨c4, iS4, hKn4⟩ := u_known (C := RX4) (T := TX4) (N := 16) (n := 16) hg in_4 (hg _ nw2_4.1)
  obtain ⟨c5, iS5, hKn5⟩ := u_known (C := RX5) (T := TX5) (N := 1) (n := 1) hg in_5 (hg _ nw2_5.1)
  obtain ⟨c6, iS6, hKn6⟩ := u_known (C := RX6) (T := TX6) (N := 8) (n := 8) hg in_6 (hg _ nw2_6.1)
  obtain ⟨c7, iS7, hKn7⟩ := u_known (C := RX7) (T := TX7) (N := 1) (n := 1) hg in_7 (hg _ nw2_7.1)
  obtain ⟨c8, iS8, hKn8⟩ := u_known (C := RX8) (T := TX8) (N := 4) (n := 4) hg in_8 (hg _ nw2_8.1)
  obtain ⟨c9, iS9, hKn9⟩ := u_known (C := RX9) (T := TX9) (N := 5) (n := 5) hg in_9 (hg _ nw2_9.1)
  obtain ⟨c10, iS10, hKn10⟩ := u_known (C := RX10) (T := TX10) (N := 1) (n := 1) hg in_10 (hg _ nw2_10.1)
  obtain ⟨c11, iS11, hKn11⟩ := u_known (C := RX11) (T := TX11) (N := 19) (n := 19) hg in_11 (hg _ nw2_11.1)
  obtain ⟨c12, iS12, hKn12⟩ := u_known (C := RX12) (T := TX12) (N := 25) (n := 25) hg in_12 (hg _ nw2_12.1)
  obtain ⟨dC, dI, hKc⟩ : ∃ (dC : Nat → ClassId) (dI : Nat → Nat → Nat), ∀ (k : Nat) (q : vw_C), cls5[k]? = some q → u_Kn s q.1 q.2.1 q.2.2 (dC k) (dI k) := by
    refine ⟨fun k => [c1, c1, c2, c3, c4, c5, c6, c7, c8, c9, c10, c11, c12].getD k c1, fun k => [iS1, iS1, iS2, iS3, iS4, iS5, iS6, iS7, iS8, iS9, iS10, iS11, iS12].getD k iS1, ?_⟩
    intro k q hq
    match k, hq with
    | 0, hq => cases hq; exact hKn1
    | 1, hq => cases hq; exact hKn1
    | 2, hq => cases hq; exact hKn2
    | 3, hq => cases hq; exact hKn3
    | 4, hq => cases hq; exact hKn4
    | 5, hq => cases hq; exact hKn5
    | 6, hq => cases hq; exact hKn6
    | 7, hq => cases hq; exact hKn7
    | 8, hq => cases hq; exact hKn8
    | 9, hq => cases hq; exact hKn9
    | 10, hq => cases hq; exact hKn10
    | 11, hq => cases hq; exact hKn11
    | 12, hq => cases hq; exact hKn12
    | k + 13, hq => simp [cls5] at hq
  obtain ⟨cI, kI, pI, i1, i2, i3⟩ := Cond.arrayClass_spec (hg _ w_ai)
  obtain ⟨cB, kB, pB, b1, b2, b3⟩ := Cond.arrayClass_spec (hg _ w_ab)
  obtain ⟨cJ, kJ, pJ, j1, j2, j3⟩ := Cond.arrayClass_spec (hg _ w_al)
  have hov := hts (Cond.arrayOver (.object "SharedCup$House")) (by decide +kernel)
  obtain ⟨pH, cH, kH, o1, o2, o3, o4, o5⟩ := Cond.arrayOver_spec hov
  obtain ⟨S, V, hXt⟩ := xt_start hts hgv
  let w : TG := ((dC, dI), (cI, cB, cJ, cH), s.heap.size, S, V)
  have hxt : Xt w s s.heap := hXt w rfl rfl rfl
  have hK : va_K (wD w) cls5 (wT w) s := by
    refine ⟨hKc, fun k q hq => ?_⟩
    match k, hq with
    | 0, hq => cases hq; exact ⟨fun N z => ⟨(fun k h => by cases h), kI, i2, pI, i3⟩, i1⟩
    | 1, hq => cases hq; exact ⟨fun N z => ⟨(fun k h => by cases h), kB, b2, pB, b3⟩, b1⟩
    | 2, hq => cases hq; exact ⟨fun N z => ⟨(fun k h => by cases h), kJ, j2, pJ, j3⟩, j1⟩
    | 3, hq => cases hq; exact ⟨fun N z => ⟨(fun k h => by cases h), kH, o3, pH, o4⟩, kH, pH, o3, o4, o1, o5⟩
    | k + 4, hq => simp at hq
  have ok : Okm m_L_law_ w (p, l, e, room_1, s, m, #[Value.ref b], below, meth, c) := ⟨hx, hb, hml, hown, hg, hr, hlocks, hK, Nat.le_refl _, rfl, rfl, rfl, rfl, hxt, hl⟩
  have hN : XN true s := fun _ => ⟨va_Nw.of rfl (hts _ (by decide +kernel)), va_Nw.of rfl (hts _ (by decide +kernel)), va_Nw.of rfl (hts _ (by decide +kernel)), va_AO.of hov⟩
  have hbA : ¬ wA w b := Nat.not_le.mpr hbl
  obtain ⟨σ9, hrun⟩ := s_run (n := 6000) (xs := xs) (Nat.le_refl _) (L / 6) 0 s0 (by omega) Inv_0
  have key : VC m_L_law_ w (p, l, e, room_1, s, m, #[Value.ref b], below, meth, c) 0 0 (lw_Z below #[Value.ref b] s) 0 [some (.ref b), none, none, none, none, none, none] [] [] := by
    refine C_newq (q := 0) rfl (ci := 11) rfl in_11 tyX11 tyX11_ok (own := RL) rfl (gm (by decide +kernel) (by decide +kernel)) nw2_11.1 nw2_11.2 nwd_11 dL_law__0 (Nat.le_of_ble_eq_true rfl) (Nat.le_of_ble_eq_true rfl) ?_
    refine C_dup dL_law__3 rfl ?_
    refine C_callI (o := 0) (rest := [.ref (wB w + 0)]) (ck_X11 w) hN cki_X11 (gm (by decide +kernel) (by decide +kernel)) rfl dL_law__4 ⟨(Nat.le_of_ble_eq_true rfl), (Nat.le_of_ble_eq_true rfl)⟩ rfl rfl (Nat.le_of_ble_eq_true rfl) (Nat.le_of_ble_eq_true rfl) (Nat.le_of_ble_eq_true rfl) ?_
    refine C_astore_n dL_law__7 (i := 1) rfl (Nat.le_of_ble_eq_true rfl) (Nat.le_of_ble_eq_true rfl) rfl ?_
    refine C_newq (q := 171) stg_len (ci := 12) rfl in_12 tyX12 tyX12_ok (own := RL) rfl (gm (by decide +kernel) (by decide +kernel)) nw2_12.1 nw2_12.2 nwd_12 dL_law__8 (Nat.le_of_ble_eq_true rfl) (Nat.le_of_ble_eq_true rfl) ?_
    refine C_dup dL_law__11 rfl ?_
    refine C_callI (o := 171) (rest := [.ref (wB w + 171)]) (ck_X12 w _ 171 stg_len) XNf cki_X12 (gm (by decide +kernel) (by decide +kernel)) rfl dL_law__12 ⟨(Nat.le_of_ble_eq_true rfl), (Nat.le_of_ble_eq_true rfl)⟩ rfl rfl (Nat.le_of_ble_eq_true rfl) (Nat.le_of_ble_eq_true rfl) (Nat.le_of_ble_eq_true rfl) ?_
    rw [bl_171]
    refine C_astore_n dL_law__15 (i := 2) rfl (Nat.le_of_ble_eq_true rfl) (Nat.le_of_ble_eq_true rfl) rfl ?_
    refine C_iconst dL_law__16 (v := 1) (by decide +kernel) ?_
    refine C_newlq (q := 183) stg_len w_al dL_law__17 (by decide) (N := 1) (by decide +kernel) (by omega) (Nat.le_of_ble_eq_true rfl) (Nat.le_of_ble_eq_true rfl) ?_
    rw [bl_183]
    refine C_astore_n dL_law__19 (i := 3) rfl (Nat.le_of_ble_eq_true rfl) (Nat.le_of_ble_eq_true rfl) rfl ?_
    refine C_iconst dL_law__20 (v := 0) (by decide +kernel) ?_
    refine C_istore dL_law__21 (i := 4) (Nat.le_of_ble_eq_true rfl) (Nat.le_of_ble_eq_true rfl) rfl ?_
    have hlw := v_law2 (Q := lw_Z below #[Value.ref b] s) 6000 b L xs hL hX hbl hbA ok 184 18520 (by omega) (by omega) σ9 (fun j σ hj _ => law_end ok rfl (by omega) (by omega)) (L / 6) 0 s0 (by omega) (by omega) hrun
    intro _ H locs ls hP hz hS hl'
    rw [wse_fin] at hP
    exact hlw H locs ls hP hS hl'
  rw [lg_entry_eq]
  have hle := lv_entry [Value.ref b] (n := 7) (Nat.le_of_ble_eq_true rfl)
  refine key ok s.heap [] _ (fun k q h => by simp [wse] at h) rfl va_S.rf ⟨hle.1, hle.2.1, fun i v hi => ?_⟩
  match i, hi with
  | 0, hi => cases hi; exact ⟨hle.2.2 (0, .ref b) (by simp [lv_args]), rfl⟩
  | 1, hi => cases hi
  | 2, hi => cases hi
  | 3, hi => cases hi
  | 4, hi => cases hi
  | 5, hi => cases hi
  | 6, hi => cases hi
  | i + 7, hi => simp at hi
