/-! layer 2: the law's text: conditions of atoms -/
def pend (o : Bool) (ts : List Bool) : List Bool := if o = true then true :: ts else ts
def mcO (r : RT_gr) (n : Nat) (σ0 : MS) (n' : Nat) (o : Bool) (x : Option (Int32 × MS)) : Option (Int32 × MS) :=
  if o = true then cont (L_X12_readCond_9 r n σ0) n' (x.bind (fun q19 => (if q19.1 = 0 then (some ((0 : Int32), q19.2)).map Sum.inr else ((f_X12_emits (14 : Int32) (0 : Int32) q19.2).bind (fun q31 => some (.inl (q31.2)))))))
  else x.bind (fun q1 => (if q1.1 = 0 then some ((0 : Int32), q1.2) else itr (L_X12_readCond_9 r n σ0) n' (q1.2)))
theorem mcO_0 {r : RT_gr} {n n' : Nat} {σ0 t : MS} {o : Bool} : mcO r n σ0 n' o (some (0, t)) = some (0, t) := by
  cases o <;> rfl
theorem mcO_f {r : RT_gr} {n n' : Nat} {σ0 t : MS} : mcO r n σ0 n' false (some (1, t)) = itr (L_X12_readCond_9 r n σ0) n' t := by
  unfold mcO
  rw [if_neg Bool.false_ne_true, bnd_s]
  rfl
theorem mcO_t {r : RT_gr} {n n' : Nat} {σ0 t u : MS} (h : f_X12_emits 14 0 t = some (0, u)) : mcO r n σ0 n' true (some (1, t)) = itr (L_X12_readCond_9 r n σ0) n' u := by
  unfold mcO
  rw [if_pos rfl, bnd_s]
  have e : (if (1 : Int32) = 0 then (some ((0 : Int32), t)).map Sum.inr else ((f_X12_emits (14 : Int32) (0 : Int32) t).bind (fun q31 => some (Sum.inl (β := Int32 × MS) q31.2)))) = some (.inl u) := by
    rw [if_neg (by decide), h]; rfl
  show cont (L_X12_readCond_9 r n σ0) n' (if (1 : Int32) = 0 then (some ((0 : Int32), t)).map Sum.inr else ((f_X12_emits (14 : Int32) (0 : Int32) t).bind (fun q31 => some (.inl (q31.2))))) = _
  rw [e, cont_l]
section
variable {T : Nat → Nat} {L : Nat}
theorem cond_rest {n d : Nat} {r : RT_gt} {r' r'' : RT_gr} (hn : 6000 ≤ n) (hL : L ≤ 400) (hd : d ≤ 6) (hr : r''.2.1 = F_X12_readAllOf r' n)
    (hA : ∀ (E : List (Nat × Nat)) (a : Nat), a ≤ L → E.length + 2 ≤ a → PieceR T L E a d (2 * d + 2) true (fun s => r.1 37 (nN d) s) (fun m => r'.1 m)) :
    ∀ k a (E : List (Nat × Nat)) (o : Bool), L - a ≤ k → a ≤ L → skp T L a = a → E.length + 2 + o.toNat ≤ a → ∃ ok E' a', a' ≤ L ∧
    (ok = true → skp T L a' = a' ∧ a ≤ a' ∧ ∃ G, E' = E ++ G ∧ rngOK G ∧ (∀ ts : List Bool, ts.length ≤ 2 * d → tyl G (true :: pend o ts) = some (true :: ts)) ∧ G.length + a ≤ a' + o.toNat) ∧
    (∀ s i n' σ0, CA T L s a → CC E s → i + 2 ≤ a → L - a < n' → ∃ t, cont (L_X7_tellsCondition_8 r n 37 (nN d) σ0) n' (J_X7_tellsCondition_39 r n 37 (nN d) (bI o) (nN i) s) = some (bI ok, t) ∧ (ok = true → CA T L t a' ∧ CC E' t) ∧ (ok = false → t 1 2 = nN a' ∧ ∃ c, c ≤ 400 ∧ t 37 1 = nN c) ∧ frL s t) ∧
    (∀ m p n' n'' σ0 σ1, MP T L m p → skp T L p = a → CM E m → m 171 13 = nN d → L - a < n' → L - a < n'' → ∃ t p', mcO r'' n σ0 n'' o (itr (L_X12_readAllOf_9 r' n σ1) n' m) = some (bI ok, t) ∧ (ok = true → MP T L t p' ∧ skp T L p' = a' ∧ CM E' t ∧ t 171 13 = nN d) ∧ (ok = false → t 171 12 = nN a') ∧ frN m t) := by
  intro k
  induction k with
  | zero =>
    intro a E o h0 ha hsk hE
    -- nothing is left: as where no word stands
    have hno : ∀ w, wq T L w a = false := by
      intro w
      cases e : wq T L w a
      · rfl
      · have := (wq_ltt e).2; omega
    refine ⟨true, E ++ (if o = true then [(14, 0)] else []), a, ha, fun _ => ⟨hsk, Nat.le_refl _, _, rfl, ?_, ?_, ?_⟩, ?_, ?_⟩
    · cases o
      · exact rngOK_0
      · exact rngOK_1 (by omega) (by omega)
    · intro ts hts
      cases o
      · rfl
      · exact tyl_1 ty_14 (by simp only [List.length_cons]; omega)
    · cases o
      · show 0 + a ≤ a + 0; omega
      · show 1 + a ≤ a + 1; omega
    · intro s i n' σ0 hs hc hi hn'
      obtain ⟨t, k1, k2, k3⟩ := c_skipWord (z := 28) hn hs (by omega) (n32 28 (by omega) (by omega) (by omega) (by omega) (by omega))
      rw [wd28, hno] at k1 k2
      rw [if_neg Bool.false_ne_true] at k2
      have hc' := CC_C hc k3
      cases o
      · obtain ⟨t2, j1, j2, j3⟩ := c_skipWord (z := 29) hn k2 (by omega) (n32 29 (by omega) (by omega) (by omega) (by omega) (by omega))
        rw [wd29, hno] at j1 j2
        refine ⟨t2, ?_, fun _ => ⟨j2, by rw [if_neg Bool.false_ne_true, List.append_nil]; exact CC_C hc' j3⟩, no_c, frL_trans (frL_C k3) (frL_C j3)⟩
        simp only [J_X7_tellsCondition_39, J_X7_tellsCondition_69, k1, bnd_s, bI_f, if_true, j1, Option.map_some, cont_r, bI_t]
      · have hlt : E.length < 400 := by show E.length < 400; have : E.length + 2 + 1 ≤ a := hE; omega
        obtain ⟨u, z1, z2, z3, z4, z5⟩ := k_add 14 0 hc' hlt
        have e14 : (2002 : Int32) = nN (enc 14 0) := by decide +kernel
        rw [← e14] at z1
        obtain ⟨t2, j1, j2, j3⟩ := c_skipWord (z := 29) hn (CA_same k2 z3 z4) (by omega) (n32 29 (by omega) (by omega) (by omega) (by omega) (by omega))
        rw [wd29, hno] at j1 j2
        refine ⟨t2, ?_, fun _ => ⟨j2, by rw [if_pos rfl]; exact CC_C z2 j3⟩, no_c, frL_trans (frL_C k3) (frL_trans z5 (frL_C j3))⟩
        simp only [J_X7_tellsCondition_39, J_X7_tellsCondition_69, k1, bnd_s, bI_f, if_true, bI_t, one_ne0, if_false, z1, j1, Option.map_some, cont_r]
    · intro m p n' n'' σ0 σ1 hm hp hcm hd' hn' hn''
      obtain ⟨q, rfl⟩ : ∃ q, n' = q + 1 := ⟨n' - 1, by omega⟩
      obtain ⟨q', rfl⟩ : ∃ q', n'' = q' + 1 := ⟨n'' - 1, by omega⟩
      obtain ⟨t, k1, k2, k3, k4⟩ := m_passes (z := 17) hn hm (by omega) (wd_pos 17 (by omega))
      rw [hp, hno] at k1 k2
      have hcm' := CM_M hcm k4
      have e1 : itr (L_X12_readAllOf_9 r' n σ1) (q + 1) m = some (1, t) := by
        refine itr_en ?_
        simp only [L_X12_readAllOf_9, k1, bnd_s, bI_f, if_true, Option.map_some]
      have d' : t 171 13 = nN d := by rw [k4.2 13 (by omega) (by omega)]; exact hd'
      cases o
      · obtain ⟨t2, j1, j2, j3, j4⟩ := m_passes (z := 18) hn k2 (by omega) (wd_pos 18 (by omega))
        have hk : skp T L (if false = true then fnt T L a else a) = a := hsk
        rw [hk, hno] at j1 j2
        refine ⟨t2, a, ?_, fun _ => ⟨j2, hsk, by rw [if_neg Bool.false_ne_true, List.append_nil]; exact CM_M hcm' j4, by rw [j4.2 13 (by omega) (by omega)]; exact d'⟩, no_c, frN_trans (frN_M k4) (frN_M j4)⟩
        rw [e1, mcO_f]
        refine itr_en ?_
        simp only [L_X12_readCond_9, j1, bnd_s, bI_f, if_true, Option.map_some, bI_t]
      · have hlt : E.length < 400 := by have : E.length + 2 + 1 ≤ a := hE; omega
        have em := e_emits (m := t) (p := nN 14) (q := nN 0) hcm'.1 hlt
        have em' : f_X12_emits 14 0 t = some (0, emt t E.length (nN 14) (nN 0)) := em
        obtain ⟨t2, j1, j2, j3, j4⟩ := m_passes (z := 18) hn (MP_emt (k := E.length) (u := nN 14) (v := nN 0) k2) (by omega) (wd_pos 18 (by omega))
        have hk : skp T L (if false = true then fnt T L a else a) = a := hsk
        rw [hk, hno] at j1 j2
        refine ⟨t2, a, ?_, fun _ => ⟨j2, hsk, by rw [if_pos rfl]; exact CM_M (CM_emt hcm') j4, by rw [j4.2 13 (by omega) (by omega), emt_k (by omega)]; exact d'⟩, no_c, frN_trans (frN_M k4) (frN_trans emt_fr (frN_M j4))⟩
        rw [e1, mcO_t em']
        refine itr_en ?_
        simp only [L_X12_readCond_9, j1, bnd_s, bI_f, if_true, Option.map_some, bI_t]
  | succ k ih =>
    intro a E o h0 ha hsk hE
    have hot : o.toNat ≤ 1 := by cases o <;> decide
    cases qa : wq T L (wd 17) a
    case true =>
      have hl := wq_ltt qa
      have hb := nx_le (T := T) ha
      have hgt := nx_gt (T := T) hl.2
      obtain ⟨ok1, E1, a1, i1, i2, i3, i4⟩ := hA E (nx T L a) hb (by omega)
      have cls : ∀ s i n' σ0, CA T L s a → CC E s → i + 2 ≤ a → ∃ t, cont (L_X7_tellsCondition_8 r n 37 (nN d) σ0) (n' + 1) (J_X7_tellsCondition_39 r n 37 (nN d) (bI o) (nN i) s) = cont (L_X7_tellsCondition_8 r n 37 (nN d) σ0) n' (L_X7_tellsCondition_8 r n 37 (nN d) σ0 (bI o, 1, nN (i + 1), t)) ∧ CA T L t (nx T L a) ∧ CC E t ∧ frL s t := by
        intro s i n' σ0 hs hc hi
        obtain ⟨t, k1, k2, k3⟩ := c_skipWord (z := 28) hn hs (by omega) (n32 28 (by omega) (by omega) (by omega) (by omega) (by omega))
        rw [wd28, qa] at k1 k2
        rw [if_pos rfl] at k2
        refine ⟨t, ?_, k2, CC_C hc k3, frL_C k3⟩
        simp only [J_X7_tellsCondition_39, J_X7_tellsCondition_85, k1, bnd_s, bI_t, one_ne0, if_false, cont_l, nN_s, itr_cont]
      have mod : ∀ m p, MP T L m p → skp T L p = a → CM E m → m 171 13 = nN d → ∃ t, f_X12_passes n 17 m = some (1, t) ∧ MP T L t (fnt T L a) ∧ CM E t ∧ t 171 13 = nN d ∧ frM m t := by
        intro m p hm hp hcm hd'
        obtain ⟨t, k1, k2, k3, k4⟩ := m_passes (z := 17) hn hm (by omega) (wd_pos 17 (by omega))
        rw [hp, qa] at k1 k2
        rw [if_pos rfl] at k2
        exact ⟨t, k1, k2, CM_M hcm k4, by rw [k4.2 13 (by omega) (by omega)]; exact hd', k4⟩
      cases ok1
      · refine ⟨false, E, a1, i1, no_c, ?_, ?_⟩
        · intro s i n' σ0 hs hc hi hn'
          obtain ⟨q, rfl⟩ : ∃ q, n' = q + 1 := ⟨n' - 1, by omega⟩
          obtain ⟨t, k1, k2, k3, k4⟩ := cls s i q σ0 hs hc hi
          obtain ⟨t1, w1, -, w3, w4⟩ := i3 t k2 k3
          have w1' : r.1 37 (nN d) t = some (bI false, t1) := w1
          have c400 : ¬ 400 ≤ i + 1 := by omega
          refine ⟨t1, ?_, no_c, w3, frL_trans k4 w4⟩
          rw [k1]
          simp (disch := omega) only [L_X7_tellsCondition_8, l400, nN_le, c400, if_false, w1', bnd_s, bI_f, if_true, Option.map_some, cont_r]
        · intro m p n' n'' σ0 σ1 hm hp hcm hd' hn' hn''
          obtain ⟨q, rfl⟩ : ∃ q, n' = q + 1 := ⟨n' - 1, by omega⟩
          obtain ⟨t, k1, k2, k3, k4, k5⟩ := mod m p hm hp hcm hd'
          obtain ⟨t1, p1, w1, -, w3, w4⟩ := i4 t (fnt T L a) k2 rfl k3 k4
          have w1' : r'.1 t = some (bI false, t1) := w1
          refine ⟨t1, 0, ?_, no_c, w3, frN_trans (frN_M k5) w4⟩
          have e1 : itr (L_X12_readAllOf_9 r' n σ1) (q + 1) m = some (0, t1) := by
            refine itr_en ?_
            simp only [L_X12_readAllOf_9, k1, bnd_s, one_ne0, if_false, w1', bI_f, if_true, Option.map_some]
          rw [e1, mcO_0]
          rfl
      · obtain ⟨j1, G1, j2, j3, j4, j5, j6⟩ := i2 rfl
        subst j2
        have hlen : (E ++ G1).length = E.length + G1.length := List.length_append
        have h400 : (E ++ G1).length < 400 := by omega
        have e13 : (2001 : Int32) = nN (enc 13 0) := by decide +kernel
        obtain ⟨ok, E', a', y1, y2, y3, y4⟩ := ih a1 (E ++ G1 ++ [(13, 0)]) o (by omega) i1 j1 (by rw [len_1]; omega)
        refine ⟨ok, E', a', y1, fun hok => ?_, ?_, ?_⟩
        · obtain ⟨v1, v2, G3, v3, v4, v5, v6⟩ := y2 hok
          refine ⟨v1, by omega, G1 ++ ([(13, 0)] ++ G3), by rw [v3, List.append_assoc, List.append_assoc], rngOK_app j3 (rngOK_app (rngOK_1 (by omega) (by omega)) v4), ?_, ?_⟩
          · intro ts hts
            have hp : (true :: pend o ts).length ≤ 2 * d + 2 := by
              cases o
              · show ts.length + 1 ≤ _; omega
              · show ts.length + 1 + 1 ≤ _; omega
            rw [tyl_app, j4 _ hp, bnd_s, tyl_app, tyl_1 ty_13 (by omega), bnd_s]
            exact v5 ts hts
          · rw [List.length_append, List.length_append]
            show G1.length + (1 + G3.length) + a ≤ _
            omega
        · intro s i n' σ0 hs hc hi hn'
          obtain ⟨q, rfl⟩ : ∃ q, n' = q + 1 := ⟨n' - 1, by omega⟩
          obtain ⟨t, k1, k2, k3, k4⟩ := cls s i q σ0 hs hc hi
          obtain ⟨t1, w1, w2, -, w4⟩ := i3 t k2 k3
          obtain ⟨w5, w6⟩ := w2 rfl
          have w1' : r.1 37 (nN d) t = some (bI true, t1) := w1
          obtain ⟨u, z1, z2, z3, z4, z5⟩ := k_add 13 0 w6 h400
          rw [← e13] at z1
          obtain ⟨t3, x1, x2, x3, x4⟩ := y3 u (i + 1) q σ0 (CA_same w5 z3 z4) z2 (by omega) (by omega)
          have c400 : ¬ 400 ≤ i + 1 := by omega
          refine ⟨t3, ?_, x2, x3, frL_trans k4 (frL_trans w4 (frL_trans z5 x4))⟩
          rw [k1, ← x1]
          simp (disch := omega) only [L_X7_tellsCondition_8, l400, nN_le, c400, if_false, w1', bnd_s, bI_t, one_ne0, z1]
        · intro m p n' n'' σ0 σ1 hm hp hcm hd' hn' hn''
          obtain ⟨q, rfl⟩ : ∃ q, n' = q + 1 := ⟨n' - 1, by omega⟩
          obtain ⟨t, k1, k2, k3, k4, k5⟩ := mod m p hm hp hcm hd'
          obtain ⟨t1, p1, w1, w2, -, w4⟩ := i4 t (fnt T L a) k2 rfl k3 k4
          obtain ⟨z1, z2, z3, z4⟩ := w2 rfl
          have w1' : r'.1 t = some (bI true, t1) := w1
          have em := e_emits (m := t1) (p := nN 13) (q := nN 0) z3.1 h400
          have em' : f_X12_emits 13 0 t1 = some (0, emt t1 (E ++ G1).length (nN 13) (nN 0)) := em
          obtain ⟨t3, p3, x1, x2, x3, x4⟩ := y4 (emt t1 (E ++ G1).length (nN 13) (nN 0)) p1 q n'' σ0 σ1 (MP_emt z1) z2 (CM_emt z3) (by rw [emt_k (by omega)]; exact z4) (by omega) (by omega)
          refine ⟨t3, p3, ?_, x2, x3, frN_trans (frN_M k5) (frN_trans w4 (frN_trans emt_fr x4))⟩
          rw [itr_st (a' := emt t1 (E ++ G1).length (nN 13) (nN 0))]
          · exact x1
          · simp only [L_X12_readAllOf_9, k1, bnd_s, one_ne0, if_false, w1', bI_t, em']
    case false =>
      -- behind the last atom of an ALL
      have hEo : (E ++ (if o = true then [(14, 0)] else [])).length = E.length + o.toNat := by
        cases o
        · rw [if_neg Bool.false_ne_true, List.append_nil]; rfl
        · rw [if_pos rfl, len_1]; rfl
      have hRo : rngOK (if o = true then [((14 : Nat), (0 : Nat))] else []) := by
        cases o
        · exact rngOK_0
        · exact rngOK_1 (by omega) (by omega)
      have hTo : ∀ ts : List Bool, ts.length ≤ 2 * d → tyl (if o = true then [(14, 0)] else []) (true :: pend o ts) = some (true :: ts) := by
        intro ts hts
        cases o
        · rfl
        · exact tyl_1 ty_14 (by simp only [List.length_cons]; omega)
      have hLo : (if o = true then [((14 : Nat), (0 : Nat))] else []).length = o.toNat := by cases o <;> rfl
      generalize hEe : E ++ (if o = true then [(14, 0)] else []) = Eo at hEo
      have cls : ∀ s i, CA T L s a → CC E s → ∃ t, J_X7_tellsCondition_39 r n 37 (nN d) (bI o) (nN i) s = J_X7_tellsCondition_69 r n 37 (nN d) 0 (nN i) t ∧ CA T L t a ∧ CC Eo t ∧ frL s t := by
        intro s i hs hc
        obtain ⟨t, k1, k2, k3⟩ := c_skipWord (z := 28) hn hs (by omega) (n32 28 (by omega) (by omega) (by omega) (by omega) (by omega))
        rw [wd28, qa] at k1 k2
        rw [if_neg Bool.false_ne_true] at k2
        have hc' := CC_C hc k3
        cases o
        · rw [if_neg Bool.false_ne_true, List.append_nil] at hEe
          refine ⟨t, ?_, k2, by rw [← hEe]; exact hc', frL_C k3⟩
          simp only [J_X7_tellsCondition_39, k1, bnd_s, bI_f, if_true]
        · rw [if_pos rfl] at hEe
          have hlt : E.length < 400 := by omega
          obtain ⟨u, z1, z2, z3, z4, z5⟩ := k_add 14 0 hc' hlt
          have e14 : (2002 : Int32) = nN (enc 14 0) := by decide +kernel
          rw [← e14] at z1
          refine ⟨u, ?_, CA_same k2 z3 z4, by rw [← hEe]; exact z2, frL_trans (frL_C k3) z5⟩
          simp only [J_X7_tellsCondition_39, k1, bnd_s, bI_f, if_true, bI_t, one_ne0, if_false, z1]
      have mod : ∀ m p n' n'' σ0 σ1, MP T L m p → skp T L p = a → CM E m → m 171 13 = nN d → L - a < n' → ∃ t, mcO r'' n σ0 n'' o (itr (L_X12_readAllOf_9 r' n σ1) n' m) = itr (L_X12_readCond_9 r'' n σ0) n'' t ∧ MP T L t a ∧ CM Eo t ∧ t 171 13 = nN d ∧ frN m t := by
        intro m p n' n'' σ0 σ1 hm hp hcm hd' hn'
        obtain ⟨q, rfl⟩ : ∃ q, n' = q + 1 := ⟨n' - 1, by omega⟩
        obtain ⟨t, k1, k2, k3, k4⟩ := m_passes (z := 17) hn hm (by omega) (wd_pos 17 (by omega))
        rw [hp, qa] at k1 k2
        rw [if_neg Bool.false_ne_true] at k2
        have hcm' := CM_M hcm k4
        have e1 : itr (L_X12_readAllOf_9 r' n σ1) (q + 1) m = some (1, t) := by
          refine itr_en ?_
          simp only [L_X12_readAllOf_9, k1, bnd_s, bI_f, if_true, Option.map_some]
        have d' : t 171 13 = nN d := by rw [k4.2 13 (by omega) (by omega)]; exact hd'
        cases o
        · rw [if_neg Bool.false_ne_true, List.append_nil] at hEe
          exact ⟨t, by rw [e1, mcO_f], k2, by rw [← hEe]; exact hcm', d', frN_M k4⟩
        · rw [if_pos rfl] at hEe
          have hlt : E.length < 400 := by omega
          have em := e_emits (m := t) (p := nN 14) (q := nN 0) hcm'.1 hlt
          have em' : f_X12_emits 14 0 t = some (0, emt t E.length (nN 14) (nN 0)) := em
          exact ⟨emt t E.length (nN 14) (nN 0), by rw [e1, mcO_t em'], MP_emt k2, by rw [← hEe]; exact CM_emt hcm', by rw [emt_k (by omega)]; exact d', frN_trans (frN_M k4) emt_fr⟩
      cases qo : wq T L (wd 18) a
      · refine ⟨true, Eo, a, ha, fun _ => ⟨hsk, Nat.le_refl _, _, hEe.symm, hRo, hTo, by rw [hLo]; omega⟩, ?_, ?_⟩
        · intro s i n' σ0 hs hc hi hn'
          obtain ⟨t, k1, k2, k3, k4⟩ := cls s i hs hc
          obtain ⟨t2, j1, j2, j3⟩ := c_skipWord (z := 29) hn k2 (by omega) (n32 29 (by omega) (by omega) (by omega) (by omega) (by omega))
          rw [wd29, qo] at j1 j2
          refine ⟨t2, ?_, fun _ => ⟨j2, CC_C k3 j3⟩, no_c, frL_trans k4 (frL_C j3)⟩
          rw [k1]
          simp only [J_X7_tellsCondition_69, j1, bnd_s, bI_f, if_true, Option.map_some, cont_r, bI_t]
        · intro m p n' n'' σ0 σ1 hm hp hcm hd' hn' hn''
          obtain ⟨q', rfl⟩ : ∃ q', n'' = q' + 1 := ⟨n'' - 1, by omega⟩
          obtain ⟨t, k1, k2, k3, k4, k5⟩ := mod m p n' (q' + 1) σ0 σ1 hm hp hcm hd' hn'
          obtain ⟨t2, j1, j2, j3, j4⟩ := m_passes (z := 18) hn k2 (by omega) (wd_pos 18 (by omega))
          rw [hsk, qo] at j1 j2
          refine ⟨t2, a, ?_, fun _ => ⟨j2, hsk, CM_M k3 j4, by rw [j4.2 13 (by omega) (by omega)]; exact k4⟩, no_c, frN_trans k5 (frN_M j4)⟩
          rw [k1]
          refine itr_en ?_
          simp only [L_X12_readCond_9, j1, bnd_s, bI_f, if_true, Option.map_some, bI_t]
      · have hl := wq_ltt qo
        have hb := nx_le (T := T) ha
        have hgt := nx_gt (T := T) hl.2
        obtain ⟨ok1, E1, a1, i1, i2, i3, i4⟩ := hA Eo (nx T L a) hb (by omega)
        have cls2 : ∀ s i n' σ0, CA T L s a → CC E s → i + 2 ≤ a → ∃ t, cont (L_X7_tellsCondition_8 r n 37 (nN d) σ0) (n' + 1) (J_X7_tellsCondition_39 r n 37 (nN d) (bI o) (nN i) s) = cont (L_X7_tellsCondition_8 r n 37 (nN d) σ0) n' (L_X7_tellsCondition_8 r n 37 (nN d) σ0 (1, 0, nN (i + 1), t)) ∧ CA T L t (nx T L a) ∧ CC Eo t ∧ frL s t := by
          intro s i n' σ0 hs hc hi
          obtain ⟨t, k1, k2, k3, k4⟩ := cls s i hs hc
          obtain ⟨t2, j1, j2, j3⟩ := c_skipWord (z := 29) hn k2 (by omega) (n32 29 (by omega) (by omega) (by omega) (by omega) (by omega))
          rw [wd29, qo] at j1 j2
          rw [if_pos rfl] at j2
          refine ⟨t2, ?_, j2, CC_C k3 j3, frL_trans k4 (frL_C j3)⟩
          rw [k1]
          simp only [J_X7_tellsCondition_69, J_X7_tellsCondition_85, j1, bnd_s, bI_t, one_ne0, if_false, cont_l, nN_s, itr_cont]
        have mod2 : ∀ m p n' n'' σ0 σ1, MP T L m p → skp T L p = a → CM E m → m 171 13 = nN d → L - a < n' → ∃ t t2, mcO r'' n σ0 n'' o (itr (L_X12_readAllOf_9 r' n σ1) n' m) = itr (L_X12_readCond_9 r'' n σ0) n'' t ∧ f_X12_passes n 18 t = some (1, t2) ∧ MP T L t2 (fnt T L a) ∧ CM Eo t2 ∧ t2 171 13 = nN d ∧ frN m t2 := by
          intro m p n' n'' σ0 σ1 hm hp hcm hd' hn'
          obtain ⟨t, k1, k2, k3, k4, k5⟩ := mod m p n' n'' σ0 σ1 hm hp hcm hd' hn'
          obtain ⟨t2, j1, j2, j3, j4⟩ := m_passes (z := 18) hn k2 (by omega) (wd_pos 18 (by omega))
          rw [hsk, qo] at j1 j2
          rw [if_pos rfl] at j2
          exact ⟨t, t2, k1, j1, j2, CM_M k3 j4, by rw [j4.2 13 (by omega) (by omega)]; exact k4, frN_trans k5 (frN_M j4)⟩
        cases ok1
        · refine ⟨false, E, a1, i1, no_c, ?_, ?_⟩
          · intro s i n' σ0 hs hc hi hn'
            obtain ⟨q, rfl⟩ : ∃ q, n' = q + 1 := ⟨n' - 1, by omega⟩
            obtain ⟨t, k1, k2, k3, k4⟩ := cls2 s i q σ0 hs hc hi
            obtain ⟨t1, w1, -, w3, w4⟩ := i3 t k2 k3
            have w1' : r.1 37 (nN d) t = some (bI false, t1) := w1
            have c400 : ¬ 400 ≤ i + 1 := by omega
            refine ⟨t1, ?_, no_c, w3, frL_trans k4 w4⟩
            rw [k1]
            simp (disch := omega) only [L_X7_tellsCondition_8, l400, nN_le, c400, if_false, w1', bnd_s, bI_f, if_true, Option.map_some, cont_r]
          · intro m p n' n'' σ0 σ1 hm hp hcm hd' hn' hn''
            obtain ⟨q', rfl⟩ : ∃ q', n'' = q' + 1 := ⟨n'' - 1, by omega⟩
            obtain ⟨t, t2, k0, k1, k2, k3, k4, k5⟩ := mod2 m p n' (q' + 1) σ0 σ1 hm hp hcm hd' hn'
            obtain ⟨t1, p1, w1, -, w3, w4⟩ := i4 t2 (fnt T L a) k2 rfl k3 k4
            have w1' : r'.1 t2 = some (bI false, t1) := w1
            refine ⟨t1, 0, ?_, no_c, w3, frN_trans k5 w4⟩
            rw [k0]
            refine itr_en ?_
            simp only [L_X12_readCond_9, k1, bnd_s, one_ne0, if_false, hr, F_X12_readAllOf, w1', bI_f, if_true, Option.map_some]
        · obtain ⟨j1, G1, j2, j3, j4, j5, j6⟩ := i2 rfl
          subst j2
          have hlen : (Eo ++ G1).length = Eo.length + G1.length := List.length_append
          obtain ⟨ok, E', a', y1, y2, y3, y4⟩ := ih a1 (Eo ++ G1) true (by omega) i1 j1 (by show (Eo ++ G1).length + 2 + 1 ≤ a1; omega)
          refine ⟨ok, E', a', y1, fun hok => ?_, ?_, ?_⟩
          · obtain ⟨v1, v2, G3, v3, v4, v5, v6⟩ := y2 hok
            refine ⟨v1, by omega, (if o = true then [(14, 0)] else []) ++ (G1 ++ G3), by rw [v3, ← hEe, List.append_assoc, List.append_assoc], rngOK_app hRo (rngOK_app j3 v4), ?_, ?_⟩
            · intro ts hts
              rw [tyl_app, hTo ts hts, bnd_s, tyl_app, j4 (true :: ts) (by simp only [List.length_cons]; omega), bnd_s]
              exact v5 ts hts
            · rw [List.length_append, List.length_append, hLo]
              have v6' : G3.length + a1 ≤ a' + 1 := v6
              omega
          · intro s i n' σ0 hs hc hi hn'
            obtain ⟨q, rfl⟩ : ∃ q, n' = q + 1 := ⟨n' - 1, by omega⟩
            obtain ⟨t, k1, k2, k3, k4⟩ := cls2 s i q σ0 hs hc hi
            obtain ⟨t1, w1, w2, -, w4⟩ := i3 t k2 k3
            obtain ⟨w5, w6⟩ := w2 rfl
            have w1' : r.1 37 (nN d) t = some (bI true, t1) := w1
            obtain ⟨t3, x1, x2, x3, x4⟩ := y3 t1 (i + 1) q σ0 w5 w6 (by omega) (by omega)
            have c400 : ¬ 400 ≤ i + 1 := by omega
            refine ⟨t3, ?_, x2, x3, frL_trans k4 (frL_trans w4 x4)⟩
            rw [k1, ← x1]
            simp (disch := omega) only [L_X7_tellsCondition_8, l400, nN_le, c400, if_false, w1', bnd_s, bI_t, one_ne0, if_true]
          · intro m p n' n'' σ0 σ1 hm hp hcm hd' hn' hn''
            obtain ⟨q', rfl⟩ : ∃ q', n'' = q' + 1 := ⟨n'' - 1, by omega⟩
            obtain ⟨t, t2, k0, k1, k2, k3, k4, k5⟩ := mod2 m p n' (q' + 1) σ0 σ1 hm hp hcm hd' hn'
            obtain ⟨t1, p1, w1, w2, -, w4⟩ := i4 t2 (fnt T L a) k2 rfl k3 k4
            obtain ⟨z1, z2, z3, z4⟩ := w2 rfl
            have w1' : r'.1 t2 = some (bI true, t1) := w1
            obtain ⟨t3, p3, x1, x2, x3, x4⟩ := y4 t1 p1 n q' σ0 t2 z1 z2 z3 z4 (by omega) (by omega)
            refine ⟨t3, p3, ?_, x2, x3, frN_trans k5 (frN_trans w4 x4)⟩
            rw [k0, itr_cont, ← x1]
            unfold mcO
            rw [if_pos rfl]
            simp only [L_X12_readCond_9, k1, bnd_s, one_ne0, if_false, hr, F_X12_readAllOf, w1', bI_t]
theorem p_cond {n d a : Nat} {E : List (Nat × Nat)} {r : RT_gt} {r' r'' : RT_gr} (hn : 6000 ≤ n) (hL : L ≤ 400) (hd : d ≤ 6) (ha : a ≤ L) (hE : E.length + 2 ≤ a) (hr : r''.2.1 = F_X12_readAllOf r' n)
    (hA : ∀ (E : List (Nat × Nat)) (a : Nat), a ≤ L → E.length + 2 ≤ a → PieceR T L E a d (2 * d + 2) true (fun s => r.1 37 (nN d) s) (fun m => r'.1 m)) :
    PieceR T L E a d (2 * d) true (fun s => F_X7_tellsCondition r n 37 (nN d) s) (fun m => F_X12_readCond r'' n m) := by
  obtain ⟨n', hn'⟩ : ∃ n', n = n' + 1 := ⟨n - 1, by omega⟩
  have eC : ∀ s, F_X7_tellsCondition r n 37 (nN d) s = cont (L_X7_tellsCondition_8 r n 37 (nN d) s) n' (L_X7_tellsCondition_8 r n 37 (nN d) s (0, 0, 0, s)) := by
    intro s
    have e : itr (L_X7_tellsCondition_8 r n 37 (nN d) s) n ((0 : Int32), (0 : Int32), (0 : Int32), s) = itr (L_X7_tellsCondition_8 r n 37 (nN d) s) (n' + 1) ((0 : Int32), (0 : Int32), (0 : Int32), s) := by rw [← hn']
    unfold F_X7_tellsCondition
    rw [e]
    rfl
  obtain ⟨ok1, E1, a1, i1, i2, i3, i4⟩ := hA E a ha hE
  have z400 : ((400 : Int32) ≤ 0) = False := by decide
  cases ok1
  · refine ⟨false, E, a1, i1, no_c, ?_, ?_⟩
    · intro s hs hc
      obtain ⟨t1, w1, -, w3, w4⟩ := i3 s hs hc
      have w1' : r.1 37 (nN d) s = some (bI false, t1) := w1
      refine ⟨t1, ?_, no_c, w3, w4⟩
      show F_X7_tellsCondition r n 37 (nN d) s = _
      rw [eC]
      simp only [L_X7_tellsCondition_8, z400, if_false, w1', bnd_s, bI_f, if_true, Option.map_some, cont_r]
    · intro m p hm hp hcm hd'
      obtain ⟨t1, p1, w1, -, w3, w4⟩ := i4 m p hm hp hcm hd'
      have w1' : r'.1 m = some (bI false, t1) := w1
      refine ⟨t1, 0, ?_, no_c, w3, w4⟩
      simp only [F_X12_readCond, hr, F_X12_readAllOf, w1', bnd_s, bI_f, if_true]
  · obtain ⟨j1, G1, j2, j3, j4, j5, j6⟩ := i2 rfl
    subst j2
    have hlen : (E ++ G1).length = E.length + G1.length := List.length_append
    obtain ⟨ok, E', a', y1, y2, y3, y4⟩ := cond_rest (T := T) (L := L) (r := r) (r' := r') (r'' := r'') hn hL hd hr hA (L - a1) a1 (E ++ G1) false (Nat.le_refl _) i1 j1 (by show (E ++ G1).length + 2 + 0 ≤ a1; omega)
    refine ⟨ok, E', a', y1, fun hok => ?_, ?_, ?_⟩
    · obtain ⟨v1, v2, G3, v3, v4, v5, v6⟩ := y2 hok
      have v6' : G3.length + a1 ≤ a' + 0 := v6
      refine ⟨v1, G1 ++ G3, by rw [v3, List.append_assoc], rngOK_app j3 v4, ?_, by rw [List.length_append]; omega, by omega⟩
      intro ts hts
      rw [tyl_app, j4 ts (by omega), bnd_s]
      exact v5 ts hts
    · intro s hs hc
      obtain ⟨t1, w1, w2, -, w4⟩ := i3 s hs hc
      obtain ⟨w5, w6⟩ := w2 rfl
      have w1' : r.1 37 (nN d) s = some (bI true, t1) := w1
      obtain ⟨t3, x1, x2, x3, x4⟩ := y3 t1 0 n' s w5 w6 (by omega) (by omega)
      refine ⟨t3, ?_, x2, x3, frL_trans w4 x4⟩
      show F_X7_tellsCondition r n 37 (nN d) s = _
      rw [eC, ← x1]
      simp only [L_X7_tellsCondition_8, z400, if_false, w1', bnd_s, bI_t, one_ne0, if_true]
      rfl
    · intro m p hm hp hcm hd'
      obtain ⟨t1, p1, w1, w2, -, w4⟩ := i4 m p hm hp hcm hd'
      obtain ⟨z1, z2, z3, z4⟩ := w2 rfl
      have w1' : r'.1 m = some (bI true, t1) := w1
      obtain ⟨t3, p3, x1, x2, x3, x4⟩ := y4 t1 p1 n n m m z1 z2 z3 z4 (by omega) (by omega)
      refine ⟨t3, p3, ?_, x2, x3, frN_trans w4 x4⟩
      show F_X12_readCond r'' n m = _
      rw [← x1]
      unfold mcO
      rw [if_neg Bool.false_ne_true]
      simp only [F_X12_readCond, hr, F_X12_readAllOf, w1', bnd_s, bI_t, one_ne0, if_false]
/-- all depths -/
theorem p_deep {n : Nat} (hn : 6000 ≤ n) (hL : L ≤ 400) : ∀ e, e ≤ 6 → ∀ f f', 2 * e + 1 ≤ f → 3 * e + 1 ≤ f' →
    (∀ (E : List (Nat × Nat)) (a : Nat), a ≤ L → E.length + 2 ≤ a → PieceR T L E a (6 - e) (2 * (6 - e) + 2) true (fun s => (G_gt n f).1 37 (nN (6 - e)) s) (fun m => (G_gr n f').1 m)) := by
  intro e
  induction e with
  | zero =>
    intro _ f f' hf hf' E a ha hE
    obtain ⟨g, rfl⟩ : ∃ g, f = g + 1 := ⟨f - 1, by omega⟩
    obtain ⟨g', rfl⟩ : ∃ g', f' = g' + 1 := ⟨f' - 1, by omega⟩
    exact p_atom (r := G_gt n g) (r' := G_gr n g') hn hL (by omega) ha hE (fun h => by omega) (fun h => by omega)
  | succ e ih =>
    intro he f f' hf hf' E a ha hE
    obtain ⟨g, rfl⟩ : ∃ g, f = g + 2 := ⟨f - 2, by omega⟩
    obtain ⟨g', rfl⟩ : ∃ g', f' = g' + 4 := ⟨f' - 4, by omega⟩
    have e6 : 6 - (e + 1) + 1 = 6 - e := by omega
    refine p_atom (r := G_gt n (g + 1)) (r' := G_gr n (g' + 3)) hn hL (by omega) ha hE (fun _ => ?_) (fun _ => ?_)
    · rw [e6]
      intro E a ha hE
      exact p_cond (r := G_gt n g) (r' := G_gr n (g' + 1)) (r'' := G_gr n (g' + 2)) hn hL (by omega) ha hE rfl (ih (by omega) g (g' + 1) (by omega) (by omega))
    · rw [e6]
      exact ih (by omega) (g + 1) (g' + 3) (by omega) (by omega)
theorem p_condition {n a : Nat} {E : List (Nat × Nat)} (hn : 6000 ≤ n) (hL : L ≤ 400) (ha : a ≤ L) (hE : E.length + 2 ≤ a) :
    PieceR T L E a 0 0 true (fun s => f_X7_tellsCondition n 37 0 s) (fun m => f_X12_readCond n m) :=
  p_cond (r := G_gt n 29) (r' := G_gr n 28) (r'' := G_gr n 29) hn hL (by omega) ha hE rfl (p_deep (T := T) hn hL 6 (by omega) 29 28 (by omega) (by omega))
end
