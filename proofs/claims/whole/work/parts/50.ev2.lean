/-! layer 2: the reference works out a line -/
def FV (V : HV) (one other : Nat) (sip many : Int32) (k : Nat) : Int32 := if k = 0 then nN one else if k = 1 then nN other else if k = 2 then sip else if k = 3 then many else if k = 4 then likeV V one other + likeV V other one else if k = 5 then V 0 5 else if k = 6 then bI (wedV V one other) else bI (holdsV V one other)
theorem FV_67 (V : HV) (one other : Nat) (sip many : Int32) (k : Nat) (h : k = 6 ∨ k = 7) : FV V one other sip many k = 0 ∨ FV V one other sip many k = 1 := by
  rcases h with rfl | rfl
  · exact bI_ok _
  · exact bI_ok _
/-- whom the reference looks at -/
def Lk (s : MS) (one other : Nat) (sip many : Int32) : Prop := s 171 18 = nN one ∧ s 171 19 = nN other ∧ s 171 20 = sip ∧ s 171 21 = many
theorem e_factOf {s : MS} {one other k ar : Nat} {sip many : Int32} (h : Lk s one other sip many) (h1 : one < 8) (h2 : other < 8) (hk : k ≤ 8) : f_X12_factOf (nN k) (nN ar) s = some (if k ≤ 7 then FV (rv (s 172)) one other sip many k else nN ar) := by
  obtain ⟨a1, a2, a3, a4⟩ := h
  have hk' : k = 0 ∨ k = 1 ∨ k = 2 ∨ k = 3 ∨ k = 4 ∨ k = 5 ∨ k = 6 ∨ k = 7 ∨ k = 8 := by omega
  rcases hk' with rfl | rfl | rfl | rfl | rfl | rfl | rfl | rfl | rfl
  · show f_X12_factOf 0 (nN ar) s = _
    simp only [f_X12_factOf, J_X12_factOf_142, J_X12_factOf_121, if_true, a1]
    rfl
  · show f_X12_factOf 1 (nN ar) s = _
    simp only [f_X12_factOf, J_X12_factOf_142, J_X12_factOf_121, ne_1_0, if_true, if_false, a2]
    rfl
  · show f_X12_factOf 2 (nN ar) s = _
    simp only [f_X12_factOf, J_X12_factOf_142, J_X12_factOf_121, ne_2_0, ne_2_1, if_true, if_false, a3]
    rfl
  · show f_X12_factOf 3 (nN ar) s = _
    simp only [f_X12_factOf, J_X12_factOf_142, J_X12_factOf_121, ne_3_0, ne_3_1, ne_3_2, if_true, if_false, a4]
    rfl
  · show f_X12_factOf 4 (nN ar) s = _
    simp only [f_X12_factOf, J_X12_factOf_142, J_X12_factOf_121, ne_4_0, ne_4_1, ne_4_2, ne_4_3, if_true, if_false, a1, a2, e_X12_likes h1 h2, e_X12_likes h2 h1, bnd_s]
    rfl
  · show f_X12_factOf 5 (nN ar) s = _
    simp only [f_X12_factOf, J_X12_factOf_142, J_X12_factOf_121, ne_5_0, ne_5_1, ne_5_2, ne_5_3, ne_5_4, if_true, if_false]
    rfl
  · show f_X12_factOf 6 (nN ar) s = _
    simp only [f_X12_factOf, J_X12_factOf_142, J_X12_factOf_121, ne_6_0, ne_6_1, ne_6_2, ne_6_3, ne_6_4, ne_6_5, if_true, if_false, a1, a2, e_X12_areWed h1, bnd_s, ite_bI]
    show _ = some (bI (wedV (rv (s 172)) one other))
    cases wedV (rv (s 172)) one other <;> rfl
  · show f_X12_factOf 7 (nN ar) s = _
    simp only [f_X12_factOf, J_X12_factOf_142, J_X12_factOf_121, ne_7_0, ne_7_1, ne_7_2, ne_7_3, ne_7_4, ne_7_5, ne_7_6, if_true, if_false, a1, a2, e_X12_holds h1 h2, bnd_s, ite_bI]
    show _ = some (bI (holdsV (rv (s 172)) one other))
    cases holdsV (rv (s 172)) one other <;> rfl
  · show f_X12_factOf 8 (nN ar) s = _
    simp only [f_X12_factOf, J_X12_factOf_142, J_X12_factOf_121, ne_8_0, ne_8_1, ne_8_2, ne_8_3, ne_8_4, ne_8_5, ne_8_6, ne_8_7, if_false]
    rfl
theorem l523 : (523 : Int32) = nN 523 := rfl
theorem l475 : (475 : Int32) = nN 475 := rfl
theorem m_step {n : Nat} {σ0 s : MS} {l i E op ar one other : Nat} {sip many : Int32} {st : List Int32} {ts ts' : List Bool} (hl : l < 12) (hstop : s 172 (478 + 4 * l) = nN E) (hi : i < E) (hE : E ≤ 400) (hop : op ≤ 14) (har : ar ≤ 999) (hcode : s 172 (523 + 2 * i) = nN op) (harg : s 172 (524 + 2 * i) = nN ar) (hLk : Lk s one other sip many) (h1 : one < 8) (h2 : other < 8) (hS : StkR (s 179) st) (hT : TyS st ts) (hty : ty1 op ts = some ts') (hlen : ts'.length ≤ 30) :
    ∃ s', L_X12_holdsLine_20 n (nN (475 + 4 * l)) σ0 (nN st.length, nN i, s) = some (.inl (nN (ev1 op ar (FV (rv (s 172)) one other sip many) st).length, nN (i + 1), s')) ∧ StkR (s' 179) (ev1 op ar (FV (rv (s 172)) one other sip many) st) ∧ (∀ o, o ≠ 179 → s' o = s o) := by
  have hlenT := TyS_len hT
  have e3 : nN (475 + 4 * l) + 3 = nN (478 + 4 * l) := by rw [l3, nN_add, show 475 + 4 * l + 3 = 478 + 4 * l by omega]
  have ec : (523 : Int32) + 2 * nN i = nN (523 + 2 * i) := by rw [l523, l2, nN_mul, nN_add]
  have ea : nN (523 + 2 * i) + 1 = nN (524 + 2 * i) := by rw [nN_s, show 523 + 2 * i + 1 = 524 + 2 * i by omega]
  have hop' : op ≤ 8 ∨ op = 12 ∨ (op = 9 ∨ op = 10 ∨ op = 11 ∨ op = 13 ∨ op = 14) := by omega
  rcases hop' with hp | hp | hp
  · have ht' := ty1_push hty hp
    have hl2 : st.length ≤ 29 := by
      rw [ht', List.length_cons] at hlen
      omega
    refine ⟨mu s 179 st.length (if op ≤ 7 then FV (rv (s 172)) one other sip many op else nN ar), ?_, ?_, fun o ho => mu_row ho⟩
    · rw [ev_push hp, List.length_cons]
      simp (disch := omega) only [L_X12_holdsLine_20, J_X12_holdsLine_253, e3, ec, ea, inb_nN, ix_nN, it_t, if_true, hstop, le_f, if_false, hcode, harg, l8, lt_f, e_factOf hLk h1 h2 hp, bnd_s, ltM_s, nN_s]
    · rw [ev_push hp, mu_rset]
      exact StkR_push hS
  · obtain ⟨t, hts, hts'⟩ := ty1_un hty hp
    subst hp
    cases st with
    | nil => rw [hts] at hlenT; simp at hlenT
    | cons b st' =>
      rw [hts] at hT
      have hl2 : st'.length ≤ 29 := by
        rw [hts', List.length_cons] at hlen
        have := TyS_len hT.2
        omega
      have hb : s 179 st'.length = b := hS.1
      refine ⟨mu s 179 st'.length (1 - b), ?_, ?_, fun o ho => mu_row ho⟩
      · rw [ev_un, List.length_cons, List.length_cons]
        have h12 : nN 12 = (12 : Int32) := rfl
        have h8 : ((8 : Int32) < nN 12) = True := by rw [l8]; exact lt_t (by omega) (by omega)
        have he : (nN 12 = (12 : Int32)) = True := by decide
        simp (disch := omega) only [L_X12_holdsLine_20, J_X12_holdsLine_253, e3, ec, inb_nN, ix_nN, it_t, if_true, hstop, le_f, if_false, hcode, h8, he, nN_sp, hb, ltM_s, nN_s]
      · rw [ev_un, mu_rset]
        exact StkR_push hS.2
  · obtain ⟨t, q1, q2, q3, x, y, q4⟩ := ty1_bin hty hp
    cases st with
    | nil => rw [q4] at hlenT; simp at hlenT
    | cons b st1 =>
      cases st1 with
      | nil => rw [q4] at hlenT; simp at hlenT
      | cons a st2 =>
        have hT' := hT
        rw [q4] at hT'
        have hl2 : st2.length ≤ 29 := by
          rw [q3, List.length_cons] at hlen
          have := TyS_len hT'.2.2
          omega
        have hb : s 179 (st2.length + 1) = b := hS.1
        have ha : s 179 st2.length = a := hS.2.1
        refine ⟨mu s 179 st2.length (evB op a b), ?_, ?_, fun o ho => mu_row ho⟩
        · rw [ev_bin hp, List.length_cons, List.length_cons, List.length_cons]
          have h8 : ((8 : Int32) < nN op) = True := by rw [l8]; exact lt_t (by omega) (by omega)
          have h12 : (nN op = (12 : Int32)) = False := by rw [l12]; exact nN_eqf (by omega) (by omega) (by omega)
          rcases hp with rfl | rfl | rfl | rfl | rfl
          · have k1 : (nN 9 = (10 : Int32)) = False := by decide
            have k2 : (nN 9 = (11 : Int32)) = False := by decide
            have k3 : (nN 9 = (13 : Int32)) = False := by decide
            have k4 : (nN 9 = (9 : Int32)) = True := by decide
            simp (disch := omega) only [L_X12_holdsLine_20, J_X12_holdsLine_278, J_X12_holdsLine_273, J_X12_holdsLine_253, J_X12_holdsLine_252, J_X12_holdsLine_218, e3, ec, inb_nN, ix_nN, it_t, if_true, hstop, le_f, if_false, hcode, h8, h12, nN_p1, nN_sp, hb, ha, ltM_s, nN_s, k1, k2, k3, k4, ite_self]
            rfl
          · have k1 : (nN 10 = (10 : Int32)) = True := by decide
            have k4 : (nN 10 = (9 : Int32)) = False := by decide
            simp (disch := omega) only [L_X12_holdsLine_20, J_X12_holdsLine_278, J_X12_holdsLine_273, J_X12_holdsLine_253, J_X12_holdsLine_252, J_X12_holdsLine_218, e3, ec, inb_nN, ix_nN, it_t, if_true, hstop, le_f, if_false, hcode, h8, h12, nN_p1, nN_sp, hb, ha, ltM_s, nN_s, k1, k4, one_ne0]
            show _ = some (Sum.inl (nN (st2.length + 1), nN (i + 1), mu s 179 st2.length (if a < b then 1 else 0)))
            by_cases c : a < b
            · have c' : ¬ b ≤ a := by rw [Int32.not_le]; exact c
              simp only [c, c', if_true, if_false]
            · have c' : b ≤ a := by rw [← Int32.not_lt]; exact c
              simp only [c, c', if_true, if_false]
          · have k1 : (nN 11 = (10 : Int32)) = False := by decide
            have k2 : (nN 11 = (11 : Int32)) = True := by decide
            have k4 : (nN 11 = (9 : Int32)) = False := by decide
            simp (disch := omega) only [L_X12_holdsLine_20, J_X12_holdsLine_278, J_X12_holdsLine_273, J_X12_holdsLine_253, J_X12_holdsLine_252, J_X12_holdsLine_218, e3, ec, inb_nN, ix_nN, it_t, if_true, hstop, le_f, if_false, hcode, h8, h12, nN_p1, nN_sp, hb, ha, ltM_s, nN_s, k1, k2, k4, one_ne0]
            show _ = some (Sum.inl (nN (st2.length + 1), nN (i + 1), mu s 179 st2.length (if b < a then 1 else 0)))
            by_cases c : b < a
            · have c' : ¬ a ≤ b := by rw [Int32.not_le]; exact c
              simp only [c, c', if_true, if_false]
            · have c' : a ≤ b := by rw [← Int32.not_lt]; exact c
              simp only [c, c', if_true, if_false]
          · have k1 : (nN 13 = (10 : Int32)) = False := by decide
            have k2 : (nN 13 = (11 : Int32)) = False := by decide
            have k3 : (nN 13 = (13 : Int32)) = True := by decide
            have k4 : (nN 13 = (9 : Int32)) = False := by decide
            simp (disch := omega) only [L_X12_holdsLine_20, J_X12_holdsLine_278, J_X12_holdsLine_273, J_X12_holdsLine_253, J_X12_holdsLine_252, J_X12_holdsLine_218, e3, ec, inb_nN, ix_nN, it_t, if_true, hstop, le_f, if_false, hcode, h8, h12, nN_p1, nN_sp, hb, ha, ltM_s, nN_s, k1, k2, k3, k4, one_ne0]
            show _ = some (Sum.inl (nN (st2.length + 1), nN (i + 1), mu s 179 st2.length (if a + b = 2 then 1 else 0)))
            by_cases c : a + b = 2
            · simp only [c, if_true]
            · simp only [c, if_false]
          · have k1 : (nN 14 = (10 : Int32)) = False := by decide
            have k2 : (nN 14 = (11 : Int32)) = False := by decide
            have k3 : (nN 14 = (13 : Int32)) = False := by decide
            have k4 : (nN 14 = (9 : Int32)) = False := by decide
            simp (disch := omega) only [L_X12_holdsLine_20, J_X12_holdsLine_278, J_X12_holdsLine_273, J_X12_holdsLine_253, J_X12_holdsLine_252, J_X12_holdsLine_218, e3, ec, inb_nN, ix_nN, it_t, if_true, hstop, le_f, if_false, hcode, h8, h12, nN_p1, nN_sp, hb, ha, ltM_s, nN_s, k1, k2, k3, k4, one_ne0]
            show _ = some (Sum.inl (nN (st2.length + 1), nN (i + 1), mu s 179 st2.length (if a + b ≤ 0 then 0 else 1)))
            by_cases c : a + b ≤ 0
            · simp only [c, if_true]
            · simp only [c, if_false]
        · rw [ev_bin hp, mu_rset]
          exact StkR_push hS.2.2
