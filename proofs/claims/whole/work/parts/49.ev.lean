/-! layer 2: a line of the law is worked out -/
def ev1 (op ar : Nat) (F : Nat → Int32) (st : List Int32) : List Int32 :=
  if op ≤ 7 then F op :: st else if op = 8 then nN ar :: st
  else match st with
    | b :: st' => if op = 12 then (1 - b) :: st' else (match st' with
      | a :: st'' => (if op = 9 then a + b else if op = 10 then (if a < b then 1 else 0) else if op = 11 then (if b < a then 1 else 0) else if op = 13 then (if a + b = 2 then 1 else 0) else (if a + b ≤ 0 then 0 else 1)) :: st''
      | [] => [])
    | [] => []
def StkR (row : Nat → Int32) : List Int32 → Prop
  | [] => True
  | x :: st => row st.length = x ∧ StkR row st
def TyS : List Int32 → List Bool → Prop
  | [], [] => True
  | x :: st, b :: ts => (b = true → x = 0 ∨ x = 1) ∧ TyS st ts
  | _, _ => False
theorem TyS_len : ∀ {st : List Int32} {ts : List Bool}, TyS st ts → st.length = ts.length := by
  intro st
  induction st with
  | nil => intro ts h; cases ts with
    | nil => rfl
    | cons b ts => exact absurd h id
  | cons x st ih => intro ts h; cases ts with
    | nil => exact absurd h id
    | cons b ts => rw [List.length_cons, List.length_cons, ih h.2]
theorem StkR_upd {row : Nat → Int32} {k : Nat} {v : Int32} : ∀ {st : List Int32}, StkR row st → st.length ≤ k → StkR (rset row k v) st := by
  intro st
  induction st with
  | nil => intro _ _; trivial
  | cons x st ih =>
    intro h hk
    rw [List.length_cons] at hk
    refine ⟨?_, ih h.2 (by omega)⟩
    show (if st.length = k then v else row st.length) = x
    rw [if_neg (by omega)]
    exact h.1
theorem StkR_push {row : Nat → Int32} {v : Int32} {st : List Int32} (h : StkR row st) : StkR (rset row st.length v) (v :: st) := ⟨if_pos rfl, StkR_upd h (Nat.le_refl _)⟩
theorem ty1_un {op : Nat} {ts ts' : List Bool} (h : ty1 op ts = some ts') (h12 : op = 12) : ∃ t, ts = true :: t ∧ ts' = true :: t := by
  subst h12
  cases ts with
  | nil => simp [ty1] at h
  | cons a t =>
    simp [ty1] at h
    exact ⟨t, by rw [h.1], h.2.symm⟩
theorem ty1_bin {op : Nat} {ts ts' : List Bool} (h : ty1 op ts = some ts') (hop : op = 9 ∨ op = 10 ∨ op = 11 ∨ op = 13 ∨ op = 14) : ∃ t, ((op = 9 ∨ op = 10 ∨ op = 11) → ts = false :: false :: t) ∧ ((op = 13 ∨ op = 14) → ts = true :: true :: t) ∧ ts' = (decide (op ≠ 9)) :: t ∧ ∃ x y, ts = x :: y :: t := by
  rcases hop with rfl | rfl | rfl | rfl | rfl
  all_goals
    cases ts with
    | nil => simp [ty1] at h
    | cons a t =>
      cases t with
      | nil => simp [ty1] at h
      | cons b t =>
        simp [ty1] at h
        refine ⟨t, ?_, ?_, ?_, a, b, rfl⟩
        · intro hh
          first
            | (exfalso; omega)
            | (rw [h.1.1, h.1.2])
        · intro hh
          first
            | (exfalso; omega)
            | (rw [h.1.1, h.1.2])
        · rw [← h.2]
          rfl
theorem ty1_push {op : Nat} {ts ts' : List Bool} (h : ty1 op ts = some ts') (hop : op ≤ 8) : ts' = decide (op = 6 ∨ op = 7) :: ts := by
  unfold ty1 at h
  by_cases c : op ≤ 5 ∨ op = 8
  · rw [if_pos c] at h
    have : ¬ (op = 6 ∨ op = 7) := by omega
    rw [decide_eq_false this]
    exact (Option.some.inj h).symm
  · rw [if_neg c, if_pos (show op ≤ 7 by omega)] at h
    have : op = 6 ∨ op = 7 := by omega
    rw [decide_eq_true this]
    exact (Option.some.inj h).symm
theorem ev_push {op ar : Nat} {F : Nat → Int32} {st : List Int32} (hop : op ≤ 8) : ev1 op ar F st = (if op ≤ 7 then F op else nN ar) :: st := by
  unfold ev1
  by_cases c : op ≤ 7
  · rw [if_pos c, if_pos c]
  · rw [if_neg c, if_pos (by omega), if_neg c]
def evB (op : Nat) (a b : Int32) : Int32 := if op = 9 then a + b else if op = 10 then (if a < b then 1 else 0) else if op = 11 then (if b < a then 1 else 0) else if op = 13 then (if a + b = 2 then 1 else 0) else (if a + b ≤ 0 then 0 else 1)
theorem ev_bin {op ar : Nat} {F : Nat → Int32} {a b : Int32} {st : List Int32} (hop : op = 9 ∨ op = 10 ∨ op = 11 ∨ op = 13 ∨ op = 14) : ev1 op ar F (b :: a :: st) = evB op a b :: st := by
  rcases hop with rfl | rfl | rfl | rfl | rfl <;> rfl
theorem ev_un {ar : Nat} {F : Nat → Int32} {b : Int32} {st : List Int32} : ev1 12 ar F (b :: st) = (1 - b) :: st := rfl
theorem evB_01 {op : Nat} {a b : Int32} (h : op ≠ 9) : evB op a b = 0 ∨ evB op a b = 1 := by
  unfold evB
  rw [if_neg h]
  repeat' split
  all_goals first | exact Or.inl rfl | exact Or.inr rfl
theorem not_01 {x : Int32} (h : x = 0 ∨ x = 1) : 1 - x = 0 ∨ 1 - x = 1 := by
  rcases h with rfl | rfl
  · exact Or.inr rfl
  · exact Or.inl rfl
/-- the program's sign -/
theorem e_joined {σ : MS} {op : Nat} {a b : Int32} (hop : op = 9 ∨ op = 10 ∨ op = 11 ∨ op = 13 ∨ op = 14) (hab : (op = 13 ∨ op = 14) → (a = 0 ∨ a = 1) ∧ (b = 0 ∨ b = 1)) : f_X6_joined (nN (enc op 0)) a b σ = some (evB op a b) := by
  have e1 : ((2003 : Int32) = 2001) = False := by decide
  have e2 : ((2003 : Int32) = 2002) = False := by decide
  have e3 : ((2004 : Int32) = 2001) = False := by decide
  have e4 : ((2004 : Int32) = 2002) = False := by decide
  have e5 : ((2004 : Int32) = 2003) = False := by decide
  have e6 : ((2005 : Int32) = 2001) = False := by decide
  have e7 : ((2005 : Int32) = 2002) = False := by decide
  have e8 : ((2005 : Int32) = 2003) = False := by decide
  have e9 : ((2005 : Int32) = 2004) = False := by decide
  have e10 : ((2002 : Int32) = 2001) = False := by decide
  rcases hop with rfl | rfl | rfl | rfl | rfl
  · show f_X6_joined 2003 a b σ = _
    simp only [f_X6_joined, J_X6_joined_65, J_X6_joined_54, e1, e2, if_false, if_true]
    rfl
  · show f_X6_joined 2004 a b σ = some (if a < b then 1 else 0)
    simp only [f_X6_joined, J_X6_joined_65, J_X6_joined_54, e3, e4, e5, if_false, if_true]
    by_cases c : a < b
    · have c' : ¬ b ≤ a := by rw [Int32.not_le]; exact c
      simp only [c, c', if_true, if_false]
    · have c' : b ≤ a := by rw [← Int32.not_lt]; exact c
      simp only [c, c', if_true, if_false]
  · show f_X6_joined 2005 a b σ = some (if b < a then 1 else 0)
    simp only [f_X6_joined, J_X6_joined_65, J_X6_joined_54, e6, e7, e8, e9, if_false]
    by_cases c : b < a
    · have c' : ¬ a ≤ b := by rw [Int32.not_le]; exact c
      simp only [c, c', if_true, if_false]
    · have c' : a ≤ b := by rw [← Int32.not_lt]; exact c
      simp only [c, c', if_true, if_false]
  · show f_X6_joined 2001 a b σ = _
    simp only [f_X6_joined, J_X6_joined_65, J_X6_joined_54, if_true]
    obtain ⟨ha, hb⟩ := hab (Or.inl rfl)
    rcases ha with rfl | rfl <;> rcases hb with rfl | rfl <;> decide
  · show f_X6_joined 2002 a b σ = _
    simp only [f_X6_joined, J_X6_joined_65, J_X6_joined_54, e10, if_false, if_true]
    obtain ⟨ha, hb⟩ := hab (Or.inr rfl)
    rcases ha with rfl | rfl <;> rcases hb with rfl | rfl <;> decide
theorem enc_bin {op ar : Nat} (hop : op = 9 ∨ op = 10 ∨ op = 11 ∨ op = 13 ∨ op = 14) : enc op ar = enc op 0 ∧ 2000 < enc op 0 ∧ enc op 0 < 2006 := by
  rcases hop with rfl | rfl | rfl | rfl | rfl <;> exact ⟨rfl, by decide, by decide⟩
theorem l2000 : (2000 : Int32) = nN 2000 := rfl
theorem l1000 : (1000 : Int32) = nN 1000 := rfl
theorem l32 : (32 : Int32) = nN 32 := rfl
theorem nN_eqf {a b : Nat} (h : a ≠ b) (ha : a < 2147483648) (hb : b < 2147483648) : (nN a = nN b) = False := by rw [nN_eq ha hb]; exact eq_false h
theorem c_step {n : Nat} {σ0 s : MS} {l i E op ar : Nat} {F : Nat → Int32} {st : List Int32} {ts ts' : List Bool} (hl : l < 12) (hstop : s 33 l = nN E) (hi : i < E) (hE : E ≤ 400) (hop : op ≤ 14) (har : ar ≤ 999) (hcode : s 34 i = nN (enc op ar)) (hF : ∀ k, k < 8 → s 35 k = F k) (hF67 : ∀ k, (k = 6 ∨ k = 7) → F k = 0 ∨ F k = 1) (hS : StkR (s 36) st) (hT : TyS st ts) (hty : ty1 op ts = some ts') (hlen : ts'.length ≤ 30) :
    ∃ s', L_X6_isTrue_19 n 30 (nN l) σ0 (nN st.length, nN i, s) = some (.inl (nN (ev1 op ar F st).length, nN (i + 1), s')) ∧ StkR (s' 36) (ev1 op ar F st) ∧ TyS (ev1 op ar F st) ts' ∧ (∀ o, o ≠ 36 → s' o = s o) := by
  have hlenT := TyS_len hT
  have hop' : op ≤ 8 ∨ op = 12 ∨ (op = 9 ∨ op = 10 ∨ op = 11 ∨ op = 13 ∨ op = 14) := by omega
  rcases hop' with hp | hp | hp
  · have ht' := ty1_push hty hp
    have hl2 : st.length ≤ 29 := by
      rw [ht', List.length_cons] at hlen
      omega
    have henc : enc op ar = if op ≤ 7 then 1000 + op else ar := by
      unfold enc
      by_cases c : op ≤ 7
      · rw [if_pos c, if_pos c]
      · rw [if_neg c, if_pos (by omega), if_neg c]
    refine ⟨mu s 36 st.length (if op ≤ 7 then F op else nN ar), ?_, ?_, ?_, fun o ho => mu_row ho⟩
    · rw [ev_push hp, List.length_cons]
      by_cases c : op ≤ 7
      · rw [if_pos c]
        rw [if_pos c] at henc
        have hx : nN (1000 + op) - nN 1000 = nN op := by
          rw [nN_sub (by omega), show 1000 + op - 1000 = op by omega]
        simp (disch := omega) only [L_X6_isTrue_19, J_X6_isTrue_182, J_X6_isTrue_177, J_X6_isTrue_158, J_X6_isTrue_83, J_X6_isTrue_18, inb_nN, ix_nN, it_t, if_true, hstop, le_f, le_t, if_false, hcode, henc, l2000, l32, l1000, hx, hF, ltM_s, nN_s]
      · rw [if_neg c]
        rw [if_neg c] at henc
        simp (disch := omega) only [L_X6_isTrue_19, J_X6_isTrue_182, J_X6_isTrue_177, J_X6_isTrue_158, J_X6_isTrue_83, J_X6_isTrue_18, inb_nN, ix_nN, it_t, if_true, hstop, le_f, le_t, if_false, hcode, henc, l2000, l32, l1000, ltM_s, nN_s]
    · rw [ev_push hp, mu_rset]
      exact StkR_push hS
    · rw [ev_push hp, ht']
      refine ⟨?_, hT⟩
      intro h
      have h67 := of_decide_eq_true h
      rw [if_pos (by omega)]
      exact hF67 op h67
  · obtain ⟨t, hts, hts'⟩ := ty1_un hty hp
    subst hp
    cases st with
    | nil => rw [hts] at hlenT; simp at hlenT
    | cons b st' =>
      rw [hts] at hT
      have hl2 : st'.length ≤ 29 := by
        rw [hts', List.length_cons] at hlen
        have := TyS_len hT.2
        omega
      have hb : s 36 st'.length = b := hS.1
      have e2 : enc 12 ar = 2000 := rfl
      refine ⟨mu s 36 st'.length (1 - b), ?_, ?_, ?_, fun o ho => mu_row ho⟩
      · rw [ev_un, List.length_cons, List.length_cons]
        have hz : (nN (st'.length + 1) ≤ 0) = False := by rw [l0]; exact le_f (by omega) (by omega)
        simp (disch := omega) only [L_X6_isTrue_19, J_X6_isTrue_182, J_X6_isTrue_177, J_X6_isTrue_158, J_X6_isTrue_83, J_X6_isTrue_18, inb_nN, ix_nN, it_t, if_true, hstop, le_f, le_t, if_false, hcode, e2, l2000, hz, nN_sp, hb, ltM_s, nN_s]
      · rw [ev_un, mu_rset]
        exact StkR_push hS.2
      · rw [ev_un, hts']
        exact ⟨fun _ => not_01 (hT.1 rfl), hT.2⟩
  · obtain ⟨t, q1, q2, q3, x, y, q4⟩ := ty1_bin hty hp
    cases st with
    | nil => rw [q4] at hlenT; simp at hlenT
    | cons b st1 =>
      cases st1 with
      | nil => rw [q4] at hlenT; simp at hlenT
      | cons a st2 =>
        have hT' := hT
        rw [q4] at hT'
        have hl2 : st2.length ≤ 29 := by
          rw [q3, List.length_cons] at hlen
          have := TyS_len hT'.2.2
          omega
        have hb : s 36 (st2.length + 1) = b := hS.1
        have ha : s 36 st2.length = a := hS.2.1
        have hab : (op = 13 ∨ op = 14) → (a = 0 ∨ a = 1) ∧ (b = 0 ∨ b = 1) := by
          intro h
          have hh := hT
          rw [q2 h] at hh
          exact ⟨hh.2.1 rfl, hh.1 rfl⟩
        obtain ⟨n1, n2, n3⟩ := enc_bin (ar := ar) hp
        refine ⟨mu s 36 st2.length (evB op a b), ?_, ?_, ?_, fun o ho => mu_row ho⟩
        · rw [ev_bin hp, List.length_cons, List.length_cons, List.length_cons]
          have h20 : (nN (enc op 0) = nN 2000) = False := nN_eqf (by omega) (by omega) (by omega)
          have hz : (nN (st2.length + 1 + 1) ≤ 1) = False := by rw [l1]; exact le_f (by omega) (by omega)
          simp (disch := omega) only [L_X6_isTrue_19, J_X6_isTrue_182, J_X6_isTrue_177, J_X6_isTrue_158, J_X6_isTrue_83, J_X6_isTrue_18, inb_nN, ix_nN, it_t, if_true, hstop, le_f, le_t, if_false, hcode, n1, l2000, h20, hz, nN_p1, nN_sp, hb, ha, e_joined hp hab, bnd_s, ltM_s, nN_s]
        · rw [ev_bin hp, mu_rset]
          exact StkR_push hS.2.2
        · rw [ev_bin hp, q3]
          refine ⟨fun h => ?_, hT'.2.2⟩
          exact evB_01 (of_decide_eq_true h)
