/-! layer 2: the law's sums -/
def evc (op ar : Nat → Nat) (F : Nat → Int32) : Nat → Nat → List Int32 → List Int32
  | _, 0, st => st
  | s, m + 1, st => evc op ar F (s + 1) m (ev1 (op s) (ar s) F st)
def trF (st : List Int32) : Bool := match st with
  | [] => true
  | x :: _ => decide (x = 1)
theorem ev_ty {op ar : Nat} {F : Nat → Int32} {st : List Int32} {ts ts' : List Bool} (hop : op ≤ 14) (hF67 : ∀ k, (k = 6 ∨ k = 7) → F k = 0 ∨ F k = 1) (hT : TyS st ts) (hty : ty1 op ts = some ts') : TyS (ev1 op ar F st) ts' := by
  have hlenT := TyS_len hT
  have hop' : op ≤ 8 ∨ op = 12 ∨ (op = 9 ∨ op = 10 ∨ op = 11 ∨ op = 13 ∨ op = 14) := by omega
  rcases hop' with hp | hp | hp
  · have ht' := ty1_push hty hp
    rw [ev_push hp, ht']
    refine ⟨?_, hT⟩
    intro h
    have h67 := of_decide_eq_true h
    rw [if_pos (by omega)]
    exact hF67 op h67
  · obtain ⟨t, hts, hts'⟩ := ty1_un hty hp
    subst hp
    cases st with
    | nil => rw [hts] at hlenT; simp at hlenT
    | cons b st' =>
      rw [hts] at hT
      rw [ev_un, hts']
      exact ⟨fun _ => not_01 (hT.1 rfl), hT.2⟩
  · obtain ⟨t, q1, q2, q3, x, y, q4⟩ := ty1_bin hty hp
    cases st with
    | nil => rw [q4] at hlenT; simp at hlenT
    | cons b st1 =>
      cases st1 with
      | nil => rw [q4] at hlenT; simp at hlenT
      | cons a st2 =>
        rw [q4] at hT
        rw [ev_bin hp, q3]
        exact ⟨fun h => evB_01 (of_decide_eq_true h), hT.2.2⟩
theorem c_run {n l : Nat} {σ0 : MS} {op ar : Nat → Nat} {F : Nat → Int32} {tsf : List Bool} (hl : l < 12) (htf : tsf = [] ∨ tsf = [true]) (hF67 : ∀ k, (k = 6 ∨ k = 7) → F k = 0 ∨ F k = 1) :
    ∀ (m k i : Nat) (st : List Int32) (ts : List Bool) (s : MS), m < k → tyc op i m ts = some tsf → (∀ x, i ≤ x → x < i + m → op x ≤ 14 ∧ ar x ≤ 999 ∧ s 34 x = nN (enc (op x) (ar x))) → s 33 l = nN (i + m) → i + m ≤ 400 → (∀ k, k < 8 → s 35 k = F k) → StkR (s 36) st → TyS st ts →
      ∃ s', itr (L_X6_isTrue_19 n 30 (nN l) σ0) k (nN st.length, nN i, s) = some (bI (trF (evc op ar F i m st)), s') ∧ (∀ o, o ≠ 36 → s' o = s o) := by
  intro m
  induction m with
  | zero =>
    intro k i st ts s hk hty hcode hstop hE hF hS hT
    obtain ⟨k', rfl⟩ : ∃ k', k = k' + 1 := ⟨k - 1, by omega⟩
    have hts : ts = tsf := Option.some.inj hty
    subst hts
    refine ⟨s, ?_, fun _ _ => rfl⟩
    rw [Nat.add_zero] at hstop
    have hlen := TyS_len hT
    rcases htf with rfl | rfl
    · cases st with
      | cons x st => simp at hlen
      | nil =>
        have z : (nN ([] : List Int32).length = 0) = True := by decide
        refine itr_en ?_
        simp (disch := omega) only [L_X6_isTrue_19, J_X6_isTrue_182, J_X6_isTrue_177, J_X6_isTrue_158, J_X6_isTrue_83, J_X6_isTrue_18, inb_nN, ix_nN, it_t, if_true, hstop, le_t, z, ok_1, or_true, Option.map_some]
        rfl
    · cases st with
      | nil => simp at hlen
      | cons x st =>
        cases st with
        | cons y st => simp at hlen
        | nil =>
          have z : (nN [x].length = 0) = False := ne_1_0
          have hx : s 36 0 = x := hS.1
          refine itr_en ?_
          simp (disch := omega) only [L_X6_isTrue_19, J_X6_isTrue_182, J_X6_isTrue_177, J_X6_isTrue_158, J_X6_isTrue_83, J_X6_isTrue_18, inb_nN, ix_nN, it_t, if_true, hstop, le_t, z, if_false, hx, ok_0, ok_1, or_true, true_or, Option.map_some]
          rcases hT.1 rfl with rfl | rfl <;> rfl
  | succ m ih =>
    intro k i st ts s hk hty hcode hstop hE hF hS hT
    obtain ⟨k', rfl⟩ : ∃ k', k = k' + 1 := ⟨k - 1, by omega⟩
    have hty' : (ty1 (op i) ts).bind (fun ts' => if ts'.length ≤ 30 then tyc op (i + 1) m ts' else none) = some tsf := hty
    obtain ⟨ts', h1, h2⟩ := Option.bind_eq_some_iff.mp hty'
    have hlen : ts'.length ≤ 30 := by
      apply Classical.byContradiction
      intro hc
      rw [if_neg hc] at h2
      cases h2
    rw [if_pos hlen] at h2
    obtain ⟨c1, c2, c3⟩ := hcode i (by omega) (by omega)
    obtain ⟨s', e1, e2, e3, e4⟩ := c_step (n := n) (σ0 := σ0) (F := F) hl hstop (show i < i + (m + 1) by omega) hE c1 c2 c3 hF hF67 hS hT h1 hlen
    obtain ⟨s'', f1, f2⟩ := ih k' (i + 1) (ev1 (op i) (ar i) F st) ts' s' (by omega) h2 (fun x hx1 hx2 => by rw [e4 34 (by omega)]; exact hcode x (by omega) (by omega)) (by rw [e4 33 (by omega), show i + 1 + m = i + (m + 1) by omega]; exact hstop) (by omega) (fun k hk => by rw [e4 35 (by omega)]; exact hF k hk) e2 e3
    refine ⟨s'', ?_, fun o ho => (f2 o ho).trans (e4 o ho)⟩
    rw [itr_st e1]
    exact f1
theorem m_run {n l one other : Nat} {sip many : Int32} {σ0 : MS} {op ar : Nat → Nat} {V : HV} {tsf : List Bool} (hl : l < 12) (htf : tsf = [] ∨ tsf = [true]) (h1 : one < 8) (h2 : other < 8) :
    ∀ (m k i : Nat) (st : List Int32) (ts : List Bool) (s : MS), m < k → tyc op i m ts = some tsf → (∀ x, i ≤ x → x < i + m → op x ≤ 14 ∧ ar x ≤ 999 ∧ s 172 (523 + 2 * x) = nN (op x) ∧ s 172 (524 + 2 * x) = nN (ar x)) → s 172 (478 + 4 * l) = nN (i + m) → i + m ≤ 400 → Lk s one other sip many → rv (s 172) = V → StkR (s 179) st → TyS st ts →
      ∃ s', itr (L_X12_holdsLine_20 n (nN (475 + 4 * l)) σ0) k (nN st.length, nN i, s) = some (bI (trF (evc op ar (FV V one other sip many) i m st)), s') ∧ (∀ o, o ≠ 179 → s' o = s o) := by
  have hF67 := FV_67 V one other sip many
  have e3 : nN (475 + 4 * l) + 3 = nN (478 + 4 * l) := by rw [l3, nN_add, show 475 + 4 * l + 3 = 478 + 4 * l by omega]
  intro m
  induction m with
  | zero =>
    intro k i st ts s hk hty hcode hstop hE hLk hV hS hT
    obtain ⟨k', rfl⟩ : ∃ k', k = k' + 1 := ⟨k - 1, by omega⟩
    have hts : ts = tsf := Option.some.inj hty
    subst hts
    refine ⟨s, ?_, fun _ _ => rfl⟩
    rw [Nat.add_zero] at hstop
    have hlen := TyS_len hT
    rcases htf with rfl | rfl
    · cases st with
      | cons x st => simp at hlen
      | nil =>
        have z : (nN ([] : List Int32).length = 0) = True := by decide
        refine itr_en ?_
        simp only [L_X12_holdsLine_20]
        rw [e3, inb_nN (by omega) (by omega), ix_nN (by omega), it_t, hstop, it_le (by omega) (by omega), if_pos (Nat.le_refl _)]
        simp only [J_X12_holdsLine_273, J_X12_holdsLine_278, z, if_true, ok_1, or_true, Option.map_some]
        rfl
    · cases st with
      | nil => simp at hlen
      | cons x st =>
        cases st with
        | cons y st => simp at hlen
        | nil =>
          have z : (nN [x].length = 0) = False := ne_1_0
          have hx : s 179 0 = x := hS.1
          refine itr_en ?_
          simp only [L_X12_holdsLine_20]
          rw [e3, inb_nN (by omega) (by omega), ix_nN (by omega), it_t, hstop, it_le (by omega) (by omega), if_pos (Nat.le_refl _)]
          simp only [J_X12_holdsLine_273, J_X12_holdsLine_278, z, if_true, if_false, hx, ok_0, ok_1, or_true, true_or, Option.map_some]
          rcases hT.1 rfl with rfl | rfl <;> rfl
  | succ m ih =>
    intro k i st ts s hk hty hcode hstop hE hLk hV hS hT
    obtain ⟨k', rfl⟩ : ∃ k', k = k' + 1 := ⟨k - 1, by omega⟩
    have hty' : (ty1 (op i) ts).bind (fun ts' => if ts'.length ≤ 30 then tyc op (i + 1) m ts' else none) = some tsf := hty
    obtain ⟨ts', g1, g2⟩ := Option.bind_eq_some_iff.mp hty'
    have hlen : ts'.length ≤ 30 := by
      apply Classical.byContradiction
      intro hc
      rw [if_neg hc] at g2
      cases g2
    rw [if_pos hlen] at g2
    obtain ⟨c1, c2, c3, c4⟩ := hcode i (by omega) (by omega)
    obtain ⟨s', e1, e2, e4⟩ := m_step (n := n) (σ0 := σ0) hl hstop (show i < i + (m + 1) by omega) hE c1 c2 c3 c4 hLk h1 h2 hS hT g1 hlen
    rw [hV] at e1 e2
    have e5 : TyS (ev1 (op i) (ar i) (FV V one other sip many) st) ts' := ev_ty c1 hF67 hT g1
    obtain ⟨s'', f1, f2⟩ := ih k' (i + 1) (ev1 (op i) (ar i) (FV V one other sip many) st) ts' s' (by omega) g2 (fun x hx1 hx2 => by rw [e4 172 (by omega)]; exact hcode x (by omega) (by omega)) (by rw [e4 172 (by omega), show i + 1 + m = i + (m + 1) by omega]; exact hstop) (by omega) (by unfold Lk; rw [e4 171 (by omega)]; exact hLk) (by rw [e4 172 (by omega)]; exact hV) e2 e5
    refine ⟨s'', ?_, fun o ho => (f2 o ho).trans (e4 o ho)⟩
    rw [itr_st e1]
    exact f1
/-- a law, as both hold it -/
def LD (G : Nat → Nat → Int32) (w : Nat → Int32) (L : Nat) (st op ar : Nat → Nat) : Prop := L ≤ 12 ∧ G 0 0 = nN L ∧ w 2 = 1 ∧ w 474 = nN L ∧ st 0 = 0 ∧
    (∀ l, l < L → st l ≤ st (l + 1) ∧ st (l + 1) ≤ 400 ∧ G 3 l = nN (st (l + 1)) ∧ w (477 + 4 * l) = nN (st l) ∧ w (478 + 4 * l) = nN (st (l + 1)) ∧
      (∃ k, k < 3 ∧ G 1 l = nN k ∧ w (475 + 4 * l) = nN k) ∧ (∃ m, m ≤ 99 ∧ G 2 l = nN m ∧ w (476 + 4 * l) = nN m) ∧
      (st (l + 1) = st l ∨ tyc op (st l) (st (l + 1) - st l) [] = some [true])) ∧
    (∀ i, i < st L → op i ≤ 14 ∧ ar i ≤ 999 ∧ G 4 i = nN (enc (op i) (ar i)) ∧ w (523 + 2 * i) = nN (op i) ∧ w (524 + 2 * i) = nN (ar i))
theorem LWR_LD {G : Nat → Nat → Int32} {w : Nat → Int32} (h : LWR G w) : (G 0 0 = -1 ∧ w 2 = 0) ∨ ∃ L st op ar, LD G w L st op ar := h
theorem LD_mono {G : Nat → Nat → Int32} {w : Nat → Int32} {L : Nat} {st op ar : Nat → Nat} (h : LD G w L st op ar) : ∀ d l, l + d ≤ L → st l ≤ st (l + d) := by
  intro d
  induction d with
  | zero => intro l _; exact Nat.le_refl _
  | succ d ih =>
    intro l hl
    have h1 := ih l (by omega)
    have h2 := (h.2.2.2.2.2.1 (l + d) (by omega)).1
    rw [show l + (d + 1) = l + d + 1 by omega]
    omega
theorem LD_ty {G : Nat → Nat → Int32} {w : Nat → Int32} {L l : Nat} {st op ar : Nat → Nat} (h : LD G w L st op ar) (hl : l < L) : ∃ tsf, (tsf = [] ∨ tsf = [true]) ∧ tyc op (st l) (st (l + 1) - st l) [] = some tsf := by
  rcases (h.2.2.2.2.2.1 l hl).2.2.2.2.2.2.2 with h1 | h1
  · exact ⟨[], Or.inl rfl, by rw [h1, Nat.sub_self]; rfl⟩
  · exact ⟨[true], Or.inr rfl, h1⟩
def trL (st op ar : Nat → Nat) (F : Nat → Int32) (l : Nat) : Bool := trF (evc op ar F (st l) (st (l + 1) - st l) [])
theorem e_isTrue {σ : MS} {n L l : Nat} {st op ar : Nat → Nat} {w F : Nat → Int32} (hn : 6000 ≤ n) (h : LD (rows σ 30) w L st op ar) (hl : l < L) (hF : ∀ k, k < 8 → σ 35 k = F k) (hF67 : ∀ k, (k = 6 ∨ k = 7) → F k = 0 ∨ F k = 1) : ∃ τ, f_X6_isTrue n 30 (nN l) σ = some (bI (trL st op ar F l), τ) ∧ (∀ o, o ≠ 36 → τ o = σ o) := by
  obtain ⟨tsf, t1, t2⟩ := LD_ty h hl
  have hmo := LD_mono h (L - (l + 1)) (l + 1) (by omega)
  rw [show l + 1 + (L - (l + 1)) = L by omega] at hmo
  obtain ⟨d1, d2, d3, d4, d5, d6, d7⟩ := h
  obtain ⟨a1, a2, a3, a4, a5, -, -, -⟩ := d6 l hl
  have key := c_run (n := n) (σ0 := σ) (op := op) (ar := ar) (F := F) (l := l) (by omega) t1 hF67 (st (l + 1) - st l) n (st l) [] [] σ (by omega) t2 (fun x hx1 hx2 => by
    obtain ⟨b1, b2, b3, -, -⟩ := d7 x (by omega)
    exact ⟨b1, b2, b3⟩) (by rw [show st l + (st (l + 1) - st l) = st (l + 1) by omega]; exact a3) (by omega) hF trivial trivial
  obtain ⟨τ, k1, k2⟩ := key
  refine ⟨τ, ?_, k2⟩
  have k1' : J_X6_isTrue_18 n 30 (nN l) 0 (nN (st l)) σ = some (bI (trL st op ar F l), τ) := k1
  unfold f_X6_isTrue
  by_cases c : l = 0
  · subst c
    have z : (nN 0 = (0 : Int32)) = True := by decide
    simp only [z, if_true]
    rw [d5] at k1'
    exact k1'
  · have z : (nN l = (0 : Int32)) = False := by rw [l0]; exact nN_eqf c (by omega) (by omega)
    have e : nN l - 1 = nN (l - 1) := by rw [l1, nN_sub (by omega)]
    obtain ⟨-, -, b3, -⟩ := d6 (l - 1) (by omega)
    have b3' : σ (30 + 3) (l - 1) = nN (st l) := by
      have : l - 1 + 1 = l := by omega
      rw [this] at b3
      exact b3
    simp (disch := omega) only [z, if_false, e, inb_nN, ix_nN, it_t, if_true, b3']
    exact k1'
theorem e_holdsLine {σ : MS} {n L l one other : Nat} {sip many : Int32} {st op ar : Nat → Nat} {G : Nat → Nat → Int32} (hn : 6000 ≤ n) (h : LD G (σ 172) L st op ar) (hl : l < L) (hLk : Lk σ one other sip many) (h1 : one < 8) (h2 : other < 8) : ∃ τ, f_X12_holdsLine n (nN l) σ = some (bI (trL st op ar (FV (rv (σ 172)) one other sip many) l), τ) ∧ (∀ o, o ≠ 179 → τ o = σ o) := by
  obtain ⟨tsf, t1, t2⟩ := LD_ty h hl
  have hmo := LD_mono h (L - (l + 1)) (l + 1) (by omega)
  rw [show l + 1 + (L - (l + 1)) = L by omega] at hmo
  obtain ⟨d1, d2, d3, d4, d5, d6, d7⟩ := h
  obtain ⟨a1, a2, a3, a4, a5, -, -, -⟩ := d6 l hl
  obtain ⟨τ, k1, k2⟩ := m_run (n := n) (σ0 := σ) (op := op) (ar := ar) (V := rv (σ 172)) (l := l) (sip := sip) (many := many) (by omega) t1 h1 h2 (st (l + 1) - st l) n (st l) [] [] σ (by omega) t2 (fun x hx1 hx2 => by
    obtain ⟨b1, b2, b3, b4, b5⟩ := d7 x (by omega)
    exact ⟨b1, b2, b4, b5⟩) (by rw [show st l + (st (l + 1) - st l) = st (l + 1) by omega]; exact a5) (by omega) hLk rfl trivial trivial
  refine ⟨τ, ?_, k2⟩
  have e0 : (475 : Int32) + 4 * nN l = nN (475 + 4 * l) := by rw [l475, l4, nN_mul, nN_add]
  have e2 : nN (475 + 4 * l) + 2 = nN (477 + 4 * l) := by rw [l2, nN_add, show 475 + 4 * l + 2 = 477 + 4 * l by omega]
  simp (disch := omega) only [f_X12_holdsLine, e0, e2, inb_nN, ix_nN, it_t, if_true, a4]
  exact k1
/-- a sum of the law's lines -/
def lawG (w : Nat → Int32) (st op ar : Nat → Nat) (F : Nat → Int32) (kind : Int32) (l : Nat) (a : Int32) : Int32 := if w (475 + 4 * l) = kind ∧ trL st op ar F l = true then a + w (476 + 4 * l) else a
def lawS (w : Nat → Int32) (L : Nat) (st op ar : Nat → Nat) (F : Nat → Int32) (kind : Int32) : Int32 := fR L (lawG w st op ar F kind) 0
theorem e_sum {σ : MS} {n L : Nat} {st op ar : Nat → Nat} {w F : Nat → Int32} (kind : Int32) (hn : 6000 ≤ n) (h : LD (rows σ 30) w L st op ar) (hF : ∀ k, k < 8 → σ 35 k = F k) (hF67 : ∀ k, (k = 6 ∨ k = 7) → F k = 0 ∨ F k = 1) : ∃ τ, f_X6_sum n 30 kind σ = some (lawS w L st op ar F kind, τ) ∧ (∀ o, o ≠ 36 → τ o = σ o) := by
  have h' := h
  obtain ⟨d1, d2, d3, d4, d5, d6, d7⟩ := h'
  have key : ∃ b, f_X6_sum n 30 kind σ = some b ∧ b.1 = lawS w L st op ar F kind ∧ (∀ o, o ≠ 36 → b.2 o = σ o) := by
    unfold f_X6_sum
    refine itr_inv (fun i a => ∃ s, a = (fR i (lawG w st op ar F kind) 0, nN i, s) ∧ ∀ o, o ≠ 36 → s o = σ o) _ L ?_ ?_ n 0 _ (by omega) (by omega) ⟨σ, rfl, fun _ _ => rfl⟩
    · rintro i a hi ⟨s, rfl, hs⟩
      left
      have hs0 : s 30 0 = nN L := by rw [hs 30 (by omega)]; exact d2
      obtain ⟨-, -, -, -, -, ⟨k, k1, k2, k3⟩, ⟨m, m1, m2, m3⟩, -⟩ := d6 i hi
      have e1 : s (30 + 1) i = w (475 + 4 * i) := by rw [hs 31 (by omega), k3]; exact k2
      have h2 : LD (rows s 30) w L st op ar := by
        have er : ∀ k, k < 6 → rows s 30 k = rows σ 30 k := fun k hk => hs (30 + k) (by omega)
        unfold LD at h ⊢
        rw [er 0 (by omega), er 1 (by omega), er 2 (by omega), er 3 (by omega), er 4 (by omega)]
        exact h
      obtain ⟨s', f1, f2⟩ := e_isTrue hn h2 hi (fun k hk => by rw [hs 35 (by omega)]; exact hF k hk) hF67
      have e2 : s' (30 + 2) i = w (476 + 4 * i) := by rw [f2 32 (by omega), hs 32 (by omega), m3]; exact m2
      by_cases c : w (475 + 4 * i) = kind
      · refine ⟨(fR (i + 1) (lawG w st op ar F kind) 0, nN (i + 1), s'), ?_, s', rfl, fun o ho => (f2 o ho).trans (hs o ho)⟩
        simp (disch := omega) only [L_X6_sum_4, J_X6_sum_39, hs0, le_f, if_false, inb_nN, ix_nN, it_t, if_true, e1, c, f1, bnd_s, ite_bI, e2, nN_s]
        rw [fR_s]
        unfold lawG
        cases trL st op ar F i <;> simp [c]
      · refine ⟨(fR (i + 1) (lawG w st op ar F kind) 0, nN (i + 1), s), ?_, s, rfl, hs⟩
        simp (disch := omega) only [L_X6_sum_4, J_X6_sum_39, hs0, le_f, if_false, inb_nN, ix_nN, it_t, if_true, e1, c, nN_s]
        rw [fR_s]
        have : lawG w st op ar F kind i (fR i (lawG w st op ar F kind) 0) = fR i (lawG w st op ar F kind) 0 := if_neg (fun h => c h.1)
        rw [this]
    · rintro a ⟨s, rfl, hs⟩
      have hs0 : s 30 0 = nN L := by rw [hs 30 (by omega)]; exact d2
      simp (disch := omega) only [L_X6_sum_4, J_X6_sum_39, hs0, le_t, if_true, Option.map_some]
      exact ⟨_, rfl, rfl, hs⟩
  obtain ⟨⟨v, τ⟩, k1, k2, k3⟩ := key
  exact ⟨τ, by rw [k1]; simp only at k2; rw [k2], k3⟩
theorem e_sumOf {σ : MS} {n L one other : Nat} {sip many : Int32} {st op ar : Nat → Nat} {G : Nat → Nat → Int32} (kind : Int32) (hn : 6000 ≤ n) (h : LD G (σ 172) L st op ar) (hLk : Lk σ one other sip many) (h1 : one < 8) (h2 : other < 8) : ∃ τ, f_X12_sumOf n kind σ = some (lawS (σ 172) L st op ar (FV (rv (σ 172)) one other sip many) kind, τ) ∧ (∀ o, o ≠ 179 → τ o = σ o) := by
  have h' := h
  obtain ⟨d1, d2, d3, d4, d5, d6, d7⟩ := h'
  have key : ∃ b, f_X12_sumOf n kind σ = some b ∧ b.1 = lawS (σ 172) L st op ar (FV (rv (σ 172)) one other sip many) kind ∧ (∀ o, o ≠ 179 → b.2 o = σ o) := by
    unfold f_X12_sumOf
    refine itr_inv (fun i a => ∃ s, a = (fR i (lawG (σ 172) st op ar (FV (rv (σ 172)) one other sip many) kind) 0, nN i, s) ∧ ∀ o, o ≠ 179 → s o = σ o) _ L ?_ ?_ n 0 _ (by omega) (by omega) ⟨σ, rfl, fun _ _ => rfl⟩
    · rintro i a hi ⟨s, rfl, hs⟩
      left
      have r172 : s 172 = σ 172 := hs 172 (by omega)
      have e0 : (475 : Int32) + 4 * nN i = nN (475 + 4 * i) := by rw [l475, l4, nN_mul, nN_add]
      have e1 : nN (475 + 4 * i) + 1 = nN (476 + 4 * i) := by rw [nN_s, show 475 + 4 * i + 1 = 476 + 4 * i by omega]
      obtain ⟨s', f1, f2⟩ := e_holdsLine (σ := s) (G := G) hn (by rw [r172]; exact h) hi (by unfold Lk; rw [hs 171 (by omega)]; exact hLk) h1 h2
      rw [r172] at f1
      have r172' : s' 172 = σ 172 := (f2 172 (by omega)).trans r172
      by_cases c : σ 172 (475 + 4 * i) = kind
      · refine ⟨(fR (i + 1) (lawG (σ 172) st op ar (FV (rv (σ 172)) one other sip many) kind) 0, nN (i + 1), s'), ?_, s', rfl, fun o ho => (f2 o ho).trans (hs o ho)⟩
        simp (disch := omega) only [L_X12_sumOf_4, J_X12_sumOf_73, J_X12_sumOf_67, r172, d3, d4, le_f, if_false, e0, e1, inb_nN, ix_nN, it_t, if_true, c, f1, bnd_s, ite_bI, r172', nN_s]
        rw [fR_s]
        unfold lawG
        cases trL st op ar (FV (rv (σ 172)) one other sip many) i <;> simp [c]
      · refine ⟨(fR (i + 1) (lawG (σ 172) st op ar (FV (rv (σ 172)) one other sip many) kind) 0, nN (i + 1), s), ?_, s, rfl, hs⟩
        simp (disch := omega) only [L_X12_sumOf_4, J_X12_sumOf_73, J_X12_sumOf_67, r172, d3, d4, le_f, if_false, e0, inb_nN, ix_nN, it_t, if_true, c, nN_s]
        rw [fR_s]
        have : lawG (σ 172) st op ar (FV (rv (σ 172)) one other sip many) kind i (fR i (lawG (σ 172) st op ar (FV (rv (σ 172)) one other sip many) kind) 0) = fR i (lawG (σ 172) st op ar (FV (rv (σ 172)) one other sip many) kind) 0 := if_neg (fun h => c h.1)
        rw [this]
    · rintro a ⟨s, rfl, hs⟩
      have r172 : s 172 = σ 172 := hs 172 (by omega)
      simp (disch := omega) only [L_X12_sumOf_4, J_X12_sumOf_73, J_X12_sumOf_67, r172, d3, d4, le_t, if_true, Option.map_some]
      exact ⟨_, rfl, rfl, hs⟩
  obtain ⟨⟨v, τ⟩, k1, k2, k3⟩ := key
  exact ⟨τ, by rw [k1]; simp only at k2; rw [k2], k3⟩
