/-! layer 2: steady, the reference's side -/
def R180 (s : MS) (r : Row) : Prop := ∀ i, i < 9 → s 180 i = cv (r i)
theorem R_mu {s : MS} {r : Row} {p x : Nat} {v : Int32} (h : R180 s r) (hv : v = cv x) : R180 (mu s 180 p v) (ud r p x) := by
  intro i hi
  unfold ud
  rw [mu_own]
  by_cases c : i = p
  · rw [if_pos c, if_pos c, hv]
  · rw [if_neg c, if_neg c]
    exact h i hi
theorem nN_dec {v : Nat} (h : 0 < v) : nN v + -1 = nN (v - 1) := by
  obtain ⟨u, rfl⟩ : ∃ u, v = u + 1 := ⟨v - 1, by omega⟩
  have e : (1 : Int32) + -1 = 0 := by decide
  rw [← nN_s, Int32.add_assoc, e, Int32.add_zero]
  rfl
theorem nN_z {v : Nat} (h : v < 2147483648) : (nN v ≤ 0) = (v = 0) := by
  rw [l0, nN_le h (by omega)]
  exact propext ⟨fun h => by omega, fun h => by omega⟩
theorem m_ways {n m : Nat} {s : MS} (hn : 6000 ≤ n) (hm : m ≤ 4) : f_X12_waysOf n (nN (2 * m)) s = some (nN (wy m)) := by
  obtain ⟨k, rfl⟩ : ∃ k, n = k + 5 := ⟨n - 5, by omega⟩
  have h : m = 0 ∨ m = 1 ∨ m = 2 ∨ m = 3 ∨ m = 4 := by omega
  unfold f_X12_waysOf
  rcases h with h | h | h | h | h <;> subst h
  · exact itr_en rfl
  · exact itr_en rfl
  · rw [itr_st (a' := (3, 1)) rfl]
    exact itr_en rfl
  · rw [itr_st (a' := (5, 3)) rfl, itr_st (a' := (15, 1)) rfl]
    exact itr_en rfl
  · rw [itr_st (a' := (7, 5)) rfl, itr_st (a' := (35, 3)) rfl, itr_st (a' := (105, 1)) rfl]
    exact itr_en rfl
theorem m_fo {n : Nat} {s : MS} {r : Row} (hr : ∀ i, i < 9 → r i ≤ 9) (hR : R180 s r) : ∀ f nn v i a, fo f r v i = some a → f ≤ nn → v < 2147483648 → itr (L_X12_freeOne_38 n s) nn (nN v, nN i) = some (nN a) := by
  intro f
  induction f with
  | zero => intro nn v i a h; cases h
  | succ f ih =>
    intro nn v i a h hf hv
    obtain ⟨k, rfl⟩ : ∃ k, nn = k + 1 := ⟨nn - 1, by omega⟩
    have h' : (if i < 9 then (if r i = 9 then (if v = 0 then some i else fo f r (v - 1) (i + 1)) else fo f r v (i + 1)) else none) = some a := h
    by_cases c : i < 9
    · rw [if_pos c] at h'
      have hri := hR i c
      have h9 := cv_9 (hr i c)
      have hz := nN_z hv
      by_cases c2 : r i = 9
      · have hri9 : s 180 i = -1 := by rw [hri, c2]; rfl
        rw [if_pos c2] at h'
        by_cases c3 : v = 0
        · rw [if_pos c3] at h'
          have := Option.some.inj h'
          subst this
          refine itr_en ?_
          simp (disch := omega) only [L_X12_freeOne_38, inb_nN, ix_nN, it_t, if_true, hri9, hz, c3, Option.map_some]
          rfl
        · rw [if_neg c3] at h'
          have e : nN v - 1 = nN (v - 1) := by rw [l1, nN_sub (by omega)]
          rw [itr_st (a' := (nN (v - 1), nN (i + 1)))]
          · exact ih k (v - 1) (i + 1) a h' (by omega) (by omega)
          · simp (disch := omega) only [L_X12_freeOne_38, J_X12_freeOne_53, J_X12_freeOne_70, inb_nN, ix_nN, it_t, if_true, hri9, hz, c3, if_false, e, nN_s]
      · rw [if_neg c2] at h'
        rw [itr_st (a' := (nN v, nN (i + 1)))]
        · exact ih k v (i + 1) a h' (by omega) hv
        · simp (disch := omega) only [L_X12_freeOne_38, J_X12_freeOne_53, J_X12_freeOne_70, inb_nN, ix_nN, it_t, if_true, hri, h9, c2, if_false, Int32.sub_zero, nN_s]
    · rw [if_neg c] at h'
      cases h'
theorem m_fr1 {n N T v a : Nat} {s : MS} {r : Row} (hn : 6000 ≤ n) (g : GW s N) (hT : T ≤ 9) (hr : ∀ i, i < 9 → r i ≤ 9) (hR : R180 s r) (hv : v < 2147483648) (h : fr1 N T r v = some a) : f_X12_freeOne n (nN v) (nN T) s = some (nN a) := by
  have h8 := g.le8
  have hN := e_X12_people g
  unfold fr1 at h
  have fin : ∀ v, v < 2147483648 → ∀ a, fo 12 r v 0 = some a → J_X12_freeOne_35 n (nN v) s = some (nN a) := fun v hv a h => m_fo hr hR 12 n v 0 a h (by omega) hv
  simp (disch := omega) only [f_X12_freeOne, hN, bnd_s, nN_le]
  by_cases c : T ≤ N
  · rw [if_pos c] at h ⊢
    exact fin v hv a h
  · rw [if_neg c] at h ⊢
    have hrN := hR N (by omega)
    have h9 := cv_9 (hr N (by omega))
    simp (disch := omega) only [inb_nN, ix_nN, it_t, if_true, hrN, h9]
    by_cases c2 : r N = 9
    · rw [if_pos c2] at h ⊢
      have hz : (nN v = 0) = (v = 0) := by rw [l0, nN_eq hv (by omega)]
      simp only [hz]
      by_cases c3 : v = 0
      · rw [if_pos c3] at h ⊢
        have := Option.some.inj h
        subst this
        rfl
      · rw [if_neg c3] at h ⊢
        rw [nN_dec (by omega)]
        exact fin (v - 1) (by omega) a h
    · rw [if_neg c2] at h ⊢
      exact fin v hv a h
theorem m_ff {n : Nat} {s : MS} {r : Row} {v2 v3 v4 : Int32} {X : (Int32 × Int32 × MS) ⊕ (Int32 × MS)} (hr : ∀ i, i < 9 → r i ≤ 9) (hR : R180 s r) {a : Nat} (hX : L_X12_laysWay_34 n v2 v3 v4 s (nN a) = some (.inr X)) : ∀ f nn i, ff f r i = some a → f ≤ nn → itr (L_X12_laysWay_34 n v2 v3 v4 s) nn (nN i) = some X := by
  intro f
  induction f with
  | zero => intro nn i h; cases h
  | succ f ih =>
    intro nn i h hf
    obtain ⟨k, rfl⟩ : ∃ k, nn = k + 1 := ⟨nn - 1, by omega⟩
    have h' : (if i < 9 then (if r i = 9 then some i else ff f r (i + 1)) else none) = some a := h
    by_cases c : i < 9
    · rw [if_pos c] at h'
      have hri := hR i c
      have h9 := cv_9 (hr i c)
      by_cases c2 : r i = 9
      · rw [if_pos c2] at h'
        have := Option.some.inj h'
        subst this
        exact itr_en hX
      · rw [if_neg c2] at h'
        rw [itr_st (a' := nN (i + 1))]
        · exact ih k (i + 1) h' (by omega)
        · simp (disch := omega) only [L_X12_laysWay_34, inb_nN, ix_nN, it_t, if_true, hri, h9, c2, if_false, nN_s]
    · rw [if_neg c] at h'
      cases h'
theorem ff_is {r : Row} : ∀ f i a, ff f r i = some a → a < 9 ∧ r a = 9 := by
  intro f
  induction f with
  | zero => intro i a h; cases h
  | succ f ih =>
    intro i a h
    have h' : (if i < 9 then (if r i = 9 then some i else ff f r (i + 1)) else none) = some a := h
    by_cases c : i < 9
    · rw [if_pos c] at h'
      by_cases c2 : r i = 9
      · rw [if_pos c2] at h'
        have := Option.some.inj h'
        subst this
        exact ⟨c, c2⟩
      · rw [if_neg c2] at h'
        exact ih (i + 1) a h'
    · rw [if_neg c] at h'
      cases h'
theorem wy_pos (m : Nat) : 1 ≤ wy m := by
  unfold wy
  repeat (first | split | omega)
theorem m_lw {τ σx : MS} {n N T : Nat} (hn : 6000 ≤ n) (g : GW τ N) (hT : T ≤ 9) : ∀ f nn m v (r r' : Row) (s : MS), lw N T f m v r = some r' → f ≤ nn → m ≤ 4 → v < 2147483648 → (∀ i, i < 9 → r i ≤ 9) → R180 s r → (∀ o, o ≠ 180 → s o = τ o) → ∃ t, itr (L_X12_laysWay_26 n (nN T) σx) nn (nN v, nN (2 * m), s) = some (0, t) ∧ R180 t r' ∧ (∀ o, o ≠ 180 → t o = τ o) ∧ ∀ i, i < 9 → r' i ≤ 9 := by
  intro f
  induction f with
  | zero => intro nn m v r r' s h; cases h
  | succ f ih =>
    intro nn m v r r' s h hf hm hv hr hR hs
    obtain ⟨k, rfl⟩ : ∃ k, nn = k + 1 := ⟨nn - 1, by omega⟩
    cases m with
    | zero =>
      have := Option.some.inj (show some r = some r' from h)
      subst this
      refine ⟨s, itr_en ?_, hR, hs, hr⟩
      have e : nN (2 * 0) ≤ 0 := by decide
      simp only [L_X12_laysWay_26, e, if_true, Option.map_some]
    | succ m =>
      have h' : (ff 12 r 0).bind (fun a => (fr1 N T (ud r a a) (v / wy m)).bind (fun b => if b < 9 then lw N T f m (v % wy m) (ud (ud (ud r a a) a b) b a) else none)) = some r' := h
      cases ha : ff 12 r 0 with
      | none => rw [ha] at h'; cases h'
      | some a =>
        rw [ha] at h'
        obtain ⟨a9, ra⟩ := ff_is 12 0 a ha
        have h1 : (fr1 N T (ud r a a) (v / wy m)).bind (fun b => if b < 9 then lw N T f m (v % wy m) (ud (ud (ud r a a) a b) b a) else none) = some r' := h'
        cases hb : fr1 N T (ud r a a) (v / wy m) with
        | none => rw [hb] at h1; cases h1
        | some b =>
          rw [hb] at h1
          have h2 : (if b < 9 then lw N T f m (v % wy m) (ud (ud (ud r a a) a b) b a) else none) = some r' := h1
          by_cases b9 : b < 9
          · rw [if_pos b9] at h2
            have w1 := wy_pos m
            have w2 := wy_le m
            have ra' : s 180 a = -1 := by rw [hR a a9, ra]; rfl
            have R1 := R_mu (p := a) (x := a) (v := nN a) hR (by rw [cv_n (by omega)])
            have hr1 : ∀ i, i < 9 → ud r a a i ≤ 9 := by
              intro i hi
              unfold ud
              split
              · omega
              · exact hr i hi
            have g1 : GW (mu s 180 a (nN a)) N := GW_same g (by rw [mu_row (by omega)]; exact hs 172 (by omega))
            have hdiv : v / wy m ≤ v := Nat.div_le_self _ _
            have hmod : v % wy m < wy m := Nat.mod_lt _ (by omega)
            have q1 := m_ways (s := s) hn (show m ≤ 4 by omega)
            have q2 := m_fr1 hn g1 hT hr1 R1 (show v / wy m < 2147483648 by omega) hb
            have e1 : nN (2 * (m + 1)) - 2 = nN (2 * m) := by rw [l2, nN_sub (by omega)]; rfl
            have e2 : nN (2 * (m + 1)) + -2 = nN (2 * m) := by
              have H : ∀ m, m < 5 → nN (2 * (m + 1)) + -2 = nN (2 * m) := by decide
              exact H m (by omega)
            have e3 : (nN (wy m) = 0) = False := by rw [l0]; exact nN_eqf (by omega) (by omega) (by omega)
            have e4 := nN_div (a := v) (c := wy m) hv (by omega)
            have e5 := remI_nN (a := v) (c := wy m) hv (by omega)
            have R2 := R_mu (p := a) (x := b) (v := nN b) R1 (by rw [cv_n (by omega)])
            have R3 := R_mu (p := b) (x := a) (v := nN a) R2 (by rw [cv_n (by omega)])
            obtain ⟨t, k1, k2, k3, k4⟩ := ih k m (v % wy m) _ r' _ h2 (by omega) (by omega) (by omega) (by
              intro i hi
              unfold ud
              split
              · omega
              · split
                · omega
                · exact hr i hi) R3 (fun o ho => by rw [mu_row ho, mu_row ho, mu_row ho]; exact hs o ho)
            refine ⟨t, ?_, k2, k3, k4⟩
            have hX : L_X12_laysWay_34 n (nN T) (nN v) (nN (2 * (m + 1))) s (nN a) = some (.inr (.inl (nN (v % wy m), nN (2 * m), mu (mu (mu s 180 a (nN a)) 180 a (nN b)) 180 b (nN a)))) := by
              simp (disch := omega) only [L_X12_laysWay_34, inb_nN, ix_nN, it_t, if_true, ra', e1, q1, bnd_s, ltM_s, e3, if_false, e4, q2, e5, e2, Option.map_some]
            have hl := m_ff hr hR hX 12 n 0 ha (by omega)
            rw [itr_st (a' := (nN (v % wy m), nN (2 * m), mu (mu (mu s 180 a (nN a)) 180 a (nN b)) 180 b (nN a)))]
            · exact k1
            · have e0 : (nN (2 * (m + 1)) ≤ 0) = False := by rw [nN_z (by omega)]; exact eq_false (by omega)
              simp only [L_X12_laysWay_26, e0, if_false]
              exact hl
          · rw [if_neg b9] at h2
            cases h2
theorem m_lays {σ s : MS} {n N k : Nat} {r : Row} (hn : 6000 ≤ n) (g : GW s N) (hk : k < 2147483648) (h : layR N k = some r) : ∃ t, f_X12_laysWay n (nN k) (nN (N + N % 2)) s = some (0, t) ∧ R180 t r ∧ (∀ o, o ≠ 180 → t o = s o) ∧ ∀ i, i < 9 → r i ≤ 9 := by
  have h8 := g.le8
  have key : ∃ c, itr (L_X12_laysWay_2 n (nN k) (nN (N + N % 2)) s) n (0, s) = some c ∧ ∃ t, c = (0, t) ∧ R180 t r ∧ (∀ o, o ≠ 180 → t o = s o) ∧ ∀ i, i < 9 → r i ≤ 9 := by
    refine itr_inv (fun i st => ∃ s', st = (nN i, s') ∧ (∀ o, o ≠ 180 → s' o = s o) ∧ ∀ x, x < i → s' 180 x = -1) _ 9 ?_ ?_ n 0 _ (by omega) (by omega) ⟨s, rfl, fun _ _ => rfl, fun x hx => by omega⟩
    · rintro i st hi ⟨s', rfl, h1, h2⟩
      left
      refine ⟨_, ?_, mu s' 180 i (-1), rfl, fun o o1 => by rw [mu_row o1]; exact h1 o o1, fun x hx => ?_⟩
      · simp (disch := omega) only [L_X12_laysWay_2, l8, lt_f, if_false, inb_nN, ix_nN, it_t, if_true, ltM_s, nN_s]
      · by_cases c : x = i
        · rw [c, mu_own, if_pos rfl]
        · rw [mu_at, if_neg (by omega)]
          exact h2 x (by omega)
    · rintro st ⟨s', rfl, h1, h2⟩
      obtain ⟨t, k1, k2, k3, k4⟩ := m_lw (σx := s) (T := N + N % 2) hn g (by omega) 6 n ((N + N % 2) / 2) k (fun _ => 9) r s' h (by omega) (by omega) hk (fun i _ => Nat.le_refl _) (fun i hi => h2 i hi) h1
      rw [show 2 * ((N + N % 2) / 2) = N + N % 2 by omega] at k1
      refine ⟨(0, t), ?_, t, rfl, k2, k3, k4⟩
      simp (disch := omega) only [L_X12_laysWay_2, l8, lt_t, if_true, k1, Option.map_some]
  obtain ⟨c, k1, t, rfl, k2⟩ := key
  exact ⟨t, k1, k2⟩
/-- one way, weighed -/
theorem m_own {s : MS} {N p : Nat} {r : Row} {l : List Nat} (g : GW s N) (hR : R180 s r) (hp : p < N) (hr : r p ≠ p ∧ r p ≤ 8) (hl : l.getD p 0 = cvM N r p) (hlt : l.getD p 0 < N) : f_X12_likesIts (nN p) s = some (own (rv (s 172)) l p) := by
  have h8 := g.le8
  have hN := e_X12_people g
  have hrp : s 180 p = nN (r p) := by rw [hR p (by omega), cv_n (by omega)]
  simp (disch := omega) only [f_X12_likesIts, J_X12_likesIts_28, inb_nN, ix_nN, it_t, if_true, hN, bnd_s, hrp]
  rw [it_eq (by omega) (by omega)]
  unfold own
  rw [hl] at hlt ⊢
  unfold cvM at hlt ⊢
  by_cases c : r p = N
  · rw [if_pos c]
    simp only [c, if_true]
  · rw [if_neg c]
    simp only [c, if_false] at hlt ⊢
    rw [if_neg hr.1, e_X12_likes (by omega) (by omega), bnd_s]
theorem m_isSt {s : MS} {n N : Nat} {r : Row} {l : List Nat} (hn : 6000 ≤ n) (g : GW s N) (hR : R180 s r) (hr : ∀ p, p < N → r p ≠ p ∧ r p ≤ 8) (hl : ∀ p, p < N → l.getD p 0 = cvM N r p) (hlt : ∀ p, p < N → l.getD p 0 < N) : f_X12_isSteady n s = some (bI (stQ (rv (s 172)) N l)) := by
  have h8 := g.le8
  have hN := e_X12_people g
  generalize hV : rv (s 172) = V
  have inner : ∀ p b0, p < N → ∃ b, itr (L_X12_isSteady_14 n (nN p) s) n (bI b0, 0) = some (.inl (bI b, nN (p + 1))) ∧ (b = true ↔ (b0 = true ∧ ∀ q, q < p → ¬ badB V l p q)) := by
    intro p b0 hp
    have o1 := m_own g hR hp (hr p hp) (hl p hp) (hlt p hp)
    rw [hV] at o1
    have hrp : s 180 p = nN (r p) := by rw [hR p (by omega), cv_n (by have := (hr p hp).2; omega)]
    have key : ∃ c, itr (L_X12_isSteady_14 n (nN p) s) n (bI b0, 0) = some c ∧ ∃ b, c = .inl (bI b, nN (p + 1)) ∧ (b = true ↔ (b0 = true ∧ ∀ q, q < p → ¬ badB V l p q)) := by
      refine itr_inv (fun i st => ∃ b, st = (bI b, nN i) ∧ (b = true ↔ (b0 = true ∧ ∀ q, q < i → ¬ badB V l p q))) _ p ?_ ?_ n 0 _ (by omega) (by omega) ⟨b0, rfl, fun h => ⟨h, fun q hq => by omega⟩, fun h => h.1⟩
      · rintro i st hi ⟨b, rfl, hb⟩
        left
        have fin : ∀ d : Bool, (d = true ↔ (b = true ∧ ¬ badB V l p i)) → (d = true ↔ (b0 = true ∧ ∀ q, q < i + 1 → ¬ badB V l p q)) := by
          intro d hd
          rw [hd, hb]
          constructor
          · rintro ⟨⟨h1, h2⟩, h3⟩
            refine ⟨h1, fun q hq => ?_⟩
            by_cases c : q = i
            · rw [c]; exact h3
            · exact h2 q (by omega)
          · rintro ⟨h1, h2⟩
            exact ⟨⟨h1, fun q hq => h2 q (by omega)⟩, h2 i (by omega)⟩
        cases b
        · refine ⟨_, ?_, false, rfl, fin false ⟨(fun h => by cases h), fun h => h.1⟩⟩
          simp (disch := omega) only [L_X12_isSteady_14, J_X12_isSteady_65, J_X12_isSteady_66, le_f, if_false, bI_f, if_true, nN_s]
        · have o2 := m_own g hR (show i < N by omega) (hr i (by omega)) (hl i (by omega)) (hlt i (by omega))
          rw [hV] at o2
          have li1 := e_X12_likes (σ := s) (p := p) (q := i) (by omega) (by omega)
          have li2 := e_X12_likes (σ := s) (p := i) (q := p) (by omega) (by omega)
          rw [hV] at li1 li2
          have hq : (nN (r p) = nN i) = (r p = i) := nN_eq (by have := (hr p hp).2; omega) (by omega)
          simp (disch := omega) only [L_X12_isSteady_14, J_X12_isSteady_61, J_X12_isSteady_65, J_X12_isSteady_66, le_f, if_false, bI_t, one_ne0, inb_nN, ix_nN, it_t, if_true, hrp, hq, li1, li2, o1, o2, bnd_s, nN_s]
          by_cases c1 : r p = i
          · rw [if_pos c1]
            refine ⟨_, rfl, true, rfl, fin true ⟨fun _ => ⟨rfl, fun hbad => ?_⟩, fun _ => rfl⟩⟩
            have e : own V l p = likeV V p i := by
              unfold own
              have e1 : l.getD p 0 = i := by
                rw [hl p hp]
                unfold cvM
                rw [c1, if_neg (by omega)]
              rw [e1, if_neg (by omega)]
            have := (bad_iff.mp hbad).1
            rw [e] at this
            exact absurd this (by rw [Int32.not_lt]; exact Int32.le_refl _)
          · rw [if_neg c1]
            by_cases c2 : likeV V p i ≤ own V l p
            · rw [if_pos c2]
              refine ⟨_, rfl, true, rfl, fin true ⟨fun _ => ⟨rfl, fun hbad => ?_⟩, fun _ => rfl⟩⟩
              exact absurd (bad_iff.mp hbad).1 (by rw [Int32.not_lt]; exact c2)
            · rw [if_neg c2]
              by_cases c3 : own V l i < likeV V i p
              · rw [if_pos c3]
                refine ⟨_, rfl, false, rfl, fin false ⟨(fun h => by cases h), fun h => absurd (bad_iff.mpr ⟨by rw [← Int32.not_le]; exact c2, c3⟩) h.2⟩⟩
              · rw [if_neg c3]
                exact ⟨_, rfl, true, rfl, fin true ⟨fun _ => ⟨rfl, fun hbad => c3 (bad_iff.mp hbad).2⟩, fun _ => rfl⟩⟩
      · rintro st ⟨b, rfl, hb⟩
        refine ⟨.inl (bI b, nN (p + 1)), ?_, b, rfl, hb⟩
        simp (disch := omega) only [L_X12_isSteady_14, le_t, if_true, Option.map_some, nN_s]
    obtain ⟨c, k1, b, rfl, k2⟩ := key
    exact ⟨b, k1, k2⟩
  have key : ∃ c, itr (L_X12_isSteady_4 n s) n (1, 0) = some c ∧ c = bI (stQ V N l) := by
    refine itr_inv (fun i st => ∃ b, st = (bI b, nN i) ∧ (b = true ↔ ∀ p, p < i → ∀ q, q < p → ¬ badB V l p q)) _ N ?_ ?_ n 0 _ (by omega) (by omega) ⟨true, rfl, fun _ p hp => by omega, fun _ => rfl⟩
    · rintro i st hi ⟨b, rfl, hb⟩
      left
      obtain ⟨b2, k1, k2⟩ := inner i b hi
      refine ⟨(bI b2, nN (i + 1)), ?_, b2, rfl, ?_⟩
      · simp (disch := omega) only [L_X12_isSteady_4, hN, bnd_s, le_f, if_false, k1]
      · rw [k2, hb]
        constructor
        · rintro ⟨h1, h2⟩ p hp
          by_cases c : p = i
          · rw [c]; exact h2
          · exact h1 p (by omega)
        · intro h
          exact ⟨fun p hp => h p (by omega), h i (by omega)⟩
    · rintro st ⟨b, rfl, hb⟩
      refine ⟨bI b, ?_, ?_⟩
      · simp (disch := omega) only [L_X12_isSteady_4, hN, bnd_s, le_t, if_true, ok_bI, Option.map_some]
      · congr 1
        have sym : ∀ p q, badB V l p q → badB V l q p := fun p q h => bad_iff.mpr ⟨(bad_iff.mp h).2, (bad_iff.mp h).1⟩
        have e : stQ V N l = true ↔ ∀ p, p < N → ∀ q, q < p → ¬ badB V l p q := by
          unfold stQ
          rw [decide_eq_true_eq]
          constructor
          · intro h p hp q hq hbad
            exact h q (by omega) p hp hq (sym p q hbad)
          · intro h p hp q hq hpq hbad
            exact h q hq p hpq (sym p q hbad)
        cases hs : stQ V N l
        · cases b
          · rfl
          · have := e.mpr (hb.mp rfl)
            rw [hs] at this
            cases this
        · exact hb.mpr (e.mp hs)
  obtain ⟨c, k1, rfl⟩ := key
  unfold f_X12_isSteady
  exact k1
theorem fR_shift {α : Type} (g : Nat → α → α) : ∀ (m : Nat) (a : α), fR (m + 1) g a = fR m (fun k => g (k + 1)) (g 0 a) := by
  intro m
  induction m with
  | zero => intro a; rfl
  | succ m ih =>
    intro a
    show g (m + 1) (fR (m + 1) g a) = _
    rw [ih]
    rfl
theorem fold_fR {α β : Type} (f : α → β → α) (d : β) : ∀ (l : List β) (a : α), l.foldl f a = fR l.length (fun k x => f x (l.getD k d)) a := by
  intro l
  induction l with
  | nil => intro a; rfl
  | cons x l ih =>
    intro a
    rw [List.foldl_cons, ih, List.length_cons, fR_shift]
    rfl
theorem way_k {N k : Nat} (h8 : N ≤ 8) (hk : k < wy ((N + N % 2) / 2)) : ∃ r, layR N k = some r ∧ (∀ p, p < N → ((LC N).getD k []).getD p 0 = cvM N r p) ∧ (∀ p, p < N → r p ≠ p ∧ r p ≤ 8) ∧ (∀ p, p < N → ((LC N).getD k []).getD p 0 < N) := by
  have h := congrArg (fun L => L[k]?) (ways_ok N (by omega))
  have hlen := LC_len N (by omega)
  have hkl : k < (LC N).length := by omega
  simp only [List.getElem?_map, List.getElem?_range hk, List.getElem?_eq_getElem hkl, Option.map_some, Option.some.injEq] at h
  have eg : (LC N).getD k [] = (LC N)[k] := by
    simp [List.getD, List.getElem?_eq_getElem hkl]
  rw [eg]
  generalize hl : (LC N)[k] = l at h
  have hmem : l ∈ LC N := by rw [← hl]; exact List.getElem_mem hkl
  have hall := List.all_eq_true.mp (ways_lt N (by omega)) l hmem
  rw [hall] at h
  cases hr : layR N k with
  | none => rw [hr] at h; cases h
  | some r =>
    rw [hr] at h
    have h' := Option.some.inj (show some (rowL N (cvM N r), okM N r) = some (l, true) from h)
    have e1 : rowL N (cvM N r) = l := congrArg Prod.fst h'
    have e2 : okM N r = true := congrArg Prod.snd h'
    have hgd : ∀ p, p < N → l.getD p 0 = cvM N r p := fun p hp => by rw [← e1, rowL_at hp]
    refine ⟨r, rfl, hgd, fun p hp => ?_, fun p hp => ?_⟩
    · have := List.all_eq_true.mp e2 p (List.mem_range.mpr hp)
      rw [Bool.and_eq_true, decide_eq_true_eq, decide_eq_true_eq] at this
      exact this
    · have hlen2 : l.length = N := by rw [← e1]; simp [rowL]
      have hp' : p < l.length := by omega
      have : l.getD p 0 ∈ l := by
        rw [List.getD, List.getElem?_eq_getElem hp']
        exact List.getElem_mem hp'
      exact of_decide_eq_true (List.all_eq_true.mp hall _ this)
def stZ (V : HV) (N m : Nat) : Nat × List Nat := fR m (fun k x => kp V N x ((LC N).getD k [])) (0, [])
theorem st_le {V : HV} {N : Nat} : ∀ m, (stZ V N m).1 ≤ m := by
  intro m
  induction m with
  | zero => exact Nat.le_refl _
  | succ m ih =>
    show (kp V N (stZ V N m) ((LC N).getD m [])).1 ≤ m + 1
    unfold kp
    split
    · show (stZ V N m).1 + 1 ≤ m + 1
      omega
    · omega
def StM (τ s : MS) (a : Nat × List Nat) (N : Nat) : Prop := (∀ o, o ≠ 180 → o ≠ 181 → s o = τ o) ∧ (0 < a.1 → ∀ i, i < N → s 181 i = nN (a.2.getD i 0))
theorem m_st {τ : MS} {n N : Nat} (hn : 6000 ≤ n) (g : GW τ N) (x : Int32) (hx : x = -1 ∨ ∃ p, p < N ∧ x = nN p) : ∃ t, J_X12_steady_25 n x τ = some ((if x = -1 then nN (stZ (rv (τ 172)) N (wy ((N + N % 2) / 2))).1 else if (stZ (rv (τ 172)) N (wy ((N + N % 2) / 2))).1 = 0 then -1 else nN ((stZ (rv (τ 172)) N (wy ((N + N % 2) / 2))).2.getD (ix x) 0)), t) ∧ ∀ o, o ≠ 180 → o ≠ 181 → t o = τ o := by
  have h8 := g.le8
  have hN := e_X12_people g
  generalize hV : rv (τ 172) = V
  have hT : nN N + remI (nN N) 2 = nN (N + N % 2) := by rw [l2, remI_nN (by omega) (by omega), nN_add]
  have hw := wy_le ((N + N % 2) / 2)
  have ways : ∀ s : MS, f_X12_waysOf n (nN (N + N % 2)) s = some (nN (wy ((N + N % 2) / 2))) := by
    intro s
    have := m_ways (s := s) hn (show (N + N % 2) / 2 ≤ 4 by omega)
    rw [show 2 * ((N + N % 2) / 2) = N + N % 2 by omega] at this
    exact this
  have copy : ∀ (s : MS) (k : Nat) (a : Nat × List Nat) (l : List Nat) (r : Row), a.1 < 2147483647 → StM τ s a N → R180 s r → (∀ i, i < N → l.getD i 0 = cvM N r i ∧ r i ≤ 8) → ∃ t, itr (L_X12_steady_71 n x (nN (N + N % 2)) (nN a.1) (nN k) τ) n (0, s) = some (.inl (nN (a.1 + 1), nN (k + 1), t)) ∧ StM τ t (a.1 + 1, if a.1 = 0 then l else a.2) N := by
    intro s k a l r ha hS hR hl
    have hz : (nN a.1 = 0) = (a.1 = 0) := by rw [l0, nN_eq (by omega) (by omega)]
    have key : ∃ c, itr (L_X12_steady_71 n x (nN (N + N % 2)) (nN a.1) (nN k) τ) n (0, s) = some c ∧ ∃ t, c = .inl (nN (a.1 + 1), nN (k + 1), t) ∧ StM τ t (a.1 + 1, if a.1 = 0 then l else a.2) N := by
      by_cases c : a.1 = 0
      · rw [c]
        refine itr_inv (fun i st => ∃ s', st = (nN i, s') ∧ (∀ o, o ≠ 181 → s' o = s o) ∧ ∀ y, y < i → s' 181 y = nN (l.getD y 0)) _ N ?_ ?_ n 0 _ (by omega) (by omega) ⟨s, rfl, fun _ _ => rfl, fun y hy => by omega⟩
        · rintro i st hi ⟨s', rfl, h1, h2⟩
          left
          have hN' := e_X12_people (GW_same g (show s' 172 = τ 172 by rw [h1 172 (by omega)]; exact hS.1 172 (by omega) (by omega)))
          have hri : s' 180 i = nN (r i) := by rw [h1 180 (by omega), hR i (by omega), cv_n (by have := (hl i hi).2; omega)]
          have hq : (nN (r i) = nN N) = (r i = N) := nN_eq (by have := (hl i hi).2; omega) (by omega)
          refine ⟨_, ?_, mu s' 181 i (nN (l.getD i 0)), rfl, fun o o1 => by rw [mu_row o1]; exact h1 o o1, fun y hy => ?_⟩
          · have hz0 : nN 0 = 0 := rfl
            rw [(hl i hi).1]
            unfold cvM
            simp (disch := omega) only [L_X12_steady_71, J_X12_steady_116, hN', bnd_s, le_f, if_false, hz0, if_true, inb_nN, ix_nN, it_t, hri, hq, ltM_s, nN_s]
            by_cases d : r i = N
            · rw [if_pos d, if_pos d]
            · rw [if_neg d, if_neg d]
          · by_cases d : y = i
            · rw [d, mu_own, if_pos rfl]
            · rw [mu_at, if_neg (by omega)]
              exact h2 y (by omega)
        · rintro st ⟨s', rfl, h1, h2⟩
          have hN' := e_X12_people (GW_same g (show s' 172 = τ 172 by rw [h1 172 (by omega)]; exact hS.1 172 (by omega) (by omega)))
          refine ⟨.inl (nN (0 + 1), nN (k + 1), s'), ?_, s', rfl, fun o o1 o2 => by rw [h1 o o2]; exact hS.1 o o1 o2, fun _ i hi => ?_⟩
          · simp (disch := omega) only [L_X12_steady_71, J_X12_steady_123, J_X12_steady_126, hN', bnd_s, le_t, if_true, Option.map_some, nN_s]
          · exact h2 i hi
      · obtain ⟨m, rfl⟩ : ∃ m, n = m + 1 := ⟨n - 1, by omega⟩
        have hN' := e_X12_people (GW_same g (hS.1 172 (by omega) (by omega)))
        refine ⟨.inl (nN (a.1 + 1), nN (k + 1), s), itr_en ?_, s, rfl, hS.1, fun _ i hi => ?_⟩
        · simp only [L_X12_steady_71, J_X12_steady_123, J_X12_steady_126, hN', bnd_s, hz, c, if_false, nN_s, Option.map_some, ite_self]
        · show s 181 i = nN ((if a.1 = 0 then l else a.2).getD i 0)
          rw [if_neg c]
          exact hS.2 (by omega) i hi
    obtain ⟨c, k1, t, rfl, k2⟩ := key
    exact ⟨t, k1, k2⟩
  have key : ∃ c, itr (L_X12_steady_42 n x (nN (N + N % 2)) τ) n (0, 0, τ) = some c ∧ ∃ t, c = ((if x = -1 then nN (stZ V N (wy ((N + N % 2) / 2))).1 else if (stZ V N (wy ((N + N % 2) / 2))).1 = 0 then -1 else nN ((stZ V N (wy ((N + N % 2) / 2))).2.getD (ix x) 0)), t) ∧ ∀ o, o ≠ 180 → o ≠ 181 → t o = τ o := by
    refine itr_inv (fun k st => ∃ s', st = (nN (stZ V N k).1, nN k, s') ∧ StM τ s' (stZ V N k) N) _ (wy ((N + N % 2) / 2)) ?_ ?_ n 0 _ (by omega) (by omega) ⟨τ, rfl, fun _ _ _ => rfl, fun h => by cases h⟩
    · rintro k st hk ⟨s', rfl, hS⟩
      left
      obtain ⟨r, r1, r2, r3, r4⟩ := way_k h8 hk
      have e172 : s' 172 = τ 172 := hS.1 172 (by omega) (by omega)
      obtain ⟨t, k1, k2, k3, k4⟩ := m_lays (σ := τ) hn (GW_same g e172) (show k < 2147483648 by omega) r1
      have t172 : t 172 = τ 172 := (k3 172 (by omega)).trans e172
      have q := m_isSt (l := (LC N).getD k []) hn (GW_same g t172) k2 r3 r2 r4
      rw [t172, hV] at q
      have hSt : StM τ t (stZ V N k) N := ⟨fun o o1 o2 => by rw [k3 o o1]; exact hS.1 o o1 o2, fun h i hi => by rw [k3 181 (by omega)]; exact hS.2 h i hi⟩
      have hle := st_le (V := V) (N := N) k
      have e : stZ V N (k + 1) = kp V N (stZ V N k) ((LC N).getD k []) := rfl
      rw [e]
      unfold kp
      cases hs : stQ V N ((LC N).getD k [])
      · rw [hs] at q
        refine ⟨(nN (stZ V N k).1, nN (k + 1), t), ?_, t, ?_, ?_⟩
        · simp (disch := omega) only [L_X12_steady_42, J_X12_steady_126, ways, bnd_s, le_f, if_false, k1, q, bI_f, if_true, nN_s]
        · simp only [Bool.false_eq_true, if_false]
        · simp only [Bool.false_eq_true, if_false]
          exact hSt
      · rw [hs] at q
        obtain ⟨t2, c1, c2⟩ := copy t k (stZ V N k) ((LC N).getD k []) r (by omega) hSt k2 (fun i hi => ⟨r2 i hi, (r3 i hi).2⟩)
        refine ⟨(nN ((stZ V N k).1 + 1), nN (k + 1), t2), ?_, t2, ?_, ?_⟩
        · simp (disch := omega) only [L_X12_steady_42, ways, bnd_s, le_f, if_false, k1, q, bI_t, one_ne0, c1]
        · simp only [if_true]
        · simp only [if_true]
          exact c2
    · rintro st ⟨s', rfl, hS⟩
      have hle := st_le (V := V) (N := N) (wy ((N + N % 2) / 2))
      have hz : (nN (stZ V N (wy ((N + N % 2) / 2))).1 = 0) = ((stZ V N (wy ((N + N % 2) / 2))).1 = 0) := by rw [l0, nN_eq (by omega) (by omega)]
      refine ⟨_, ?_, s', rfl, hS.1⟩
      simp (disch := omega) only [L_X12_steady_42, J_X12_steady_155, ways, bnd_s, le_t, if_true, hz]
      by_cases c : x = -1
      · simp only [c, if_true, Option.map_some]
      · simp only [c, if_false]
        by_cases d : (stZ V N (wy ((N + N % 2) / 2))).1 = 0
        · simp only [d, if_true, Option.map_some]
        · obtain ⟨p, hp, rfl⟩ : ∃ p, p < N ∧ x = nN p := by
            rcases hx with h | h
            · exact absurd h c
            · exact h
          have := hS.2 (by omega) p hp
          simp (disch := omega) only [d, if_false, inb_nN, ix_nN, it_t, if_true, this, Option.map_some]
  obtain ⟨c, k1, t, rfl, k2⟩ := key
  refine ⟨t, ?_, k2⟩
  simp only [J_X12_steady_25, hN, bnd_s, hT, k1]
theorem fold_st {V : HV} {N : Nat} (h8 : N ≤ 8) : (LC N).foldl (kp V N) (0, []) = stZ V N (wy ((N + N % 2) / 2)) := by
  rw [fold_fR (kp V N) [], LC_len N (by omega)]
  rfl
theorem s_24 {j n : Nat} {σ : MS} {x1 x2 x3 x4 x5 : Int32} (hn : 6000 ≤ n) (hI : Inv j σ) : ∃ τ, step_24 n x1 x2 x3 x4 x5 σ = some τ ∧ Inv (j + 1) τ := by
  obtain ⟨N, e, gh, gw⟩ := Inv_v hI
  have h8 := gw.le8
  show ∃ τ, ((f_L_steady n x1 σ).bind (fun q => ((fun t => f_X12_steady n x1 t) q.2).bind (fun m => cmpL q.1 m))) = some τ ∧ Inv (j + 1) τ
  have good : (x1 = -1 ∨ ∃ p, p < N ∧ x1 = nN p) → (x1 = -1 ∨ isP N x1 = true) → ∃ τ, ((f_L_steady n x1 σ).bind (fun q => ((fun t => f_X12_steady n x1 t) q.2).bind (fun m => cmpL q.1 m))) = some τ ∧ Inv (j + 1) τ := by
    intro hx hx'
    obtain ⟨t, k1, k2, k3, k4, -⟩ := c_settle hn gh
    rw [fold_st h8] at k3 k4
    have hle := st_le (V := hv σ 3) (N := N) (wy ((N + N % 2) / 2))
    have hw := wy_le ((N + N % 2) / 2)
    generalize hv0 : (if x1 = -1 then nN (stZ (hv σ 3) N (wy ((N + N % 2) / 2))).1 else if (stZ (hv σ 3) N (wy ((N + N % 2) / 2))).1 = 0 then -1 else nN ((stZ (hv σ 3) N (wy ((N + N % 2) / 2))).2.getD (ix x1) 0)) = v
    have hA : f_L_steady n x1 σ = some (0, mu t 183 0 v) := by
      have hJ : J_X11_steady_10 n x1 σ = some (.inl v, t) := by
        have hz : (nN (stZ (hv σ 3) N (wy ((N + N % 2) / 2))).1 = 0) = ((stZ (hv σ 3) N (wy ((N + N % 2) / 2))).1 = 0) := by rw [l0, nN_eq (by omega) (by omega)]
        simp only [J_X11_steady_10, J_X11_steady_53, k1, bnd_s, k3, hz]
        rw [← hv0]
        by_cases c : x1 = -1
        · simp only [c, if_true]
        · simp only [c, if_false]
          by_cases d : (stZ (hv σ 3) N (wy ((N + N % 2) / 2))).1 = 0
          · simp only [d, if_true]
          · obtain ⟨p, hp, rfl⟩ : ∃ p, p < N ∧ x1 = nN p := by
              rcases hx with h | h
              · exact absurd h c
              · exact h
            have := k4 (by omega) p hp
            simp (disch := omega) only [d, if_false, inb_nN, ix_nN, it_t, if_true, this]
      simp only [f_L_steady, f_X11_steady, e_needPerson gh]
      by_cases c : x1 = -1
      · rw [if_pos c, hJ, thn_l]
        rfl
      · rw [if_neg c]
        have hp : isP N x1 = true := by
          rcases hx' with h | h
          · exact absurd h c
          · exact h
        rw [if_pos hp, thn_l, hJ, thn_l]
        rfl
    generalize hτ : mu (mu t 183 0 v) 171 0 0 = τ
    have r : ∀ o, o ≠ 56 → o ≠ 57 → o ≠ 58 → o ≠ 183 → o ≠ 171 → τ o = σ o := fun o o1 o2 o3 o4 o5 => by rw [← hτ, mu_row o5, mu_row o4]; exact k2 o o1 o2 o3
    have r172 : τ 172 = σ 172 := r 172 (by omega) (by omega) (by omega) (by omega) (by omega)
    have gτ : GW τ N := GW_same gw r172
    obtain ⟨u, m1, m2⟩ := m_st hn gτ x1 hx
    rw [r172, ← e, hv0] at m1
    have hM : (fun t => f_X12_steady n x1 t) (mu t 183 0 v) = some (v, u) := by
      simp only [f_X12_steady, ltM_s, hτ, e_X12_noPerson gτ, bnd_s]
      by_cases c : x1 = -1
      · rw [if_pos c, m1]
      · rw [if_neg c]
        have hp : isP N x1 = true := by
          rcases hx' with h | h
          · exact absurd h c
          · exact h
        simp only [hp, Bool.not_true, bI_f, thr_0, bnd_s, if_true, m1]
    have u171 : u 171 = τ 171 := m2 171 (by omega) (by omega)
    have t171 : t 171 = σ 171 := k2 171 (by omega) (by omega) (by omega)
    refine s_gen _ _ hA hM (by rw [u171, ← hτ, mu_own]; rfl) (fun _ => by rw [m2 183 (by omega) (by omega), ← hτ, mu_row (by omega), mu_own]; rfl) (Inv_mono (Inv_same hI ⟨fun o ho => ?_, ?_, ?_, ?_, ?_, ?_⟩) (by omega))
    · unfold es at ho
      have := of_decide_eq_true ho
      rw [m2 o (by omega) (by omega)]
      exact r o (by omega) (by omega) (by omega) (by omega) (by omega)
    · rw [m2 1 (by omega) (by omega), r 1 (by omega) (by omega) (by omega) (by omega) (by omega)]
    all_goals rw [u171, ← hτ, mu_at, if_neg (by omega), mu_row (by omega), t171]
  by_cases c : x1 = -1
  · exact good (Or.inl c) (Or.inl c)
  · cases hp : isP N x1
    · have hA : f_L_steady n x1 σ = some (1, σ) := by
        simp only [f_L_steady, f_X11_steady, e_needPerson gh, c, if_false, hp, Bool.false_eq_true, thn_r, if_true]
      have gτ : GW (mu σ 171 0 0) N := GW_same gw (mu_row (by omega))
      have hM : (fun t => f_X12_steady n x1 t) σ = some (0, mu (mu σ 171 0 0) 171 0 1) := by
        simp only [f_X12_steady, ltM_s, e_X12_noPerson gτ, bnd_s, c, if_false, hp, Bool.not_false, bI_t, thr_1, bnd_s, one_ne0]
      obtain ⟨q1, q2⟩ := sm_ex σ 1
      exact s_gen _ _ hA hM q2 (fun h => by cases h) (Inv_mono (Inv_same hI q1) (by omega))
    · obtain ⟨p, hp1, hp2⟩ := isP_t hp
      exact good (Or.inr ⟨p, hp1, hp2⟩) (Or.inr hp)
