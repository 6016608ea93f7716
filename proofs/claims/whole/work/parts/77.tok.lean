/-! layer 2: what is read of the tape: the program's tokens -/
def scF (L : Nat) (q : Nat → Bool) : Nat → Nat → Nat
  | 0, p => p
  | f + 1, p => if p < L ∧ q p = true then scF L q f (p + 1) else p
def sc (L : Nat) (q : Nat → Bool) (p : Nat) : Nat := scF L q (L - p) p
theorem sc_t {L p : Nat} {q : Nat → Bool} (h : p < L) (hq : q p = true) : sc L q p = sc L q (p + 1) := by
  unfold sc
  have e : L - p = (L - (p + 1)) + 1 := by omega
  rw [e]
  show (if p < L ∧ q p = true then scF L q (L - (p + 1)) (p + 1) else p) = _
  rw [if_pos ⟨h, hq⟩]
theorem sc_f {L p : Nat} {q : Nat → Bool} (h : ¬ (p < L ∧ q p = true)) : sc L q p = p := by
  unfold sc
  cases L - p with
  | zero => rfl
  | succ f =>
    show (if p < L ∧ q p = true then _ else p) = p
    rw [if_neg h]
theorem sc_is {L : Nat} {q : Nat → Bool} : ∀ k p, L - p ≤ k → p ≤ sc L q p ∧ (p ≤ L → sc L q p ≤ L) ∧ ¬ (sc L q p < L ∧ q (sc L q p) = true) ∧ ∀ i, p ≤ i → i < sc L q p → i < L ∧ q i = true := by
  intro k
  induction k with
  | zero =>
    intro p h
    have e : sc L q p = p := sc_f (by omega)
    rw [e]
    exact ⟨Nat.le_refl _, fun h => h, by omega, fun i h1 h2 => by omega⟩
  | succ k ih =>
    intro p h
    by_cases c : p < L ∧ q p = true
    · rw [sc_t c.1 c.2]
      obtain ⟨h1, h2, h3, h4⟩ := ih (p + 1) (by omega)
      refine ⟨by omega, fun _ => h2 (by omega), h3, fun i i1 i2 => ?_⟩
      by_cases d : i = p
      · rw [d]; exact c
      · exact h4 i (by omega) i2
    · rw [sc_f c]
      exact ⟨Nat.le_refl _, fun h => h, c, fun i h1 h2 => by omega⟩
theorem sc_congr {L : Nat} {q q' : Nat → Bool} : ∀ k p, L - p ≤ k → (∀ i, p ≤ i → i < L → q i = q' i) → sc L q p = sc L q' p := by
  intro k
  induction k with
  | zero => intro p h _; rw [sc_f (by omega), sc_f (by omega)]
  | succ k ih =>
    intro p h hq
    by_cases c : p < L ∧ q p = true
    · have c' : q' p = true := by rw [← hq p (Nat.le_refl _) c.1]; exact c.2
      rw [sc_t c.1 c.2, sc_t c.1 c']
      exact ih (p + 1) (by omega) (fun i i1 i2 => hq i (by omega) i2)
    · have c' : ¬ (p < L ∧ q' p = true) := fun h => c ⟨h.1, by rw [hq p (Nat.le_refl _) h.1]; exact h.2⟩
      rw [sc_f c, sc_f c']
theorem itr_scan {α β : Type} {f : α → Option (α ⊕ β)} {L : Nat} {q : Nat → Bool} (st : Nat → α) {r : β} : ∀ k n p, L - p ≤ k → L - p < n → (∀ i, p ≤ i → i < L → q i = true → f (st i) = some (.inl (st (i + 1)))) → f (st (sc L q p)) = some (.inr r) → itr f n (st p) = some r := by
  intro k
  induction k with
  | zero =>
    intro n p h hn h1 h2
    obtain ⟨m, rfl⟩ : ∃ m, n = m + 1 := ⟨n - 1, by omega⟩
    rw [sc_f (by omega)] at h2
    exact itr_en h2
  | succ k ih =>
    intro n p h hn h1 h2
    obtain ⟨m, rfl⟩ : ∃ m, n = m + 1 := ⟨n - 1, by omega⟩
    by_cases c : p < L ∧ q p = true
    · rw [sc_t c.1 c.2] at h2
      rw [itr_st (h1 p (Nat.le_refl _) c.1 c.2)]
      exact ih m (p + 1) (by omega) (by omega) (fun i i1 i2 => h1 i (by omega) i2) h2
    · rw [sc_f c] at h2
      exact itr_en h2
def kdt (T : Nat → Nat) (L a : Nat) : Nat := if a < L then (if 97 ≤ T a ∧ T a ≤ 122 then 1 else if 48 ≤ T a ∧ T a ≤ 57 then 2 else 3) else 0
def skp (T : Nat → Nat) (L p : Nat) : Nat := sc L (fun i => decide (T i = 32)) p
def fnt (T : Nat → Nat) (L a : Nat) : Nat := if a < L then (if kdt T L a = 3 then a + 1 else sc L (fun i => decide (kdt T L i = kdt T L a)) (a + 1)) else a
def nx (T : Nat → Nat) (L a : Nat) : Nat := skp T L (fnt T L a)
section
variable {T : Nat → Nat} {L : Nat}
theorem skp_is (p : Nat) : p ≤ skp T L p ∧ (p ≤ L → skp T L p ≤ L) ∧ skp T L (skp T L p) = skp T L p := by
  obtain ⟨h1, h2, h3, -⟩ := sc_is (L := L) (q := fun i => decide (T i = 32)) (L - p) p (Nat.le_refl _)
  exact ⟨h1, h2, sc_f h3⟩
theorem kdt_le (a : Nat) : kdt T L a ≤ 3 := by
  unfold kdt
  repeat (first | split | omega)
theorem kdt_0 {a : Nat} : kdt T L a = 0 ↔ L ≤ a := by
  unfold kdt
  repeat (first | split | omega)
theorem fnt_is {a : Nat} : (a < L → a < fnt T L a ∧ fnt T L a ≤ L) ∧ (L ≤ a → fnt T L a = a) := by
  constructor
  · intro h
    unfold fnt
    rw [if_pos h]
    split
    · omega
    · obtain ⟨h1, h2, -, -⟩ := sc_is (L := L) (q := fun i => decide (kdt T L i = kdt T L a)) (L - (a + 1)) (a + 1) (Nat.le_refl _)
      have := h2 (by omega)
      omega
  · intro h
    unfold fnt
    rw [if_neg (by omega)]
theorem fnt_le {a : Nat} (h : a ≤ L) : fnt T L a ≤ L := by
  by_cases c : a < L
  · exact (fnt_is.1 c).2
  · rw [fnt_is.2 (by omega)]; exact h
theorem nx_le {a : Nat} (h : a ≤ L) : nx T L a ≤ L := (skp_is _).2.1 (fnt_le h)
theorem nx_gt {a : Nat} (h : a < L) : a < nx T L a := by
  have h1 := (fnt_is (T := T) (a := a)).1 h
  have h2 := (skp_is (T := T) (L := L) (fnt T L a)).1
  unfold nx
  omega
end
/-- the program's tape -/
def TC (T : Nat → Nat) (L : Nat) (s : MS) : Prop := L ≤ 400 ∧ s 1 1 = nN L ∧ ∀ i, i < L → T i < 256 ∧ s 2 i = nN (T i)
/-- it stands at the token that begins at a -/
def CA (T : Nat → Nat) (L : Nat) (s : MS) (a : Nat) : Prop := TC T L s ∧ s 1 2 = nN a ∧ s 1 3 = nN (fnt T L a) ∧ s 1 4 = nN (kdt T L a) ∧ a ≤ L ∧ skp T L a = a
/-- only the tape's own numbers change -/
def frC (s t : MS) : Prop := (∀ o, o ≠ 1 → t o = s o) ∧ t 1 1 = s 1 1
section
variable {T : Nat → Nat} {L : Nat}
theorem TC_same {s t : MS} (h : TC T L s) (h1 : t 1 1 = s 1 1) (h2 : t 2 = s 2) : TC T L t := ⟨h.1, by rw [h1]; exact h.2.1, fun i hi => by rw [h2]; exact h.2.2 i hi⟩
theorem CA_same {s t : MS} {a : Nat} (h : CA T L s a) (h1 : t 1 = s 1) (h2 : t 2 = s 2) : CA T L t a := by
  obtain ⟨k1, k2, k3, k4, k5⟩ := h
  exact ⟨TC_same k1 (by rw [h1]) h2, by rw [h1]; exact k2, by rw [h1]; exact k3, by rw [h1]; exact k4, k5⟩
theorem c_kind {s : MS} {i : Nat} (h : TC T L s) (hi : i ≤ L) : f_X9_kindAt (nN i) s = some (nN (kdt T L i)) := by
  obtain ⟨h1, h2, h3⟩ := h
  have e48 : (48 : Int32) = nN 48 := rfl
  have e57 : (57 : Int32) = nN 57 := rfl
  have e97 : (97 : Int32) = nN 97 := rfl
  have e122 : (122 : Int32) = nN 122 := rfl
  unfold kdt
  by_cases c : i < L
  · obtain ⟨t1, t2⟩ := h3 i c
    simp (disch := omega) only [f_X9_kindAt, J_X9_kindAt_34, J_X9_kindAt_60, J_X9_kindAt_61, h2, nN_lt, c, if_true, inb_nN, ix_nN, it_t, t2, e48, e57, e97, e122]
    repeat (first | split | omega | rfl)
  · simp (disch := omega) only [f_X9_kindAt, h2, nN_lt, c, if_false]
    rfl
theorem c_adv {s : MS} {n p : Nat} (hn : 6000 ≤ n) (h : TC T L s) (hp : p ≤ L) (h3 : s 1 3 = nN p) : ∃ t, f_X9_advance n s = some (0, t) ∧ CA T L t (skp T L p) ∧ frC s t := by
  obtain ⟨k1, k2, k3⟩ := h
  have hsk := skp_is (T := T) (L := L) p
  have hal := hsk.2.1 hp
  generalize ha : skp T L p = a at *
  generalize hs2 : mu (mu s 1 2 (nN a)) 1 4 (nN (kdt T L a)) = s2
  have r2 : ∀ k, k ≠ 2 → k ≠ 4 → s2 1 k = s 1 k := fun k c1 c2 => by rw [← hs2, mu_own, if_neg c2, mu_own, if_neg c1]
  have ro : ∀ o, o ≠ 1 → s2 o = s o := fun o ho => by rw [← hs2, mu_row ho, mu_row ho]
  have r12 : s2 1 2 = nN a := by rw [← hs2, mu_own, if_neg (by omega), mu_own, if_pos rfl]
  have r14 : s2 1 4 = nN (kdt T L a) := by rw [← hs2, mu_own, if_pos rfl]
  have hTC2 : TC T L s2 := TC_same ⟨k1, k2, k3⟩ (r2 1 (by omega) (by omega)) (ro 2 (by omega))
  have hTC1 : TC T L (mu s 1 2 (nN a)) := TC_same ⟨k1, k2, k3⟩ (by rw [mu_own, if_neg (by omega)]) (mu_row (by omega))
  have l2' : s2 1 1 = nN L := hTC2.2.1
  have hk3 := kdt_le (T := T) (L := L) a
  have hfin : CA T L (mu s2 1 3 (nN (fnt T L a))) a := by
    refine ⟨TC_same hTC2 (by rw [mu_own, if_neg (by omega)]) (mu_row (by omega)), ?_, ?_, ?_, hal, by rw [← ha]; exact (skp_is p).2.2⟩
    · rw [mu_own, if_neg (by omega)]; exact r12
    · rw [mu_own, if_pos rfl]
    · rw [mu_own, if_neg (by omega)]; exact r14
  refine ⟨mu s2 1 3 (nN (fnt T L a)), ?_, hfin, fun o ho => by rw [mu_row ho]; exact ro o ho, by rw [mu_own, if_neg (by omega)]; exact r2 1 (by omega) (by omega)⟩
  have e3 : (3 : Int32) = nN 3 := rfl
  have inner : (if (s2 1 1) ≤ nN a then itr (L_X9_advance_55 n s2) n (nN a) else itr (L_X9_advance_55 n s2) n (nN a + 1)) = some (0, mu s2 1 3 (nN (fnt T L a))) := by
    have one : ∀ i, i ≤ L → (kdt T L a = 3 ∨ ¬ (i < L ∧ kdt T L i = kdt T L a)) → L_X9_advance_55 n s2 (nN i) = some (.inr (0, mu s2 1 3 (nN i))) := by
      intro i hi hc
      have hk := c_kind hTC2 hi
      have hki := kdt_le (T := T) (L := L) i
      simp (disch := omega) only [L_X9_advance_55, J_X9_advance_89, r14, e3, nN_eq, l2', nN_le, hk, bnd_s, ltM_s, Option.map_some]
      by_cases c1 : kdt T L a = 3
      · rw [if_pos c1]
      · rw [if_neg c1]
        by_cases c2 : L ≤ i
        · rw [if_pos c2]
        · rw [if_neg c2, if_neg (by rcases hc with h | h; exact absurd h c1; exact fun e => h ⟨by omega, e⟩)]
    rw [l2', it_le (by omega) (by omega)]
    by_cases c : L ≤ a
    · rw [if_pos c, fnt_is.2 c]
      obtain ⟨m, rfl⟩ : ∃ m, n = m + 1 := ⟨n - 1, by omega⟩
      exact itr_en (one a hal (Or.inr (by omega)))
    · rw [if_neg c, nN_s]
      unfold fnt
      rw [if_pos (by omega)]
      by_cases c3 : kdt T L a = 3
      · rw [if_pos c3]
        obtain ⟨m, rfl⟩ : ∃ m, n = m + 1 := ⟨n - 1, by omega⟩
        exact itr_en (one (a + 1) (by omega) (Or.inl c3))
      · rw [if_neg c3]
        obtain ⟨q1, q2, q3, q4⟩ := sc_is (L := L) (q := fun i => decide (kdt T L i = kdt T L a)) (L - (a + 1)) (a + 1) (Nat.le_refl _)
        refine itr_scan (q := fun i => decide (kdt T L i = kdt T L a)) (fun i => nN i) (L - (a + 1)) n (a + 1) (Nat.le_refl _) (by omega) ?_ (one _ (q2 (by omega)) (Or.inr (fun h => q3 ⟨h.1, decide_eq_true h.2⟩)))
        intro i i1 i2 i3
        have hk := c_kind hTC2 (show i ≤ L by omega)
        have hki := of_decide_eq_true i3
        rw [hki] at hk
        simp (disch := omega) only [L_X9_advance_55, r14, e3, nN_eq, c3, if_false, l2', nN_le, hk, bnd_s, if_true, nN_s]
        rw [if_neg (by omega)]
  unfold f_X9_advance
  rw [h3]
  have e32 : (32 : Int32) = nN 32 := rfl
  refine itr_scan (q := fun i => decide (T i = 32)) (fun i => nN i) (L - p) n p (Nat.le_refl _) (by omega) ?_ ?_
  · intro i i1 i2 i3
    obtain ⟨t1, t2⟩ := k3 i i2
    have t3 := of_decide_eq_true i3
    simp (disch := omega) only [L_X9_advance_5, k2, nN_le, inb_nN, ix_nN, it_t, if_true, t2, e32, nN_eq, t3, nN_s]
    rw [if_neg (by omega)]
  · have hJ : J_X9_advance_30 n (nN a) s = some (0, mu s2 1 3 (nN (fnt T L a))) := by
      simp only [J_X9_advance_30, ltM_s, c_kind hTC1 hal, bnd_s, hs2]
      exact inner
    have ea : sc L (fun i => decide (T i = 32)) p = a := ha
    rw [ea]
    simp (disch := omega) only [L_X9_advance_5, k2, nN_le, hJ, Option.map_some]
    by_cases c : L ≤ a
    · rw [if_pos c]
    · obtain ⟨t1, t2⟩ := k3 a (by omega)
      have hne : ¬ T a = 32 := by
        intro h
        have := (sc_is (L := L) (q := fun i => decide (T i = 32)) (L - p) p (Nat.le_refl _)).2.2.1
        rw [ea] at this
        exact this ⟨by omega, decide_eq_true h⟩
      rw [if_neg c]
      simp (disch := omega) only [inb_nN, ix_nN, it_t, if_true, t2, e32, nN_eq, hne, if_false]
theorem c_next {s : MS} {n a : Nat} (hn : 6000 ≤ n) (h : CA T L s a) : ∃ t, f_X9_advance n s = some (0, t) ∧ CA T L t (nx T L a) ∧ frC s t := by
  obtain ⟨k1, k2, k3, k4, k5, k6⟩ := h
  exact c_adv hn k1 (fnt_le k5) k3
theorem c_begin {s : MS} {n : Nat} (hn : 6000 ≤ n) (h : TC T L s) : ∃ t, f_X9_begin n s = some (0, t) ∧ CA T L t (skp T L 0) ∧ frC s t := by
  obtain ⟨t, h1, h2, h3, h4⟩ := c_adv (s := mu s 1 3 0) (p := 0) hn (TC_same h (by rw [mu_own, if_neg (by omega)]) (mu_row (by omega))) (by omega) (by rw [mu_own]; rfl)
  refine ⟨t, ?_, h2, fun o ho => by rw [h3 o ho, mu_row ho], by rw [h4, mu_own, if_neg (by omega)]⟩
  simp only [f_X9_begin, ltM_s, h1, bnd_s]
theorem c_over {s : MS} {a : Nat} (h : CA T L s a) : f_X9_isOver s = some (bI (decide (L ≤ a))) := by
  obtain ⟨k1, k2, k3, k4, k5, k6⟩ := h
  have hk := kdt_le (T := T) (L := L) a
  have hz : (nN (kdt T L a) = 0) = (L ≤ a) := by rw [l0, nN_eq (by omega) (by omega)]; exact propext kdt_0
  simp only [f_X9_isOver, J_X9_isOver_12, k4, hz]
  by_cases c : L ≤ a
  · rw [if_pos c, decide_eq_true c]; rfl
  · rw [if_neg c, decide_eq_false c]; rfl
def sg (T : Nat → Nat) (L c a : Nat) : Bool := decide (a < L ∧ T a = c)
def sgc (c : Nat) : Prop := c < 48 ∨ (57 < c ∧ c < 97)
theorem sg_kd {c a : Nat} (hc : sgc c) (h : sg T L c a = true) : kdt T L a = 3 ∧ a < L ∧ T a = c ∧ fnt T L a = a + 1 := by
  have h' := of_decide_eq_true h
  unfold sgc at hc
  have k : kdt T L a = 3 := by
    unfold kdt
    rw [if_pos h'.1, if_neg (by omega), if_neg (by omega)]
  refine ⟨k, h'.1, h'.2, ?_⟩
  unfold fnt
  rw [if_pos h'.1, if_pos k]
theorem c_isSign {s : MS} {a c : Nat} (h : CA T L s a) (hc : sgc c) : f_X9_isSign (nN c) s = some (bI (sg T L c a)) := by
  obtain ⟨⟨j1, j2, j3⟩, k2, k3, k4, k5, k6⟩ := h
  have hk := kdt_le (T := T) (L := L) a
  have e3 : (3 : Int32) = nN 3 := rfl
  have hc' : c < 97 := by unfold sgc at hc; omega
  simp (disch := omega) only [f_X9_isSign, J_X9_isSign_25, J_X9_isSign_26, k4, k2, e3, nN_eq]
  by_cases c3 : kdt T L a = 3
  · have hal : a < L := by
      have := kdt_0 (T := T) (L := L) (a := a)
      omega
    obtain ⟨t1, t2⟩ := j3 a hal
    rw [if_pos c3]
    simp (disch := omega) only [inb_nN, ix_nN, it_t, if_true, t2, nN_eq]
    by_cases d : T a = c
    · rw [if_pos d]
      have : sg T L c a = true := decide_eq_true ⟨hal, d⟩
      rw [this]; rfl
    · rw [if_neg d]
      have : sg T L c a = false := decide_eq_false (fun h => d h.2)
      rw [this]; rfl
  · rw [if_neg c3]
    have : sg T L c a = false := by
      cases e : sg T L c a
      · rfl
      · exact absurd (sg_kd hc e).1 c3
    rw [this]; rfl
theorem c_skipSign {s : MS} {n a c : Nat} (hn : 6000 ≤ n) (h : CA T L s a) (hc : sgc c) : ∃ t, f_X9_skipSign n (nN c) s = some (bI (sg T L c a), t) ∧ CA T L t (if sg T L c a = true then nx T L a else a) ∧ frC s t := by
  have h1 := c_isSign h hc
  cases e : sg T L c a
  · rw [e] at h1
    refine ⟨s, ?_, h, fun _ _ => rfl, rfl⟩
    simp only [f_X9_skipSign, h1, bnd_s, bI_f, if_true]
  · rw [e] at h1
    obtain ⟨t, a1, a2, a3⟩ := c_next hn h
    refine ⟨t, ?_, a2, a3⟩
    simp only [f_X9_skipSign, h1, bnd_s, bI_t, one_ne0, if_false, a1]
end
