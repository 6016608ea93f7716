/-! layer 2: the law's text: steps that are told, parts and sums -/
def tyl : List (Nat × Nat) → List Bool → Option (List Bool)
  | [], ts => some ts
  | x :: xs, ts => (ty1 x.1 ts).bind (fun ts' => if ts'.length ≤ 30 then tyl xs ts' else none)
theorem tyl_app : ∀ (xs ys : List (Nat × Nat)) (ts : List Bool), tyl (xs ++ ys) ts = (tyl xs ts).bind (fun ts' => tyl ys ts') := by
  intro xs
  induction xs with
  | nil => intro ys ts; rfl
  | cons x xs ih =>
    intro ys ts
    show (ty1 x.1 ts).bind (fun ts' => if ts'.length ≤ 30 then tyl (xs ++ ys) ts' else none) = ((ty1 x.1 ts).bind (fun ts' => if ts'.length ≤ 30 then tyl xs ts' else none)).bind (fun ts' => tyl ys ts')
    cases ty1 x.1 ts with
    | none => rfl
    | some t =>
      show (if t.length ≤ 30 then tyl (xs ++ ys) t else none) = (if t.length ≤ 30 then tyl xs t else none).bind (fun ts' => tyl ys ts')
      by_cases c : t.length ≤ 30
      · rw [if_pos c, if_pos c]; exact ih ys t
      · rw [if_neg c, if_neg c]; rfl
theorem tyl_1 {x : Nat × Nat} {ts t : List Bool} (h : ty1 x.1 ts = some t) (hl : t.length ≤ 30) : tyl [x] ts = some t := by
  show (ty1 x.1 ts).bind (fun ts' => if ts'.length ≤ 30 then some ts' else none) = some t
  rw [h, bnd_s, if_pos hl]
def rngOK (E : List (Nat × Nat)) : Prop := ∀ x, x ∈ E → x.1 ≤ 14 ∧ x.2 ≤ 999
theorem rngOK_app {E G : List (Nat × Nat)} (h : rngOK E) (h' : rngOK G) : rngOK (E ++ G) := by
  intro x hx
  rcases List.mem_append.mp hx with c | c
  · exact h x c
  · exact h' x c
theorem rngOK_1 {o x : Nat} (h : o ≤ 14) (h' : x ≤ 999) : rngOK [(o, x)] := by
  intro y hy
  rw [List.mem_singleton] at hy
  rw [hy]; exact ⟨h, h'⟩
theorem rngOK_0 : rngOK [] := fun x hx => by cases hx
def gd (E : List (Nat × Nat)) (i : Nat) : Nat × Nat := E.getD i (0, 0)
theorem gd_l {E G : List (Nat × Nat)} {i : Nat} (h : i < E.length) : gd (E ++ G) i = gd E i := by
  unfold gd
  rw [List.getD_eq_getElem?_getD, List.getD_eq_getElem?_getD, List.getElem?_append_left h]
theorem gd_n {E : List (Nat × Nat)} {x : Nat × Nat} : gd (E ++ [x]) E.length = x := by
  unfold gd
  rw [List.getD_eq_getElem?_getD, List.getElem?_append_right (Nat.le_refl _), Nat.sub_self]
  rfl
theorem len_1 {E : List (Nat × Nat)} {x : Nat × Nat} : (E ++ [x]).length = E.length + 1 := by rw [List.length_append]; rfl
def CC (E : List (Nat × Nat)) (s : MS) : Prop := s 37 1 = nN E.length ∧ ∀ i, i < E.length → s 41 i = nN (enc (gd E i).1 (gd E i).2)
def CM (E : List (Nat × Nat)) (m : MS) : Prop := m 171 16 = nN E.length ∧ ∀ i, i < E.length → m 172 (1372 + 2 * i) = nN (gd E i).1 ∧ m 172 (1373 + 2 * i) = nN (gd E i).2
def frL (s t : MS) : Prop := (∀ o, o ≠ 1 → o ≠ 37 → o ≠ 41 → t o = s o) ∧ t 1 1 = s 1 1 ∧ (∀ k, k ≠ 1 → t 37 k = s 37 k)
def frN (m t : MS) : Prop := (∀ o, o ≠ 171 → o ≠ 172 → t o = m o) ∧ (∀ k, k ≠ 10 → k ≠ 12 → k ≠ 13 → k ≠ 16 → t 171 k = m 171 k) ∧ (∀ k, k < 1372 → t 172 k = m 172 k)
theorem frL_refl (s : MS) : frL s s := ⟨fun _ _ _ _ => rfl, rfl, fun _ _ => rfl⟩
theorem frL_trans {s t u : MS} (h : frL s t) (h' : frL t u) : frL s u := ⟨fun o o1 o2 o3 => (h'.1 o o1 o2 o3).trans (h.1 o o1 o2 o3), h'.2.1.trans h.2.1, fun k hk => (h'.2.2 k hk).trans (h.2.2 k hk)⟩
theorem frL_C {s t : MS} (h : frC s t) : frL s t := ⟨fun o o1 _ _ => h.1 o o1, h.2, fun k _ => by rw [h.1 37 (by omega)]⟩
theorem frN_refl (s : MS) : frN s s := ⟨fun _ _ _ => rfl, fun _ _ _ _ _ => rfl, fun _ _ => rfl⟩
theorem frN_trans {s t u : MS} (h : frN s t) (h' : frN t u) : frN s u := ⟨fun o o1 o2 => (h'.1 o o1 o2).trans (h.1 o o1 o2), fun k a b c d => (h'.2.1 k a b c d).trans (h.2.1 k a b c d), fun k hk => (h'.2.2 k hk).trans (h.2.2 k hk)⟩
theorem frN_M {s t : MS} (h : frM s t) : frN s t := ⟨fun o o1 _ => h.1 o o1, fun k a b _ _ => h.2 k a b, fun k _ => by rw [h.1 172 (by omega)]⟩
theorem CC_C {E : List (Nat × Nat)} {s t : MS} (h : CC E s) (f : frC s t) : CC E t := ⟨by rw [f.1 37 (by omega)]; exact h.1, fun i hi => by rw [f.1 41 (by omega)]; exact h.2 i hi⟩
theorem CM_M {E : List (Nat × Nat)} {s t : MS} (h : CM E s) (f : frM s t) : CM E t := ⟨by rw [f.2 16 (by omega) (by omega)]; exact h.1, fun i hi => by rw [f.1 172 (by omega)]; exact h.2 i hi⟩
theorem enc_le {o x : Nat} (hx : x ≤ 999) : enc o x ≤ 2005 ∨ 14 < o := by
  unfold enc
  repeat (first | split | omega)
theorem k_add {E : List (Nat × Nat)} {s : MS} (o x : Nat) (h : CC E s) (hl : E.length < 400) : ∃ t, f_X6_addStep 37 (nN (enc o x)) s = some (0, t) ∧ CC (E ++ [(o, x)]) t ∧ t 1 = s 1 ∧ t 2 = s 2 ∧ frL s t := by
  obtain ⟨h1, h2⟩ := h
  have c : ¬ 400 ≤ E.length := by omega
  have e : ∀ v, mu s (37 + 4) E.length v 37 1 = nN E.length := fun v => by rw [mu_row (by omega)]; exact h1
  refine ⟨mu (mu s (37 + 4) E.length (nN (enc o x))) 37 1 (nN (E.length + 1)), ?_, ⟨?_, ?_⟩, ?_, ?_, ⟨?_, ?_, ?_⟩⟩
  · simp (disch := omega) only [f_X6_addStep, J_X6_addStep_32, h1, l400, nN_le, c, if_false, inb_nN, ix_nN, it_t, if_true, ltM_s, e, nN_s]
  · rw [mu_own, if_pos rfl, len_1]
  · intro i hi
    rw [len_1] at hi
    rw [mu_row (by omega)]
    show mu s (37 + 4) E.length (nN (enc o x)) (37 + 4) i = _
    rw [mu_own]
    by_cases d : i = E.length
    · rw [if_pos d, d, gd_n]
    · rw [if_neg d, gd_l (by omega)]
      exact h2 i (by omega)
  · rw [mu_row (by omega), mu_row (by omega)]
  · rw [mu_row (by omega), mu_row (by omega)]
  · intro o' o1 o2 o3
    rw [mu_row o2, mu_row (by omega)]
  · rw [mu_row (by omega), mu_row (by omega)]
  · intro k hk
    rw [mu_own, if_neg hk, mu_row (by omega)]
def emt (m : MS) (k : Nat) (p q : Int32) : MS := mu (mu (mu m 172 (1372 + 2 * k) p) 172 (1373 + 2 * k) q) 171 16 (nN (k + 1))
theorem e_emits {m : MS} {k : Nat} {p q : Int32} (h : m 171 16 = nN k) (hk : k < 400) : f_X12_emits p q m = some (0, emt m k p q) := by
  have e1 : (1372 : Int32) + (2 : Int32) * nN k = nN (1372 + 2 * k) := by rw [l2, nN_mul]; exact nN_add 1372 _
  have e2 : nN (1372 + 2 * k) + 1 = nN (1373 + 2 * k) := by rw [nN_s]; congr 1; omega
  have w1 : mu m 172 (1372 + 2 * k) p 171 16 = nN k := by rw [mu_row (by omega)]; exact h
  have w2 : mu (mu m 172 (1372 + 2 * k) p) 172 (1373 + 2 * k) q 171 16 = nN k := by rw [mu_row (by omega)]; exact w1
  simp (disch := omega) only [f_X12_emits, h, e1, e2, inb_nN, ix_nN, it_t, if_true, ltM_s, w1, w2, nN_s, emt]
theorem emt_k {m : MS} {k j : Nat} {p q : Int32} (h : j ≠ 16) : emt m k p q 171 j = m 171 j := by
  unfold emt
  rw [mu_own, if_neg h, mu_row (by omega), mu_row (by omega)]
theorem emt_o {m : MS} {k o : Nat} {p q : Int32} (h : o ≠ 171) (h' : o ≠ 172) : emt m k p q o = m o := by
  unfold emt
  rw [mu_row h, mu_row h', mu_row h']
theorem emt_fr {m : MS} {k : Nat} {p q : Int32} : frN m (emt m k p q) := ⟨fun o o1 o2 => emt_o o1 o2, fun j _ _ _ h => emt_k h, fun j hj => by
  unfold emt
  rw [mu_row (by omega), mu_own, if_neg (by omega), mu_own, if_neg (by omega)]⟩
theorem CM_emt {E : List (Nat × Nat)} {m : MS} {o x : Nat} (h : CM E m) : CM (E ++ [(o, x)]) (emt m E.length (nN o) (nN x)) := by
  refine ⟨?_, ?_⟩
  · unfold emt
    rw [mu_own, if_pos rfl, len_1]
  · intro i hi
    rw [len_1] at hi
    unfold emt
    rw [mu_row (by omega), mu_own, mu_own, mu_own, mu_own]
    by_cases d : i = E.length
    · rw [d, if_neg (by omega), if_pos rfl, if_pos rfl, gd_n]
      exact ⟨rfl, rfl⟩
    · rw [if_neg (by omega), if_neg (by omega), if_neg (by omega), if_neg (by omega), gd_l (by omega)]
      exact h.2 i (by omega)
def cont {α β : Type} (f : α → Option (α ⊕ β)) (n : Nat) (x : Option (α ⊕ β)) : Option β := x.bind (fun r => match r with
  | .inl a' => itr f n a'
  | .inr b => some b)
theorem itr_cont {α β : Type} {f : α → Option (α ⊕ β)} {n : Nat} {a : α} : itr f (n + 1) a = cont f n (f a) := rfl
theorem cont_r {α β : Type} {f : α → Option (α ⊕ β)} {n : Nat} {b : β} : cont f n (some (.inr b)) = some b := rfl
theorem cont_l {α β : Type} {f : α → Option (α ⊕ β)} {n : Nat} {a : α} : cont f n (some (.inl a)) = itr f n a := rfl
abbrev FW : List (List Nat) := [wd 10, wd 11, wd 12, wd 13, wd 14, wd 9]
theorem wd32 : wd 32 = jnW FW := by decide +kernel
theorem n32f : ∀ w, w ∈ FW → ∀ c, c ∈ w → c ≠ 32 := by
  have H : FW.all (fun w => w.all (fun c => decide (c ≠ 32))) = true := by decide +kernel
  intro w hw c hc
  exact of_decide_eq_true (List.all_eq_true.mp (List.all_eq_true.mp H w hw) c hc)
section
variable {T : Nat → Nat} {L : Nat}
theorem MP_emt {m : MS} {k p : Nat} {u v : Int32} (h : MP T L m p) : MP T L (emt m k u v) p := by
  obtain ⟨h1, h2, h3, h4, h5⟩ := h
  exact ⟨h1, by rw [emt_k (by omega)]; exact h2, fun i hi => by rw [emt_o (by omega) (by omega)]; exact h3 i hi, by rw [emt_k (by omega)]; exact h4, h5⟩
/-- the program's part of a sum -/
theorem k_part {n a o x i : Nat} {E : List (Nat × Nat)} {s σ0 : MS} (hn : 6000 ≤ n) (hE : E.length + 2 ≤ a) (hs : CA T L s a) (hc : CC E s) (hi : i < 400) (he : enc o x < 3000)
    (h : nmI T L a 0 999 = nN (enc o x) ∨ (nmI T L a 0 999 = -1 ∧ ∃ j, j < 6 ∧ WA T L a FW 0 = nN j ∧ 1000 + j = enc o x)) :
    ∃ t, L_X7_tellsSum_2 n 37 σ0 (nN i, s) = J_X7_tellsSum_82 n 37 (nN i) t ∧ CA T L t (nx T L a) ∧ CC (E ++ [(o, x)] ++ (if i = 0 then [] else [(9, 0)])) t ∧ frL s t := by
  have haL : a ≤ L := hs.2.2.2.2.1
  have hL : L ≤ 400 := hs.1.1
  have hnum := c_num (lo := 0) (hi := 999) hn hs
  have hw : f_X9_wordAmong n 32 s = some (WA T L a FW 0) := c_among hn hs (by omega) wd32 (by simp) n32f
  obtain ⟨t1, a1, a2, a3, a4, a5⟩ := k_add o x hc (by omega)
  obtain ⟨t2, b1, b2, b3⟩ := c_next hn (CA_same hs a3 a4)
  have hi' : ¬ 400 ≤ i := by omega
  have e61 : L_X7_tellsSum_2 n 37 σ0 (nN i, s) = J_X7_tellsSum_61 n 37 (nN i) (nN (enc o x)) s := by
    rcases h with h | ⟨h, j, hj, h2, h3⟩
    · rw [h] at hnum
      simp (disch := omega) only [L_X7_tellsSum_2, J_X7_tellsSum_45, l400, nN_le, hi', if_false, hnum, hw, bnd_s, nN_m1]
    · rw [h] at hnum
      rw [h2] at hw
      have e : (1000 : Int32) + nN j = nN (enc o x) := by rw [← h3]; exact nN_add 1000 j
      simp (disch := omega) only [L_X7_tellsSum_2, J_X7_tellsSum_45, l400, nN_le, hi', if_false, hnum, hw, bnd_s, nN_m1, if_true, e]
  rw [e61]
  by_cases c : i = 0
  · refine ⟨t2, ?_, b2, ?_, frL_trans a5 (frL_C b3)⟩
    · have c0 : i ≤ 0 := by omega
      simp (disch := omega) only [J_X7_tellsSum_61, a1, bnd_s, b1, l0, nN_le, c0, if_true]
    · rw [if_pos c, List.append_nil]
      exact CC_C a2 b3
  · obtain ⟨t3, d1, d2, d3, d4, d5⟩ := k_add 9 0 (CC_C a2 b3) (by rw [len_1]; omega)
    have e9 : (2003 : Int32) = nN (enc 9 0) := by decide +kernel
    refine ⟨t3, ?_, CA_same b2 d3 d4, ?_, frL_trans a5 (frL_trans (frL_C b3) d5)⟩
    · have c0 : ¬ i ≤ 0 := by omega
      simp (disch := omega) only [J_X7_tellsSum_61, a1, bnd_s, b1, l0, nN_le, c0, if_false, e9, d1]
    · rw [if_neg c]; exact d2
/-- a part: both take it, or neither does -/
theorem lpart {n a : Nat} {E : List (Nat × Nat)} (hn : 6000 ≤ n) (hL : L ≤ 400) (ha : a ≤ L) (hE : E.length + 2 ≤ a) :
    (∃ o x, (o ≤ 5 ∨ o = 8) ∧ x ≤ 999 ∧ a < L ∧
      (∀ s i σ0, CA T L s a → CC E s → i < 400 → ∃ t, L_X7_tellsSum_2 n 37 σ0 (nN i, s) = J_X7_tellsSum_82 n 37 (nN i) t ∧ CA T L t (nx T L a) ∧ CC (E ++ [(o, x)] ++ (if i = 0 then [] else [(9, 0)])) t ∧ frL s t) ∧
      (∀ m p, MP T L m p → skp T L p = a → CM E m → ∃ t, f_X12_readPart n m = some (1, t) ∧ MP T L t (fnt T L a) ∧ CM (E ++ [(o, x)]) t ∧ t 171 13 = m 171 13 ∧ frN m t)) ∨
    ((∀ s i σ0, CA T L s a → i < 400 → L_X7_tellsSum_2 n 37 σ0 (nN i, s) = some (.inr (0, s))) ∧ (∀ m p, MP T L m p → skp T L p = a → CM E m → ∃ t, f_X12_readPart n m = some (0, t) ∧ t 171 12 = nN a ∧ frN m t)) := by
  have mw : ∀ (m : MS) (p : Nat), MP T L m p → skp T L p = a → ∃ t, f_X12_letters n m = some (0, t) ∧ MP T L t (ltt T L a) ∧ t 171 12 = nN a ∧ frM m t ∧ ∀ z, z < 33 → f_X12_isWord n z t = some (bI (wq T L (wd z) a)) := by
    intro m p hm hp
    obtain ⟨t, k1, k2, k3, k4⟩ := m_letters hn hm
    rw [hp] at k2 k3
    exact ⟨t, k1, k2, k3, k4, fun z hz => m_isWord hn k2 k3 ha hz (wd_pos z hz)⟩
  by_cases k1 : kdt T L a = 1
  · -- a word
    have hal := (kd_1i.mp k1).1
    have hf := (fnt_is (T := T) (L := L) (a := a)).1 hal
    have hl : ltt T L a = fnt T L a := by unfold ltt; rw [if_pos k1]
    have hnm : nmI T L a 0 999 = -1 := by
      unfold nmI
      rw [if_neg (fun h => by have := h.1; omega)]
    have pt : ∀ t : MS, MP T L t (ltt T L a) → t 171 12 = nN a → (t 171 10 = t 171 12) = False := by
      intro t h1 h2
      rw [h1.2.2.2.1, h2, hl]
      exact nN_eqf (by omega) (by omega) (by omega)
    have go : ∀ j, j < 6 → WA T L a FW 0 = nN j → (∀ t : MS, MP T L t (ltt T L a) → t 171 12 = nN a → (∀ z, z < 33 → f_X12_isWord n z t = some (bI (wq T L (wd z) a))) → ∀ m : MS, f_X12_letters n m = some (0, t) → f_X12_readPart n m = J_X12_readPart_113 n (nN j) t) →
        ∃ o x, (o ≤ 5 ∨ o = 8) ∧ x ≤ 999 ∧ a < L ∧
      (∀ s i σ0, CA T L s a → CC E s → i < 400 → ∃ t, L_X7_tellsSum_2 n 37 σ0 (nN i, s) = J_X7_tellsSum_82 n 37 (nN i) t ∧ CA T L t (nx T L a) ∧ CC (E ++ [(o, x)] ++ (if i = 0 then [] else [(9, 0)])) t ∧ frL s t) ∧
      (∀ m p, MP T L m p → skp T L p = a → CM E m → ∃ t, f_X12_readPart n m = some (1, t) ∧ MP T L t (fnt T L a) ∧ CM (E ++ [(o, x)]) t ∧ t 171 13 = m 171 13 ∧ frN m t) := by
      intro j hj hw hm0
      have ej : 1000 + j = enc j 0 := by unfold enc; rw [if_pos (by omega)]
      refine ⟨j, 0, by omega, by omega, hal, ?_, ?_⟩
      · intro s i σ0 hs hc hi
        exact k_part hn hE hs hc hi (by omega) (Or.inr ⟨hnm, j, hj, hw, ej⟩)
      · intro m p hm hp hcm
        obtain ⟨t, k1', k2, k3, k4, k5⟩ := mw m p hm hp
        have hcm' := CM_M hcm k4
        have em := e_emits (p := nN j) (q := nN 0) hcm'.1 (by omega)
        have em' : f_X12_emits (nN j) 0 t = some (0, emt t E.length (nN j) (nN 0)) := em
        refine ⟨emt t E.length (nN j) (nN 0), ?_, by rw [← hl]; exact MP_emt k2, CM_emt hcm', by rw [emt_k (by omega), k4.2 13 (by omega) (by omega)], frN_trans (frN_M k4) emt_fr⟩
        rw [hm0 t k2 k3 k5 m k1']
        simp (disch := omega) only [J_X12_readPart_113, J_X12_readPart_120, J_X12_readPart_129, em', bnd_s, nN_lt0, if_false, ok_1, or_true, if_true]
    have ne : ∀ t : MS, MP T L t (ltt T L a) → t 171 12 = nN a → (t 171 10 = t 171 12) = False := pt
    cases q0 : wq T L (wd 10) a
    case true =>
      refine Or.inl (go 0 (by omega) (by simp only [WA_c, q0, if_true]) ?_)
      intro t h1 h2 h3 m hm
      simp only [f_X12_readPart, hm, bnd_s, pt t h1 h2, if_false, h3 10 (by omega), q0, bI_t, one_ne0]
      rfl
    case false =>
    cases q1 : wq T L (wd 11) a
    case true =>
      refine Or.inl (go 1 (by omega) (by simp only [WA_c, q0, q1, if_true, Bool.false_eq_true, if_false]) ?_)
      intro t h1 h2 h3 m hm
      simp only [f_X12_readPart, hm, bnd_s, pt t h1 h2, if_false, h3 10 (by omega), h3 11 (by omega), q0, q1, bI_t, bI_f, one_ne0, if_true]
      rfl
    case false =>
    cases q2 : wq T L (wd 12) a
    case true =>
      refine Or.inl (go 2 (by omega) (by simp only [WA_c, q0, q1, q2, if_true, Bool.false_eq_true, if_false]) ?_)
      intro t h1 h2 h3 m hm
      simp only [f_X12_readPart, hm, bnd_s, pt t h1 h2, if_false, h3 10 (by omega), h3 11 (by omega), h3 12 (by omega), q0, q1, q2, bI_t, bI_f, one_ne0, if_true]
      rfl
    case false =>
    cases q3 : wq T L (wd 13) a
    case true =>
      refine Or.inl (go 3 (by omega) (by simp only [WA_c, q0, q1, q2, q3, if_true, Bool.false_eq_true, if_false]) ?_)
      intro t h1 h2 h3 m hm
      simp only [f_X12_readPart, hm, bnd_s, pt t h1 h2, if_false, h3 10 (by omega), h3 11 (by omega), h3 12 (by omega), h3 13 (by omega), q0, q1, q2, q3, bI_t, bI_f, one_ne0, if_true]
      rfl
    case false =>
    cases q4 : wq T L (wd 14) a
    case true =>
      refine Or.inl (go 4 (by omega) (by simp only [WA_c, q0, q1, q2, q3, q4, if_true, Bool.false_eq_true, if_false]) ?_)
      intro t h1 h2 h3 m hm
      simp only [f_X12_readPart, hm, bnd_s, pt t h1 h2, if_false, h3 10 (by omega), h3 11 (by omega), h3 12 (by omega), h3 13 (by omega), h3 14 (by omega), q0, q1, q2, q3, q4, bI_t, bI_f, one_ne0, if_true]
      rfl
    case false =>
    cases q5 : wq T L (wd 9) a
    case true =>
      refine Or.inl (go 5 (by omega) (by simp only [WA_c, q0, q1, q2, q3, q4, q5, if_true, Bool.false_eq_true, if_false]) ?_)
      intro t h1 h2 h3 m hm
      simp only [f_X12_readPart, hm, bnd_s, pt t h1 h2, if_false, h3 10 (by omega), h3 11 (by omega), h3 12 (by omega), h3 13 (by omega), h3 14 (by omega), h3 9 (by omega), q0, q1, q2, q3, q4, q5, bI_t, bI_f, one_ne0, if_true]
      rfl
    case false =>
      have hw0 : WA T L a FW 0 = -1 := by simp only [WA_c, WA_n, q0, q1, q2, q3, q4, q5, Bool.false_eq_true, if_false]
      right
      refine ⟨?_, ?_⟩
      · intro s i σ0 hs hi
        have hnum := c_num (lo := 0) (hi := 999) hn hs
        rw [hnm] at hnum
        have hw : f_X9_wordAmong n 32 s = some (WA T L a FW 0) := c_among hn hs (by omega) wd32 (by simp) n32f
        rw [hw0] at hw
        have hi' : ¬ 400 ≤ i := by omega
        simp (disch := omega) only [L_X7_tellsSum_2, l400, nN_le, hi', if_false, hnum, hw, bnd_s, if_true, Option.map_some]
      · intro m p hm hp hcm
        obtain ⟨t, k1', k2, k3, k4, k5⟩ := mw m p hm hp
        have hcm' := CM_M hcm k4
        have em := e_emits (p := -1) (q := 0) hcm'.1 (by omega)
        refine ⟨emt t E.length (-1) 0, ?_, by rw [emt_k (by omega)]; exact k3, frN_trans (frN_M k4) emt_fr⟩
        simp only [f_X12_readPart, k1', bnd_s, pt t k2 k3, if_false, k5 10 (by omega), k5 11 (by omega), k5 12 (by omega), k5 13 (by omega), k5 14 (by omega), k5 9 (by omega), q0, q1, q2, q3, q4, q5, bI_f, if_true, J_X12_readPart_113, J_X12_readPart_120, J_X12_readPart_129, em, m1_lt0, ok_0, true_or, if_true]
  · -- no word
    have hl : ltt T L a = a := by unfold ltt; rw [if_neg k1]
    have hw0 : WA T L a FW 0 = -1 := WA_none k1 _ _
    have pt : ∀ t : MS, MP T L t (ltt T L a) → t 171 12 = nN a → t 171 10 = t 171 12 := by
      intro t h1 h2
      rw [h1.2.2.2.1, h2, hl]
    have e8 : (8 : Int32) = nN 8 := rfl
    have mrun : ∀ m p, MP T L m p → skp T L p = a → CM E m → ∃ t t2, f_X12_letters n m = some (0, t) ∧ t 171 10 = t 171 12 ∧ f_X12_number n 0 999 t = some (nmI T L a 0 999, t2) ∧ MP T L t2 (dgt T L a) ∧ t2 171 12 = nN a ∧ CM E t2 ∧ frM m t2 := by
      intro m p hm hp hcm
      obtain ⟨t, k1', k2, k3, k4, k5⟩ := mw m p hm hp
      obtain ⟨t2, j1, j2, j3, j4⟩ := m_num (lo := 0) (hi := 999) hn k2
      have hsk : skp T L (ltt T L a) = a := by rw [hl, ← hp]; exact (skp_is p).2.2
      rw [hsk] at j1 j2 j3
      exact ⟨t, t2, k1', pt t k2 k3, j1, j2, j3, CM_M (CM_M hcm k4) j4, frM_trans k4 j4⟩
    rcases nmI_is (T := T) (L := L) a 0 999 with h | ⟨v, h, h1, h2, h3, h4, h5⟩
    · right
      refine ⟨?_, ?_⟩
      · intro s i σ0 hs hi
        have hnum := c_num (lo := 0) (hi := 999) hn hs
        rw [h] at hnum
        have hw : f_X9_wordAmong n 32 s = some (WA T L a FW 0) := c_among hn hs (by omega) wd32 (by simp) n32f
        rw [hw0] at hw
        have hi' : ¬ 400 ≤ i := by omega
        simp (disch := omega) only [L_X7_tellsSum_2, l400, nN_le, hi', if_false, hnum, hw, bnd_s, if_true, Option.map_some]
      · intro m p hm hp hcm
        obtain ⟨t, t2, r1, r2, r3, r4, r5, r6, r7⟩ := mrun m p hm hp hcm
        rw [h] at r3
        have em := e_emits (p := 8) (q := -1) r6.1 (by omega)
        refine ⟨emt t2 E.length 8 (-1), ?_, by rw [emt_k (by omega)]; exact r5, frN_trans (frN_M r7) emt_fr⟩
        simp only [f_X12_readPart, r1, bnd_s, r2, if_true, r3, em, J_X12_readPart_120, J_X12_readPart_129, m1_lt0, ok_0, true_or, if_true]
    · left
      refine ⟨8, v, by omega, h1, h3, ?_, ?_⟩
      · intro s i σ0 hs hc hi
        have e : enc 8 v = v := by unfold enc; rw [if_neg (by omega), if_pos rfl]
        exact k_part hn hE hs hc hi (by omega) (Or.inl (by rw [e]; exact h))
      · intro m p hm hp hcm
        obtain ⟨t, t2, r1, r2, r3, r4, r5, r6, r7⟩ := mrun m p hm hp hcm
        rw [h] at r3
        have em := e_emits (p := nN 8) (q := nN v) r6.1 (by omega)
        have em' : f_X12_emits 8 (nN v) t2 = some (0, emt t2 E.length (nN 8) (nN v)) := em
        have hd : dgt T L a = fnt T L a := by unfold dgt; rw [if_pos h2]
        refine ⟨emt t2 E.length (nN 8) (nN v), ?_, by rw [← hd]; exact MP_emt r4, CM_emt r6, by rw [emt_k (by omega), r7.2 13 (by omega) (by omega)], frN_trans (frN_M r7) emt_fr⟩
        simp (disch := omega) only [f_X12_readPart, r1, bnd_s, r2, if_true, r3, em', J_X12_readPart_120, J_X12_readPart_129, nN_lt0, if_false, ok_1, or_true, if_true]
theorem ty_f {o : Nat} {ts : List Bool} (h : o ≤ 5 ∨ o = 8) : ty1 o ts = some (false :: ts) := by
  unfold ty1
  rw [if_pos h]
theorem ty_9 {ts : List Bool} : ty1 9 (false :: false :: ts) = some (false :: ts) := rfl
/-- behind a part: + and another, as often as it stands -/
theorem sum_rest {n : Nat} (hn : 6000 ≤ n) (hL : L ≤ 400) : ∀ k a (E : List (Nat × Nat)), L - a ≤ k → a ≤ L → skp T L a = a → E.length + 2 ≤ a → ∃ ok E' a', a' ≤ L ∧
    (ok = true → skp T L a' = a' ∧ a ≤ a' ∧ ∃ G, E' = E ++ G ∧ rngOK G ∧ (∀ ts : List Bool, ts.length ≤ 28 → tyl G (false :: ts) = some (false :: ts)) ∧ G.length + a ≤ a') ∧
    (∀ s i n' σ0, CA T L s a → CC E s → i + 2 ≤ a → L - a < n' → ∃ t, cont (L_X7_tellsSum_2 n 37 σ0) n' (J_X7_tellsSum_82 n 37 (nN i) s) = some (bI ok, t) ∧ (ok = true → CA T L t a' ∧ CC E' t) ∧ (ok = false → t 1 2 = nN a' ∧ ∃ c, c ≤ 400 ∧ t 37 1 = nN c) ∧ frL s t) ∧
    (∀ m p n' σ0, MP T L m p → skp T L p = a → CM E m → L - a < n' → ∃ t p', itr (L_X12_readSum_9 n σ0) n' m = some (bI ok, t) ∧ (ok = true → MP T L t p' ∧ skp T L p' = a' ∧ CM E' t ∧ t 171 13 = m 171 13) ∧ (ok = false → t 171 12 = nN a') ∧ frN m t) := by
  intro k
  induction k with
  | zero =>
    intro a E h0 ha hsk hE
    have hsg : sg T L 43 a = false := decide_eq_false (by omega)
    refine ⟨true, E, a, ha, fun _ => ⟨hsk, Nat.le_refl _, [], by rw [List.append_nil], rngOK_0, fun ts _ => rfl, by show 0 + a ≤ a; omega⟩, ?_, ?_⟩
    · intro s i n' σ0 hs hc hi hn'
      have h1 := c_isSign (c := 43) hs (by unfold sgc; omega)
      rw [hsg] at h1
      have h1' : f_X9_isSign 43 s = some (bI false) := h1
      refine ⟨s, ?_, fun _ => ⟨hs, hc⟩, no_c, frL_refl s⟩
      simp only [J_X7_tellsSum_82, h1', bnd_s, bI_f, if_true, Option.map_some, cont_r, bI_t]
    · intro m p n' σ0 hm hp hcm hn'
      obtain ⟨q, rfl⟩ : ∃ q, n' = q + 1 := ⟨n' - 1, by omega⟩
      obtain ⟨t, k1, k2, k3, k4⟩ := m_sign (c := 43) hn hm (by omega)
      rw [hp, hsg] at k1 k2
      have k1' : f_X12_sign n 43 m = some (bI false, t) := k1
      refine ⟨t, a, itr_en ?_, fun _ => ⟨k2, hsk, CM_M hcm k4, k4.2 13 (by omega) (by omega)⟩, no_c, frN_M k4⟩
      simp only [L_X12_readSum_9, k1', bnd_s, bI_f, if_true, Option.map_some, bI_t]
  | succ k ih =>
    intro a E h0 ha hsk hE
    cases hsg : sg T L 43 a
    · refine ⟨true, E, a, ha, fun _ => ⟨hsk, Nat.le_refl _, [], by rw [List.append_nil], rngOK_0, fun ts _ => rfl, by show 0 + a ≤ a; omega⟩, ?_, ?_⟩
      · intro s i n' σ0 hs hc hi hn'
        have h1 := c_isSign (c := 43) hs (by unfold sgc; omega)
        rw [hsg] at h1
        have h1' : f_X9_isSign 43 s = some (bI false) := h1
        refine ⟨s, ?_, fun _ => ⟨hs, hc⟩, no_c, frL_refl s⟩
        simp only [J_X7_tellsSum_82, h1', bnd_s, bI_f, if_true, Option.map_some, cont_r, bI_t]
      · intro m p n' σ0 hm hp hcm hn'
        obtain ⟨q, rfl⟩ : ∃ q, n' = q + 1 := ⟨n' - 1, by omega⟩
        obtain ⟨t, k1, k2, k3, k4⟩ := m_sign (c := 43) hn hm (by omega)
        rw [hp, hsg] at k1 k2
        have k1' : f_X12_sign n 43 m = some (bI false, t) := k1
        refine ⟨t, a, itr_en ?_, fun _ => ⟨k2, hsk, CM_M hcm k4, k4.2 13 (by omega) (by omega)⟩, no_c, frN_M k4⟩
        simp only [L_X12_readSum_9, k1', bnd_s, bI_f, if_true, Option.map_some, bI_t]
    · have hkd := sg_kd (c := 43) (by unfold sgc; omega) hsg
      have hnx : skp T L (a + 1) = nx T L a := by unfold nx; rw [hkd.2.2.2]
      have hb := nx_le (T := T) ha
      have hgt := nx_gt (T := T) hkd.2.1
      have cls : ∀ s i n' σ0, CA T L s a → CC E s → ∃ t, cont (L_X7_tellsSum_2 n 37 σ0) n' (J_X7_tellsSum_82 n 37 (nN i) s) = itr (L_X7_tellsSum_2 n 37 σ0) n' (nN (i + 1), t) ∧ CA T L t (nx T L a) ∧ CC E t ∧ frL s t := by
        intro s i n' σ0 hs hc
        have h1 := c_isSign (c := 43) hs (by unfold sgc; omega)
        rw [hsg] at h1
        have h1' : f_X9_isSign 43 s = some (bI true) := h1
        obtain ⟨t, j1, j2, j3⟩ := c_next hn hs
        refine ⟨t, ?_, j2, CC_C hc j3, frL_C j3⟩
        simp only [J_X7_tellsSum_82, h1', bnd_s, bI_t, one_ne0, if_false, j1, nN_s, cont_l]
      have mod : ∀ m p, MP T L m p → skp T L p = a → CM E m → ∃ t, f_X12_sign n 43 m = some (1, t) ∧ MP T L t (a + 1) ∧ CM E t ∧ frM m t := by
        intro m p hm hp hcm
        obtain ⟨t, k1, k2, k3, k4⟩ := m_sign (c := 43) hn hm (by omega)
        rw [hp, hsg] at k1 k2
        rw [if_pos rfl] at k2
        exact ⟨t, k1, k2, CM_M hcm k4, k4⟩
      rcases lpart (T := T) (L := L) (n := n) (a := nx T L a) (E := E) hn hL hb (by omega) with ⟨o, x, ho, hx, hlt, hC, hM⟩ | ⟨hC, hM⟩
      · have hb2 := nx_le (T := T) hb
        have hgt2 := nx_gt (T := T) hlt
        have len2 : (E ++ [(o, x)] ++ [(9, 0)]).length = E.length + 2 := by rw [len_1, len_1]
        obtain ⟨ok, E', a', i1, i2, i3, i4⟩ := ih (nx T L (nx T L a)) (E ++ [(o, x)] ++ [(9, 0)]) (by omega) hb2 (nx_sk _) (by rw [len2]; omega)
        refine ⟨ok, E', a', i1, ?_, ?_, ?_⟩
        · intro hok
          obtain ⟨j1, j2, G, j3, j4, j5, j6⟩ := i2 hok
          refine ⟨j1, by omega, (o, x) :: (9, 0) :: G, ?_, ?_, ?_, ?_⟩
          · rw [j3, List.append_assoc, List.append_assoc]; rfl
          · exact rngOK_app (rngOK_1 (o := o) (x := x) (by omega) hx) (rngOK_app (rngOK_1 (o := 9) (x := 0) (by omega) (by omega)) j4)
          · intro ts hts
            show (ty1 o (false :: ts)).bind (fun ts' => if ts'.length ≤ 30 then (ty1 9 ts').bind (fun ts' => if ts'.length ≤ 30 then tyl G ts' else none) else none) = _
            rw [ty_f ho, bnd_s, if_pos (by simp only [List.length_cons]; omega), ty_9, bnd_s, if_pos (by simp only [List.length_cons]; omega)]
            exact j5 ts hts
          · simp only [List.length_cons]; omega
        · intro s i n' σ0 hs hc hi hn'
          obtain ⟨q, rfl⟩ : ∃ q, n' = q + 1 := ⟨n' - 1, by omega⟩
          obtain ⟨t, k1, k2, k3, k4⟩ := cls s i (q + 1) σ0 hs hc
          obtain ⟨t2, r1, r2, r3, r4⟩ := hC t (i + 1) σ0 k2 k3 (by omega)
          rw [if_neg (by omega)] at r3
          obtain ⟨t3, w1, w2, w3, w4⟩ := i3 t2 (i + 1) q σ0 r2 r3 (by omega) (by omega)
          refine ⟨t3, ?_, w2, w3, frL_trans k4 (frL_trans r4 w4)⟩
          rw [k1, itr_cont, r1]
          exact w1
        · intro m p n' σ0 hm hp hcm hn'
          obtain ⟨q, rfl⟩ : ∃ q, n' = q + 1 := ⟨n' - 1, by omega⟩
          obtain ⟨t, k1, k2, k3, k4⟩ := mod m p hm hp hcm
          obtain ⟨t2, r1, r2, r3, r4, r5⟩ := hM t (a + 1) k2 hnx k3
          have em := e_emits (p := nN 9) (q := nN 0) r3.1 (by rw [len_1]; omega)
          have em' : f_X12_emits 9 0 t2 = some (0, emt t2 (E ++ [(o, x)]).length (nN 9) (nN 0)) := em
          obtain ⟨t3, p', w1, w2, w3, w4⟩ := i4 (emt t2 (E ++ [(o, x)]).length (nN 9) (nN 0)) (fnt T L (nx T L a)) q σ0 (MP_emt r2) rfl (CM_emt r3) (by omega)
          refine ⟨t3, p', ?_, fun h => ?_, w3, frN_trans (frN_M k4) (frN_trans r5 (frN_trans emt_fr w4))⟩
          · rw [itr_st (a' := emt t2 (E ++ [(o, x)]).length (nN 9) (nN 0))]
            · exact w1
            · simp only [L_X12_readSum_9, k1, bnd_s, one_ne0, if_false, r1, em']
          · obtain ⟨z1, z2, z3, z4⟩ := w2 h
            exact ⟨z1, z2, z3, by rw [z4, emt_k (by omega), r4, k4.2 13 (by omega) (by omega)]⟩
      · refine ⟨false, E, nx T L a, hb, no_c, ?_, ?_⟩
        · intro s i n' σ0 hs hc hi hn'
          obtain ⟨q, rfl⟩ : ∃ q, n' = q + 1 := ⟨n' - 1, by omega⟩
          obtain ⟨t, k1, k2, k3, k4⟩ := cls s i (q + 1) σ0 hs hc
          refine ⟨t, ?_, no_c, fun _ => ⟨k2.2.1, E.length, by omega, k3.1⟩, k4⟩
          rw [k1, itr_cont, hC t (i + 1) σ0 k2 (by omega), cont_r]
          rfl
        · intro m p n' σ0 hm hp hcm hn'
          obtain ⟨q, rfl⟩ : ∃ q, n' = q + 1 := ⟨n' - 1, by omega⟩
          obtain ⟨t, k1, k2, k3, k4⟩ := mod m p hm hp hcm
          obtain ⟨t2, r1, r2, r3⟩ := hM t (a + 1) k2 hnx k3
          refine ⟨t2, 0, itr_en ?_, no_c, fun _ => r2, frN_trans (frN_M k4) r3⟩
          simp only [L_X12_readSum_9, k1, bnd_s, one_ne0, if_false, r1, if_true, Option.map_some, bI_f]
/-- a piece of a condition, told alike -/
def PieceR (T : Nat → Nat) (L : Nat) (E : List (Nat × Nat)) (a d k : Nat) (b : Bool) (F M : MS → Option (Int32 × MS)) : Prop := ∃ ok E' a', a' ≤ L ∧
  (ok = true → skp T L a' = a' ∧ ∃ G, E' = E ++ G ∧ rngOK G ∧ (∀ ts : List Bool, ts.length ≤ k → tyl G ts = some (b :: ts)) ∧ G.length + a ≤ a' ∧ a < a') ∧
  (∀ s, CA T L s a → CC E s → ∃ t, F s = some (bI ok, t) ∧ (ok = true → CA T L t a' ∧ CC E' t) ∧ (ok = false → t 1 2 = nN a' ∧ ∃ c, c ≤ 400 ∧ t 37 1 = nN c) ∧ frL s t) ∧
  (∀ m p, MP T L m p → skp T L p = a → CM E m → m 171 13 = nN d → ∃ t p', M m = some (bI ok, t) ∧ (ok = true → MP T L t p' ∧ skp T L p' = a' ∧ CM E' t ∧ t 171 13 = nN d) ∧ (ok = false → t 171 12 = nN a') ∧ frN m t)
theorem p_sum {n a d : Nat} {E : List (Nat × Nat)} (hn : 6000 ≤ n) (hL : L ≤ 400) (ha : a ≤ L) (hE : E.length + 2 ≤ a) : PieceR T L E a d 28 false (fun s => f_X7_tellsSum n 37 s) (fun m => f_X12_readSum n m) := by
  obtain ⟨n', hn'⟩ : ∃ n', n = n' + 1 := ⟨n - 1, by omega⟩
  rcases lpart (T := T) (L := L) (n := n) (a := a) (E := E) hn hL ha hE with ⟨o, x, ho, hx, hlt, hC, hM⟩ | ⟨hC, hM⟩
  · have hb := nx_le (T := T) ha
    have hgt := nx_gt (T := T) hlt
    obtain ⟨ok, E', a', i1, i2, i3, i4⟩ := sum_rest (T := T) (L := L) hn hL (L - nx T L a) (nx T L a) (E ++ [(o, x)]) (Nat.le_refl _) hb (nx_sk _) (by rw [len_1]; omega)
    refine ⟨ok, E', a', i1, ?_, ?_, ?_⟩
    · intro hok
      obtain ⟨j1, j2, G, j3, j4, j5, j6⟩ := i2 hok
      refine ⟨j1, (o, x) :: G, ?_, ?_, ?_, ?_, by omega⟩
      · rw [j3, List.append_assoc]; rfl
      · exact rngOK_app (rngOK_1 (o := o) (x := x) (by omega) hx) j4
      · intro ts hts
        show (ty1 o ts).bind (fun ts' => if ts'.length ≤ 30 then tyl G ts' else none) = _
        rw [ty_f ho, bnd_s, if_pos (by simp only [List.length_cons]; omega)]
        exact j5 ts hts
      · simp only [List.length_cons]; omega
    · intro s hs hc
      obtain ⟨t, r1, r2, r3, r4⟩ := hC s 0 s hs hc (by omega)
      rw [if_pos rfl, List.append_nil] at r3
      obtain ⟨t3, w1, w2, w3, w4⟩ := i3 t 0 n' s r2 r3 (by omega) (by omega)
      refine ⟨t3, ?_, w2, w3, frL_trans r4 w4⟩
      have e : f_X7_tellsSum n 37 s = cont (L_X7_tellsSum_2 n 37 s) n' (L_X7_tellsSum_2 n 37 s (nN 0, s)) := by
        unfold f_X7_tellsSum
        conv => lhs; rw [show itr (L_X7_tellsSum_2 n 37 s) n ((0 : Int32), s) = itr (L_X7_tellsSum_2 n 37 s) (n' + 1) ((0 : Int32), s) by rw [← hn']]
        rfl
      show f_X7_tellsSum n 37 s = _
      rw [e, r1]
      exact w1
    · intro m p hm hp hcm hd
      obtain ⟨t2, r1, r2, r3, r4, r5⟩ := hM m p hm hp hcm
      obtain ⟨t3, p', w1, w2, w3, w4⟩ := i4 t2 (fnt T L a) n m r2 rfl r3 (by omega)
      refine ⟨t3, p', ?_, fun h => ?_, w3, frN_trans r5 w4⟩
      · simp only [f_X12_readSum, r1, bnd_s, one_ne0, if_false, w1]
      · obtain ⟨z1, z2, z3, z4⟩ := w2 h
        exact ⟨z1, z2, z3, by rw [z4, r4, hd]⟩
  · refine ⟨false, E, a, ha, no_c, ?_, ?_⟩
    · intro s hs hc
      refine ⟨s, ?_, no_c, fun _ => ⟨hs.2.1, E.length, by omega, hc.1⟩, frL_refl s⟩
      have h0 := hC s 0 s hs (by omega)
      have e : f_X7_tellsSum n 37 s = cont (L_X7_tellsSum_2 n 37 s) n' (L_X7_tellsSum_2 n 37 s (nN 0, s)) := by
        unfold f_X7_tellsSum
        conv => lhs; rw [show itr (L_X7_tellsSum_2 n 37 s) n ((0 : Int32), s) = itr (L_X7_tellsSum_2 n 37 s) (n' + 1) ((0 : Int32), s) by rw [← hn']]
        rfl
      show f_X7_tellsSum n 37 s = _
      rw [e, h0, cont_r]
      rfl
    · intro m p hm hp hcm hd
      obtain ⟨t2, r1, r2, r3⟩ := hM m p hm hp hcm
      refine ⟨t2, 0, ?_, no_c, fun _ => r2, r3⟩
      simp only [f_X12_readSum, r1, bnd_s, if_true, bI_f]
end
